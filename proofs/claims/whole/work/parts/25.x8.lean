/-! decompiled methods and their walks (printed by gen/gen.py) -/
def bX8_abort_28  (a0 : Nat) (x1 : Int32) (s0 : Int32) (z : Nat) (h : AH) : Option ((Int32 ⊕ String) × Nat × AH) :=
  bd3 (fX8_needState s0 z h) (fun vo1 zo1 ho1h => xr vo1 (fun v2 => gd (kd ho1h a0 = 9) (Option.bind (rv ho1h a0 5) (fun b5 => Option.bind (rv ho1h a0 0) (fun b6 => gd (kd ho1h b5 = 4) (bd2 (fX3_keep b5 b6 zo1 ho1h) (fun zo8 ho8h => gd (kd ho8h a0 = 9) (Option.bind (rv ho8h a0 4) (fun b10 => gd (kd ho8h b10 = 2) (bd3 (fX1_kill b10 x1 zo8 ho8h) (fun vo12 zo12 ho12h => some (.inl vo12, zo12, ho12h))))))))))) (fun x3 => some (.inr x3, zo1, ho1h)))
def fX8_abort  (a0 : Nat) (x1 : Int32) (z : Nat) (h : AH) : Option ((Int32 ⊕ String) × Nat × AH) :=
  gd (kd h a0 = 9) (Option.bind (rv h a0 0) (fun b2 => gd (kd h b2 = 1) (bd3 (fX0_has b2 x1 z h) (fun vo4 zo4 ho4h => bd3 (fX8_needThing vo4 zo4 ho4h) (fun vo5 zo5 ho5h => xr vo5 (fun v6 => gd (kd ho5h a0 = 9) (Option.bind (rv ho5h a0 0) (fun b9 => gd (kd ho5h b9 = 1) (bd3 (fX0_isIn b9 x1 2 zo5 ho5h) (fun vo11 zo11 ho11h => (if vo11 = 0 then (bX8_abort_28  a0 x1 1 zo11 ho11h) else (bX8_abort_28  a0 x1 0 zo11 ho11h))))))) (fun x7 => some (.inr x7, zo5, ho5h)))))))
theorem wbX8_abort_28R {g : JG} (hst : (jl g).stackTraces = false)   {a0 : Nat} {x1 : Int32} {s0 : Int32} {z : Nat} {h : AH} {o : (Int32 ⊕ String) × Nat × AH} (hf : bX8_abort_28  a0 x1 s0 z h = some o) (hv : (∃ v, o.1 = .inl v)) : J g MX8_abortR (jV g (xoI o.1, o.2.1, o.2.2) rmX8_abortR.cells rmX8_abortR.slots) 28 [some (.ref a0), some (.int x1)] [.int s0] z h 0 0 := by
  unfold bX8_abort_28 at hf
  obtain ⟨vo1, zo1, ho1h, ho1, hf⟩ := rfs3 hf
  rcases xrs hf with ⟨v2, ev2, hf⟩ | ⟨x3, ev2, hf⟩
  · refine XS1v dX8_abort_28 (by have h9 := mX8_needStateR hst ho1 ⟨_, ev2⟩; rw [ev2] at h9; exact h9) tk_553 iX8_needState ⟨by decide, by decide⟩ ⟨by decide, by decide⟩ (Nat.le_of_ble_eq_true rfl) ?_
    refine J_aload_n dX8_abort_31 rfl rfl ?_
    obtain ⟨k4, hf⟩ := gds hf
    obtain ⟨b5, rb5, hf⟩ := rfs hf
    refine G_8_5 dX8_abort_32 tk_252 k4 rb5 ?_
    refine J_aload_n dX8_abort_35 rfl rfl ?_
    obtain ⟨b6, rb6, hf⟩ := rfs hf
    refine G_8_0 dX8_abort_36 tk_247 k4 rb6 ?_
    obtain ⟨k7, hf⟩ := gds hf
    obtain ⟨zo8, ho8h, ho8, hf⟩ := rfs2 hf
    refine CV1v dX8_abort_39 (mX3_keep hst ho8) tk_572 iX3_keep k7 (by decide) rfl ⟨by decide, by decide⟩ ⟨by decide, by decide⟩ (Nat.le_of_ble_eq_true rfl) ?_
    refine J_aload_n dX8_abort_42 rfl rfl ?_
    obtain ⟨k9, hf⟩ := gds hf
    obtain ⟨b10, rb10, hf⟩ := rfs hf
    refine G_8_4 dX8_abort_43 tk_251 k9 rb10 ?_
    refine J_iload_n dX8_abort_46 rfl rfl ?_
    obtain ⟨k11, hf⟩ := gds hf
    obtain ⟨vo12, zo12, ho12h, ho12, hf⟩ := rfs3 hf
    refine CV1i dX8_abort_47 (mX1_kill hst ho12) tk_721 iX1_kill k11 (by decide) rfl ⟨by decide, by decide⟩ ⟨by decide, by decide⟩ (Nat.le_of_ble_eq_true rfl) ?_
    cases hf
    exact jN_V (J_iretN dX8_abort_50 rfl (by decide) (by decide))
  · cases hf
    obtain ⟨_, hv⟩ := hv; cases hv
theorem wfX8_abortR {g : JG} (hst : (jl g).stackTraces = false)   {a0 : Nat} {x1 : Int32} {z : Nat} {h : AH} {o : (Int32 ⊕ String) × Nat × AH} (hf : fX8_abort  a0 x1 z h = some o) (hv : (∃ v, o.1 = .inl v)) : J g MX8_abortR (jV g (xoI o.1, o.2.1, o.2.2) rmX8_abortR.cells rmX8_abortR.slots) 0 [some (.ref a0), some (.int x1)] [] z h 0 0 := by
  unfold fX8_abort at hf
  refine J_aload_n dX8_abort_0 rfl rfl ?_
  obtain ⟨k1, hf⟩ := gds hf
  obtain ⟨b2, rb2, hf⟩ := rfs hf
  refine G_8_0 dX8_abort_1 tk_247 k1 rb2 ?_
  refine J_iload_n dX8_abort_4 rfl rfl ?_
  obtain ⟨k3, hf⟩ := gds hf
  obtain ⟨vo4, zo4, ho4h, ho4, hf⟩ := rfs3 hf
  refine CV1i dX8_abort_5 (mX0_has hst ho4) tk_429 iX0_has k3 (by decide) rfl ⟨by decide, by decide⟩ ⟨by decide, by decide⟩ (Nat.le_of_ble_eq_true rfl) ?_
  obtain ⟨vo5, zo5, ho5h, ho5, hf⟩ := rfs3 hf
  rcases xrs hf with ⟨v6, ev6, hf⟩ | ⟨x7, ev6, hf⟩
  · refine XS1v dX8_abort_8 (by have h9 := mX8_needThingR hst ho5 ⟨_, ev6⟩; rw [ev6] at h9; exact h9) tk_434 iX8_needThing ⟨by decide, by decide⟩ ⟨by decide, by decide⟩ (Nat.le_of_ble_eq_true rfl) ?_
    refine J_aload_n dX8_abort_11 rfl rfl ?_
    obtain ⟨k8, hf⟩ := gds hf
    obtain ⟨b9, rb9, hf⟩ := rfs hf
    refine G_8_0 dX8_abort_12 tk_247 k8 rb9 ?_
    refine J_iload_n dX8_abort_15 rfl rfl ?_
    refine J_iconst (v := 2) dX8_abort_16 (by decide) ?_
    obtain ⟨k10, hf⟩ := gds hf
    obtain ⟨vo11, zo11, ho11h, ho11, hf⟩ := rfs3 hf
    refine CV2i dX8_abort_17 (mX0_isIn hst ho11) tk_638 iX0_isIn k10 (by decide) rfl ⟨by decide, by decide⟩ ⟨by decide, by decide⟩ (Nat.le_of_ble_eq_true rfl) ?_
    rcases br hf with ⟨c12, hf⟩ | ⟨c12, hf⟩
    · refine J_if_ne (tgt := 27) dX8_abort_20 (by decide) (fun w => absurd c12 w) (fun _ => ?_)
      refine J_iconst (v := 1) dX8_abort_23 (by decide) ?_
      refine J_goto (tgt := 28) dX8_abort_24 (by decide) ?_
      refine J.sub (jsub_s (jsub_s (jsub_nil _))) ?_
      refine J.widen (k' := 0) (n' := 0) (by decide) (by decide) ?_
      exact wbX8_abort_28R hst   hf hv
    · refine J_if_ne (tgt := 27) dX8_abort_20 (by decide) (fun _ => ?_) (fun w => absurd w c12)
      refine J_iconst (v := 0) dX8_abort_27 (by decide) ?_
      refine J.sub (jsub_s (jsub_s (jsub_nil _))) ?_
      refine J.widen (k' := 0) (n' := 0) (by decide) (by decide) ?_
      exact wbX8_abort_28R hst   hf hv
  · cases hf
    obtain ⟨_, hv⟩ := hv; cases hv
theorem mX8_abortR {g : JG} (hst : (jl g).stackTraces = false) {a0 : Nat} {x1 : Int32} {z : Nat} {h : AH} {o : (Int32 ⊕ String) × Nat × AH} (hf : fX8_abort a0 x1 z h = some o) (hv : (∃ v, o.1 = .inl v)) : jMetX g yX8_abort (wj yX8_abort cX8_abort 2 (some .int)) rmX8_abortR [.ref a0, .int x1] z h (xoI o.1, o.2.1, o.2.2) :=
  jMetX_mk (by decide) (Nat.le_of_ble_eq_true rfl) [some (.ref a0), some (.int x1)] rfl (wfX8_abortR hst hf hv)
theorem wbX8_abort_28T {g : JG} (hst : (jl g).stackTraces = false)   {a0 : Nat} {x1 : Int32} {s0 : Int32} {z : Nat} {h : AH} {o : (Int32 ⊕ String) × Nat × AH} (hf : bX8_abort_28  a0 x1 s0 z h = some o) (hv : (∃ v, o.1 = .inr v)) : J g MX8_abortT (jV g (xoI o.1, o.2.1, o.2.2) rmX8_abortT.cells rmX8_abortT.slots) 28 [some (.ref a0), some (.int x1)] [.int s0] z h 0 0 := by
  unfold bX8_abort_28 at hf
  obtain ⟨vo1, zo1, ho1h, ho1, hf⟩ := rfs3 hf
  rcases xrs hf with ⟨v2, ev2, hf⟩ | ⟨x3, ev2, hf⟩
  · refine XS1v dX8_abort_28 (by have h9 := mX8_needStateR hst ho1 ⟨_, ev2⟩; rw [ev2] at h9; exact h9) tk_553 iX8_needState ⟨by decide, by decide⟩ ⟨by decide, by decide⟩ (Nat.le_of_ble_eq_true rfl) ?_
    refine J_aload_n dX8_abort_31 rfl rfl ?_
    obtain ⟨k4, hf⟩ := gds hf
    obtain ⟨b5, rb5, hf⟩ := rfs hf
    refine G_8_5 dX8_abort_32 tk_252 k4 rb5 ?_
    refine J_aload_n dX8_abort_35 rfl rfl ?_
    obtain ⟨b6, rb6, hf⟩ := rfs hf
    refine G_8_0 dX8_abort_36 tk_247 k4 rb6 ?_
    obtain ⟨k7, hf⟩ := gds hf
    obtain ⟨zo8, ho8h, ho8, hf⟩ := rfs2 hf
    refine CV1v dX8_abort_39 (mX3_keep hst ho8) tk_572 iX3_keep k7 (by decide) rfl ⟨by decide, by decide⟩ ⟨by decide, by decide⟩ (Nat.le_of_ble_eq_true rfl) ?_
    refine J_aload_n dX8_abort_42 rfl rfl ?_
    obtain ⟨k9, hf⟩ := gds hf
    obtain ⟨b10, rb10, hf⟩ := rfs hf
    refine G_8_4 dX8_abort_43 tk_251 k9 rb10 ?_
    refine J_iload_n dX8_abort_46 rfl rfl ?_
    obtain ⟨k11, hf⟩ := gds hf
    obtain ⟨vo12, zo12, ho12h, ho12, hf⟩ := rfs3 hf
    refine CV1i dX8_abort_47 (mX1_kill hst ho12) tk_721 iX1_kill k11 (by decide) rfl ⟨by decide, by decide⟩ ⟨by decide, by decide⟩ (Nat.le_of_ble_eq_true rfl) ?_
    cases hf
    obtain ⟨_, hv⟩ := hv; cases hv
  · cases hf
    exact XS1t dX8_abort_28 (by have h9 := mX8_needStateT hst ho1 ⟨_, ev2⟩; rw [ev2] at h9; exact h9) tk_553 iX8_needState ⟨by decide, by decide⟩ ⟨by decide, by decide⟩ (Nat.le_of_ble_eq_true rfl) rfl (by decide) (by decide)
theorem wfX8_abortT {g : JG} (hst : (jl g).stackTraces = false)   {a0 : Nat} {x1 : Int32} {z : Nat} {h : AH} {o : (Int32 ⊕ String) × Nat × AH} (hf : fX8_abort  a0 x1 z h = some o) (hv : (∃ v, o.1 = .inr v)) : J g MX8_abortT (jV g (xoI o.1, o.2.1, o.2.2) rmX8_abortT.cells rmX8_abortT.slots) 0 [some (.ref a0), some (.int x1)] [] z h 0 0 := by
  unfold fX8_abort at hf
  refine J_aload_n dX8_abort_0 rfl rfl ?_
  obtain ⟨k1, hf⟩ := gds hf
  obtain ⟨b2, rb2, hf⟩ := rfs hf
  refine G_8_0 dX8_abort_1 tk_247 k1 rb2 ?_
  refine J_iload_n dX8_abort_4 rfl rfl ?_
  obtain ⟨k3, hf⟩ := gds hf
  obtain ⟨vo4, zo4, ho4h, ho4, hf⟩ := rfs3 hf
  refine CV1i dX8_abort_5 (mX0_has hst ho4) tk_429 iX0_has k3 (by decide) rfl ⟨by decide, by decide⟩ ⟨by decide, by decide⟩ (Nat.le_of_ble_eq_true rfl) ?_
  obtain ⟨vo5, zo5, ho5h, ho5, hf⟩ := rfs3 hf
  rcases xrs hf with ⟨v6, ev6, hf⟩ | ⟨x7, ev6, hf⟩
  · refine XS1v dX8_abort_8 (by have h9 := mX8_needThingR hst ho5 ⟨_, ev6⟩; rw [ev6] at h9; exact h9) tk_434 iX8_needThing ⟨by decide, by decide⟩ ⟨by decide, by decide⟩ (Nat.le_of_ble_eq_true rfl) ?_
    refine J_aload_n dX8_abort_11 rfl rfl ?_
    obtain ⟨k8, hf⟩ := gds hf
    obtain ⟨b9, rb9, hf⟩ := rfs hf
    refine G_8_0 dX8_abort_12 tk_247 k8 rb9 ?_
    refine J_iload_n dX8_abort_15 rfl rfl ?_
    refine J_iconst (v := 2) dX8_abort_16 (by decide) ?_
    obtain ⟨k10, hf⟩ := gds hf
    obtain ⟨vo11, zo11, ho11h, ho11, hf⟩ := rfs3 hf
    refine CV2i dX8_abort_17 (mX0_isIn hst ho11) tk_638 iX0_isIn k10 (by decide) rfl ⟨by decide, by decide⟩ ⟨by decide, by decide⟩ (Nat.le_of_ble_eq_true rfl) ?_
    rcases br hf with ⟨c12, hf⟩ | ⟨c12, hf⟩
    · refine J_if_ne (tgt := 27) dX8_abort_20 (by decide) (fun w => absurd c12 w) (fun _ => ?_)
      refine J_iconst (v := 1) dX8_abort_23 (by decide) ?_
      refine J_goto (tgt := 28) dX8_abort_24 (by decide) ?_
      refine J.sub (jsub_s (jsub_s (jsub_nil _))) ?_
      refine J.widen (k' := 0) (n' := 0) (by decide) (by decide) ?_
      exact wbX8_abort_28T hst   hf hv
    · refine J_if_ne (tgt := 27) dX8_abort_20 (by decide) (fun _ => ?_) (fun w => absurd w c12)
      refine J_iconst (v := 0) dX8_abort_27 (by decide) ?_
      refine J.sub (jsub_s (jsub_s (jsub_nil _))) ?_
      refine J.widen (k' := 0) (n' := 0) (by decide) (by decide) ?_
      exact wbX8_abort_28T hst   hf hv
  · cases hf
    exact XS1t dX8_abort_8 (by have h9 := mX8_needThingT hst ho5 ⟨_, ev6⟩; rw [ev6] at h9; exact h9) tk_434 iX8_needThing ⟨by decide, by decide⟩ ⟨by decide, by decide⟩ (Nat.le_of_ble_eq_true rfl) rfl (by decide) (by decide)
theorem mX8_abortT {g : JG} (hst : (jl g).stackTraces = false) {a0 : Nat} {x1 : Int32} {z : Nat} {h : AH} {o : (Int32 ⊕ String) × Nat × AH} (hf : fX8_abort a0 x1 z h = some o) (hv : (∃ v, o.1 = .inr v)) : jMetX g yX8_abort (wj yX8_abort cX8_abort 2 (some .int)) rmX8_abortT [.ref a0, .int x1] z h (xoI o.1, o.2.1, o.2.2) :=
  jMetX_mk (by decide) (Nat.le_of_ble_eq_true rfl) [some (.ref a0), some (.int x1)] rfl (wfX8_abortT hst hf hv)
def bX8_addResource_47  (a0 : Nat) (x1 : Int32) (s0 : Int32) (z : Nat) (h : AH) : Option ((Int32 ⊕ String) × Nat × AH) :=
  bd3 (fX8_needState s0 z h) (fun vo1 zo1 ho1h => xr vo1 (fun v2 => gd (kd ho1h a0 = 9) (Option.bind (rv ho1h a0 5) (fun b5 => Option.bind (rv ho1h a0 0) (fun b6 => gd (kd ho1h b5 = 4) (bd2 (fX3_keep b5 b6 zo1 ho1h) (fun zo8 ho8h => gd (kd ho8h a0 = 9) (Option.bind (rv ho8h a0 0) (fun b10 => gd (kd ho8h b10 = 1) (Option.bind (rv ho8h b10 0) (fun b12 => gd (kd ho8h b12 = 3) (bd3 (fX2_grow b12 x1 zo8 ho8h) (fun vo14 zo14 ho14h => some (.inl vo14, zo14, ho14h))))))))))))) (fun x3 => some (.inr x3, zo1, ho1h)))
def bX8_addResource_24  (a0 : Nat) (x1 : Int32) (s0 : Int32) (z : Nat) (h : AH) : Option ((Int32 ⊕ String) × Nat × AH) :=
  bd3 (fX8_needThing s0 z h) (fun vo1 zo1 ho1h => xr vo1 (fun v2 => gd (kd ho1h a0 = 9) (Option.bind (rv ho1h a0 0) (fun b5 => gd (kd ho1h b5 = 1) (Option.bind (rv ho1h b5 0) (fun b7 => gd (kd ho1h b7 = 3) ((if 16 ≤ (iv ho1h b7 3) then (bX8_addResource_47  a0 x1 0 zo1 ho1h) else (bX8_addResource_47  a0 x1 1 zo1 ho1h)))))))) (fun x3 => some (.inr x3, zo1, ho1h)))
def bX8_addResource_19  (a0 : Nat) (x1 : Int32) (z : Nat) (h : AH) : Option ((Int32 ⊕ String) × Nat × AH) :=
  bX8_addResource_24  a0 x1 1 z h
def fX8_addResource  (a0 : Nat) (x1 : Int32) (z : Nat) (h : AH) : Option ((Int32 ⊕ String) × Nat × AH) :=
  (if x1 = (-1) then (bX8_addResource_19  a0 x1 z h) else (gd (kd h a0 = 9) (Option.bind (rv h a0 0) (fun b3 => gd (kd h b3 = 1) (Option.bind (rv h b3 0) (fun b5 => gd (kd h b5 = 3) (bd3 (fX2_has b5 x1 z h) (fun vo7 zo7 ho7h => (if vo7 = 0 then (bX8_addResource_24  a0 x1 0 zo7 ho7h) else (bX8_addResource_19  a0 x1 zo7 ho7h))))))))))
theorem wbX8_addResource_47R {g : JG} (hst : (jl g).stackTraces = false)   {a0 : Nat} {x1 : Int32} {s0 : Int32} {z : Nat} {h : AH} {o : (Int32 ⊕ String) × Nat × AH} (hf : bX8_addResource_47  a0 x1 s0 z h = some o) (hv : (∃ v, o.1 = .inl v)) : J g MX8_addResourceR (jV g (xoI o.1, o.2.1, o.2.2) rmX8_addResourceR.cells rmX8_addResourceR.slots) 47 [some (.ref a0), some (.int x1)] [.int s0] z h 0 0 := by
  unfold bX8_addResource_47 at hf
  obtain ⟨vo1, zo1, ho1h, ho1, hf⟩ := rfs3 hf
  rcases xrs hf with ⟨v2, ev2, hf⟩ | ⟨x3, ev2, hf⟩
  · refine XS1v dX8_addResource_47 (by have h9 := mX8_needStateR hst ho1 ⟨_, ev2⟩; rw [ev2] at h9; exact h9) tk_553 iX8_needState ⟨by decide, by decide⟩ ⟨by decide, by decide⟩ (Nat.le_of_ble_eq_true rfl) ?_
    refine J_aload_n dX8_addResource_50 rfl rfl ?_
    obtain ⟨k4, hf⟩ := gds hf
    obtain ⟨b5, rb5, hf⟩ := rfs hf
    refine G_8_5 dX8_addResource_51 tk_252 k4 rb5 ?_
    refine J_aload_n dX8_addResource_54 rfl rfl ?_
    obtain ⟨b6, rb6, hf⟩ := rfs hf
    refine G_8_0 dX8_addResource_55 tk_247 k4 rb6 ?_
    obtain ⟨k7, hf⟩ := gds hf
    obtain ⟨zo8, ho8h, ho8, hf⟩ := rfs2 hf
    refine CV1v dX8_addResource_58 (mX3_keep hst ho8) tk_572 iX3_keep k7 (by decide) rfl ⟨by decide, by decide⟩ ⟨by decide, by decide⟩ (Nat.le_of_ble_eq_true rfl) ?_
    refine J_aload_n dX8_addResource_61 rfl rfl ?_
    obtain ⟨k9, hf⟩ := gds hf
    obtain ⟨b10, rb10, hf⟩ := rfs hf
    refine G_8_0 dX8_addResource_62 tk_247 k9 rb10 ?_
    obtain ⟨k11, hf⟩ := gds hf
    obtain ⟨b12, rb12, hf⟩ := rfs hf
    refine G_0_0 dX8_addResource_65 tk_92 k11 rb12 ?_
    refine J_iload_n dX8_addResource_68 rfl rfl ?_
    obtain ⟨k13, hf⟩ := gds hf
    obtain ⟨vo14, zo14, ho14h, ho14, hf⟩ := rfs3 hf
    refine CV1i dX8_addResource_69 (mX2_grow hst ho14) tk_582 iX2_grow k13 (by decide) rfl ⟨by decide, by decide⟩ ⟨by decide, by decide⟩ (Nat.le_of_ble_eq_true rfl) ?_
    cases hf
    exact jN_V (J_iretN dX8_addResource_72 rfl (by decide) (by decide))
  · cases hf
    obtain ⟨_, hv⟩ := hv; cases hv
theorem wbX8_addResource_24R {g : JG} (hst : (jl g).stackTraces = false)   {a0 : Nat} {x1 : Int32} {s0 : Int32} {z : Nat} {h : AH} {o : (Int32 ⊕ String) × Nat × AH} (hf : bX8_addResource_24  a0 x1 s0 z h = some o) (hv : (∃ v, o.1 = .inl v)) : J g MX8_addResourceR (jV g (xoI o.1, o.2.1, o.2.2) rmX8_addResourceR.cells rmX8_addResourceR.slots) 24 [some (.ref a0), some (.int x1)] [.int s0] z h 0 0 := by
  unfold bX8_addResource_24 at hf
  obtain ⟨vo1, zo1, ho1h, ho1, hf⟩ := rfs3 hf
  rcases xrs hf with ⟨v2, ev2, hf⟩ | ⟨x3, ev2, hf⟩
  · refine XS1v dX8_addResource_24 (by have h9 := mX8_needThingR hst ho1 ⟨_, ev2⟩; rw [ev2] at h9; exact h9) tk_434 iX8_needThing ⟨by decide, by decide⟩ ⟨by decide, by decide⟩ (Nat.le_of_ble_eq_true rfl) ?_
    refine J_aload_n dX8_addResource_27 rfl rfl ?_
    obtain ⟨k4, hf⟩ := gds hf
    obtain ⟨b5, rb5, hf⟩ := rfs hf
    refine G_8_0 dX8_addResource_28 tk_247 k4 rb5 ?_
    obtain ⟨k6, hf⟩ := gds hf
    obtain ⟨b7, rb7, hf⟩ := rfs hf
    refine G_0_0 dX8_addResource_31 tk_92 k6 rb7 ?_
    obtain ⟨k8, hf⟩ := gds hf
    refine G_2_3 dX8_addResource_34 tk_48 k8 ?_
    refine J_bipush (v := 16) dX8_addResource_37 (by decide) ?_
    rcases br hf with ⟨c9, hf⟩ | ⟨c9, hf⟩
    · refine J_icmp_ge (tgt := 46) dX8_addResource_39 (by decide) (fun _ => ?_) (fun w => absurd c9 w)
      refine J_iconst (v := 0) dX8_addResource_46 (by decide) ?_
      refine J.sub (jsub_s (jsub_s (jsub_nil _))) ?_
      refine J.widen (k' := 0) (n' := 0) (by decide) (by decide) ?_
      exact wbX8_addResource_47R hst   hf hv
    · refine J_icmp_ge (tgt := 46) dX8_addResource_39 (by decide) (fun w => absurd w c9) (fun _ => ?_)
      refine J_iconst (v := 1) dX8_addResource_42 (by decide) ?_
      refine J_goto (tgt := 47) dX8_addResource_43 (by decide) ?_
      refine J.sub (jsub_s (jsub_s (jsub_nil _))) ?_
      refine J.widen (k' := 0) (n' := 0) (by decide) (by decide) ?_
      exact wbX8_addResource_47R hst   hf hv
  · cases hf
    obtain ⟨_, hv⟩ := hv; cases hv
theorem wbX8_addResource_19R {g : JG} (hst : (jl g).stackTraces = false)   {a0 : Nat} {x1 : Int32} {z : Nat} {h : AH} {o : (Int32 ⊕ String) × Nat × AH} (hf : bX8_addResource_19  a0 x1 z h = some o) (hv : (∃ v, o.1 = .inl v)) : J g MX8_addResourceR (jV g (xoI o.1, o.2.1, o.2.2) rmX8_addResourceR.cells rmX8_addResourceR.slots) 19 [some (.ref a0), some (.int x1)] [] z h 0 0 := by
  unfold bX8_addResource_19 at hf
  refine J_iconst (v := 1) dX8_addResource_19 (by decide) ?_
  refine J_goto (tgt := 24) dX8_addResource_20 (by decide) ?_
  refine J.sub (jsub_s (jsub_s (jsub_nil _))) ?_
  refine J.widen (k' := 0) (n' := 0) (by decide) (by decide) ?_
  exact wbX8_addResource_24R hst   hf hv
theorem wfX8_addResourceR {g : JG} (hst : (jl g).stackTraces = false)   {a0 : Nat} {x1 : Int32} {z : Nat} {h : AH} {o : (Int32 ⊕ String) × Nat × AH} (hf : fX8_addResource  a0 x1 z h = some o) (hv : (∃ v, o.1 = .inl v)) : J g MX8_addResourceR (jV g (xoI o.1, o.2.1, o.2.2) rmX8_addResourceR.cells rmX8_addResourceR.slots) 0 [some (.ref a0), some (.int x1)] [] z h 0 0 := by
  unfold fX8_addResource at hf
  refine J_iload_n dX8_addResource_0 rfl rfl ?_
  refine J_iconst (v := (-1)) dX8_addResource_1 (by decide) ?_
  rcases br hf with ⟨c1, hf⟩ | ⟨c1, hf⟩
  · refine J_icmp_eq (tgt := 19) dX8_addResource_2 (by decide) (fun _ => ?_) (fun w => absurd c1 w)
    refine J.sub (jsub_s (jsub_s (jsub_nil _))) ?_
    refine J.widen (k' := 0) (n' := 0) (by decide) (by decide) ?_
    exact wbX8_addResource_19R hst   hf hv
  · refine J_icmp_eq (tgt := 19) dX8_addResource_2 (by decide) (fun w => absurd w c1) (fun _ => ?_)
    refine J_aload_n dX8_addResource_5 rfl rfl ?_
    obtain ⟨k2, hf⟩ := gds hf
    obtain ⟨b3, rb3, hf⟩ := rfs hf
    refine G_8_0 dX8_addResource_6 tk_247 k2 rb3 ?_
    obtain ⟨k4, hf⟩ := gds hf
    obtain ⟨b5, rb5, hf⟩ := rfs hf
    refine G_0_0 dX8_addResource_9 tk_92 k4 rb5 ?_
    refine J_iload_n dX8_addResource_12 rfl rfl ?_
    obtain ⟨k6, hf⟩ := gds hf
    obtain ⟨vo7, zo7, ho7h, ho7, hf⟩ := rfs3 hf
    refine CV1i dX8_addResource_13 (mX2_has hst ho7) tk_552 iX2_has k6 (by decide) rfl ⟨by decide, by decide⟩ ⟨by decide, by decide⟩ (Nat.le_of_ble_eq_true rfl) ?_
    rcases br hf with ⟨c8, hf⟩ | ⟨c8, hf⟩
    · refine J_if_eq (tgt := 23) dX8_addResource_16 (by decide) (fun _ => ?_) (fun w => absurd c8 w)
      refine J_iconst (v := 0) dX8_addResource_23 (by decide) ?_
      refine J.sub (jsub_s (jsub_s (jsub_nil _))) ?_
      refine J.widen (k' := 0) (n' := 0) (by decide) (by decide) ?_
      exact wbX8_addResource_24R hst   hf hv
    · refine J_if_eq (tgt := 23) dX8_addResource_16 (by decide) (fun w => absurd w c8) (fun _ => ?_)
      refine J.sub (jsub_s (jsub_s (jsub_nil _))) ?_
      refine J.widen (k' := 0) (n' := 0) (by decide) (by decide) ?_
      exact wbX8_addResource_19R hst   hf hv
theorem mX8_addResourceR {g : JG} (hst : (jl g).stackTraces = false) {a0 : Nat} {x1 : Int32} {z : Nat} {h : AH} {o : (Int32 ⊕ String) × Nat × AH} (hf : fX8_addResource a0 x1 z h = some o) (hv : (∃ v, o.1 = .inl v)) : jMetX g yX8_addResource (wj yX8_addResource cX8_addResource 2 (some .int)) rmX8_addResourceR [.ref a0, .int x1] z h (xoI o.1, o.2.1, o.2.2) :=
  jMetX_mk (by decide) (Nat.le_of_ble_eq_true rfl) [some (.ref a0), some (.int x1)] rfl (wfX8_addResourceR hst hf hv)
theorem wbX8_addResource_47T {g : JG} (hst : (jl g).stackTraces = false)   {a0 : Nat} {x1 : Int32} {s0 : Int32} {z : Nat} {h : AH} {o : (Int32 ⊕ String) × Nat × AH} (hf : bX8_addResource_47  a0 x1 s0 z h = some o) (hv : (∃ v, o.1 = .inr v)) : J g MX8_addResourceT (jV g (xoI o.1, o.2.1, o.2.2) rmX8_addResourceT.cells rmX8_addResourceT.slots) 47 [some (.ref a0), some (.int x1)] [.int s0] z h 0 0 := by
  unfold bX8_addResource_47 at hf
  obtain ⟨vo1, zo1, ho1h, ho1, hf⟩ := rfs3 hf
  rcases xrs hf with ⟨v2, ev2, hf⟩ | ⟨x3, ev2, hf⟩
  · refine XS1v dX8_addResource_47 (by have h9 := mX8_needStateR hst ho1 ⟨_, ev2⟩; rw [ev2] at h9; exact h9) tk_553 iX8_needState ⟨by decide, by decide⟩ ⟨by decide, by decide⟩ (Nat.le_of_ble_eq_true rfl) ?_
    refine J_aload_n dX8_addResource_50 rfl rfl ?_
    obtain ⟨k4, hf⟩ := gds hf
    obtain ⟨b5, rb5, hf⟩ := rfs hf
    refine G_8_5 dX8_addResource_51 tk_252 k4 rb5 ?_
    refine J_aload_n dX8_addResource_54 rfl rfl ?_
    obtain ⟨b6, rb6, hf⟩ := rfs hf
    refine G_8_0 dX8_addResource_55 tk_247 k4 rb6 ?_
    obtain ⟨k7, hf⟩ := gds hf
    obtain ⟨zo8, ho8h, ho8, hf⟩ := rfs2 hf
    refine CV1v dX8_addResource_58 (mX3_keep hst ho8) tk_572 iX3_keep k7 (by decide) rfl ⟨by decide, by decide⟩ ⟨by decide, by decide⟩ (Nat.le_of_ble_eq_true rfl) ?_
    refine J_aload_n dX8_addResource_61 rfl rfl ?_
    obtain ⟨k9, hf⟩ := gds hf
    obtain ⟨b10, rb10, hf⟩ := rfs hf
    refine G_8_0 dX8_addResource_62 tk_247 k9 rb10 ?_
    obtain ⟨k11, hf⟩ := gds hf
    obtain ⟨b12, rb12, hf⟩ := rfs hf
    refine G_0_0 dX8_addResource_65 tk_92 k11 rb12 ?_
    refine J_iload_n dX8_addResource_68 rfl rfl ?_
    obtain ⟨k13, hf⟩ := gds hf
    obtain ⟨vo14, zo14, ho14h, ho14, hf⟩ := rfs3 hf
    refine CV1i dX8_addResource_69 (mX2_grow hst ho14) tk_582 iX2_grow k13 (by decide) rfl ⟨by decide, by decide⟩ ⟨by decide, by decide⟩ (Nat.le_of_ble_eq_true rfl) ?_
    cases hf
    obtain ⟨_, hv⟩ := hv; cases hv
  · cases hf
    exact XS1t dX8_addResource_47 (by have h9 := mX8_needStateT hst ho1 ⟨_, ev2⟩; rw [ev2] at h9; exact h9) tk_553 iX8_needState ⟨by decide, by decide⟩ ⟨by decide, by decide⟩ (Nat.le_of_ble_eq_true rfl) rfl (by decide) (by decide)
theorem wbX8_addResource_24T {g : JG} (hst : (jl g).stackTraces = false)   {a0 : Nat} {x1 : Int32} {s0 : Int32} {z : Nat} {h : AH} {o : (Int32 ⊕ String) × Nat × AH} (hf : bX8_addResource_24  a0 x1 s0 z h = some o) (hv : (∃ v, o.1 = .inr v)) : J g MX8_addResourceT (jV g (xoI o.1, o.2.1, o.2.2) rmX8_addResourceT.cells rmX8_addResourceT.slots) 24 [some (.ref a0), some (.int x1)] [.int s0] z h 0 0 := by
  unfold bX8_addResource_24 at hf
  obtain ⟨vo1, zo1, ho1h, ho1, hf⟩ := rfs3 hf
  rcases xrs hf with ⟨v2, ev2, hf⟩ | ⟨x3, ev2, hf⟩
  · refine XS1v dX8_addResource_24 (by have h9 := mX8_needThingR hst ho1 ⟨_, ev2⟩; rw [ev2] at h9; exact h9) tk_434 iX8_needThing ⟨by decide, by decide⟩ ⟨by decide, by decide⟩ (Nat.le_of_ble_eq_true rfl) ?_
    refine J_aload_n dX8_addResource_27 rfl rfl ?_
    obtain ⟨k4, hf⟩ := gds hf
    obtain ⟨b5, rb5, hf⟩ := rfs hf
    refine G_8_0 dX8_addResource_28 tk_247 k4 rb5 ?_
    obtain ⟨k6, hf⟩ := gds hf
    obtain ⟨b7, rb7, hf⟩ := rfs hf
    refine G_0_0 dX8_addResource_31 tk_92 k6 rb7 ?_
    obtain ⟨k8, hf⟩ := gds hf
    refine G_2_3 dX8_addResource_34 tk_48 k8 ?_
    refine J_bipush (v := 16) dX8_addResource_37 (by decide) ?_
    rcases br hf with ⟨c9, hf⟩ | ⟨c9, hf⟩
    · refine J_icmp_ge (tgt := 46) dX8_addResource_39 (by decide) (fun _ => ?_) (fun w => absurd c9 w)
      refine J_iconst (v := 0) dX8_addResource_46 (by decide) ?_
      refine J.sub (jsub_s (jsub_s (jsub_nil _))) ?_
      refine J.widen (k' := 0) (n' := 0) (by decide) (by decide) ?_
      exact wbX8_addResource_47T hst   hf hv
    · refine J_icmp_ge (tgt := 46) dX8_addResource_39 (by decide) (fun w => absurd w c9) (fun _ => ?_)
      refine J_iconst (v := 1) dX8_addResource_42 (by decide) ?_
      refine J_goto (tgt := 47) dX8_addResource_43 (by decide) ?_
      refine J.sub (jsub_s (jsub_s (jsub_nil _))) ?_
      refine J.widen (k' := 0) (n' := 0) (by decide) (by decide) ?_
      exact wbX8_addResource_47T hst   hf hv
  · cases hf
    exact XS1t dX8_addResource_24 (by have h9 := mX8_needThingT hst ho1 ⟨_, ev2⟩; rw [ev2] at h9; exact h9) tk_434 iX8_needThing ⟨by decide, by decide⟩ ⟨by decide, by decide⟩ (Nat.le_of_ble_eq_true rfl) rfl (by decide) (by decide)
theorem wbX8_addResource_19T {g : JG} (hst : (jl g).stackTraces = false)   {a0 : Nat} {x1 : Int32} {z : Nat} {h : AH} {o : (Int32 ⊕ String) × Nat × AH} (hf : bX8_addResource_19  a0 x1 z h = some o) (hv : (∃ v, o.1 = .inr v)) : J g MX8_addResourceT (jV g (xoI o.1, o.2.1, o.2.2) rmX8_addResourceT.cells rmX8_addResourceT.slots) 19 [some (.ref a0), some (.int x1)] [] z h 0 0 := by
  unfold bX8_addResource_19 at hf
  refine J_iconst (v := 1) dX8_addResource_19 (by decide) ?_
  refine J_goto (tgt := 24) dX8_addResource_20 (by decide) ?_
  refine J.sub (jsub_s (jsub_s (jsub_nil _))) ?_
  refine J.widen (k' := 0) (n' := 0) (by decide) (by decide) ?_
  exact wbX8_addResource_24T hst   hf hv
theorem wfX8_addResourceT {g : JG} (hst : (jl g).stackTraces = false)   {a0 : Nat} {x1 : Int32} {z : Nat} {h : AH} {o : (Int32 ⊕ String) × Nat × AH} (hf : fX8_addResource  a0 x1 z h = some o) (hv : (∃ v, o.1 = .inr v)) : J g MX8_addResourceT (jV g (xoI o.1, o.2.1, o.2.2) rmX8_addResourceT.cells rmX8_addResourceT.slots) 0 [some (.ref a0), some (.int x1)] [] z h 0 0 := by
  unfold fX8_addResource at hf
  refine J_iload_n dX8_addResource_0 rfl rfl ?_
  refine J_iconst (v := (-1)) dX8_addResource_1 (by decide) ?_
  rcases br hf with ⟨c1, hf⟩ | ⟨c1, hf⟩
  · refine J_icmp_eq (tgt := 19) dX8_addResource_2 (by decide) (fun _ => ?_) (fun w => absurd c1 w)
    refine J.sub (jsub_s (jsub_s (jsub_nil _))) ?_
    refine J.widen (k' := 0) (n' := 0) (by decide) (by decide) ?_
    exact wbX8_addResource_19T hst   hf hv
  · refine J_icmp_eq (tgt := 19) dX8_addResource_2 (by decide) (fun w => absurd w c1) (fun _ => ?_)
    refine J_aload_n dX8_addResource_5 rfl rfl ?_
    obtain ⟨k2, hf⟩ := gds hf
    obtain ⟨b3, rb3, hf⟩ := rfs hf
    refine G_8_0 dX8_addResource_6 tk_247 k2 rb3 ?_
    obtain ⟨k4, hf⟩ := gds hf
    obtain ⟨b5, rb5, hf⟩ := rfs hf
    refine G_0_0 dX8_addResource_9 tk_92 k4 rb5 ?_
    refine J_iload_n dX8_addResource_12 rfl rfl ?_
    obtain ⟨k6, hf⟩ := gds hf
    obtain ⟨vo7, zo7, ho7h, ho7, hf⟩ := rfs3 hf
    refine CV1i dX8_addResource_13 (mX2_has hst ho7) tk_552 iX2_has k6 (by decide) rfl ⟨by decide, by decide⟩ ⟨by decide, by decide⟩ (Nat.le_of_ble_eq_true rfl) ?_
    rcases br hf with ⟨c8, hf⟩ | ⟨c8, hf⟩
    · refine J_if_eq (tgt := 23) dX8_addResource_16 (by decide) (fun _ => ?_) (fun w => absurd c8 w)
      refine J_iconst (v := 0) dX8_addResource_23 (by decide) ?_
      refine J.sub (jsub_s (jsub_s (jsub_nil _))) ?_
      refine J.widen (k' := 0) (n' := 0) (by decide) (by decide) ?_
      exact wbX8_addResource_24T hst   hf hv
    · refine J_if_eq (tgt := 23) dX8_addResource_16 (by decide) (fun w => absurd w c8) (fun _ => ?_)
      refine J.sub (jsub_s (jsub_s (jsub_nil _))) ?_
      refine J.widen (k' := 0) (n' := 0) (by decide) (by decide) ?_
      exact wbX8_addResource_19T hst   hf hv
theorem mX8_addResourceT {g : JG} (hst : (jl g).stackTraces = false) {a0 : Nat} {x1 : Int32} {z : Nat} {h : AH} {o : (Int32 ⊕ String) × Nat × AH} (hf : fX8_addResource a0 x1 z h = some o) (hv : (∃ v, o.1 = .inr v)) : jMetX g yX8_addResource (wj yX8_addResource cX8_addResource 2 (some .int)) rmX8_addResourceT [.ref a0, .int x1] z h (xoI o.1, o.2.1, o.2.2) :=
  jMetX_mk (by decide) (Nat.le_of_ble_eq_true rfl) [some (.ref a0), some (.int x1)] rfl (wfX8_addResourceT hst hf hv)
def bX8_create_26  (a0 : Nat) (x1 : Int32) (s0 : Int32) (z : Nat) (h : AH) : Option ((Int32 ⊕ String) × Nat × AH) :=
  bd3 (fX8_needState s0 z h) (fun vo1 zo1 ho1h => xr vo1 (fun v2 => gd (kd ho1h a0 = 9) (Option.bind (rv ho1h a0 5) (fun b5 => Option.bind (rv ho1h a0 0) (fun b6 => gd (kd ho1h b5 = 4) (bd2 (fX3_keep b5 b6 zo1 ho1h) (fun zo8 ho8h => gd (kd ho8h a0 = 9) (Option.bind (rv ho8h a0 0) (fun b10 => gd (kd ho8h b10 = 1) (bd3 (fX0_enroll b10 x1 zo8 ho8h) (fun vo12 zo12 ho12h => some (.inl vo12, zo12, ho12h))))))))))) (fun x3 => some (.inr x3, zo1, ho1h)))
def fX8_create  (a0 : Nat) (x1 : Int32) (z : Nat) (h : AH) : Option ((Int32 ⊕ String) × Nat × AH) :=
  bd3 (fX8_isWithin x1 1 99 z h) (fun vo1 zo1 ho1h => bd3 (fX8_needValue vo1 zo1 ho1h) (fun vo2 zo2 ho2h => xr vo2 (fun v3 => gd (kd ho2h a0 = 9) (Option.bind (rv ho2h a0 0) (fun b6 => gd (kd ho2h b6 = 1) (bd3 (fX0_freeNumber b6 zo2 ho2h) (fun vo8 zo8 ho8h => (if vo8 = (-1) then (bX8_create_26  a0 x1 0 zo8 ho8h) else (bX8_create_26  a0 x1 1 zo8 ho8h))))))) (fun x4 => some (.inr x4, zo2, ho2h))))
theorem wbX8_create_26R {g : JG} (hst : (jl g).stackTraces = false)   {a0 : Nat} {x1 : Int32} {s0 : Int32} {z : Nat} {h : AH} {o : (Int32 ⊕ String) × Nat × AH} (hf : bX8_create_26  a0 x1 s0 z h = some o) (hv : (∃ v, o.1 = .inl v)) : J g MX8_createR (jV g (xoI o.1, o.2.1, o.2.2) rmX8_createR.cells rmX8_createR.slots) 26 [some (.ref a0), some (.int x1)] [.int s0] z h 0 0 := by
  unfold bX8_create_26 at hf
  obtain ⟨vo1, zo1, ho1h, ho1, hf⟩ := rfs3 hf
  rcases xrs hf with ⟨v2, ev2, hf⟩ | ⟨x3, ev2, hf⟩
  · refine XS1v dX8_create_26 (by have h9 := mX8_needStateR hst ho1 ⟨_, ev2⟩; rw [ev2] at h9; exact h9) tk_553 iX8_needState ⟨by decide, by decide⟩ ⟨by decide, by decide⟩ (Nat.le_of_ble_eq_true rfl) ?_
    refine J_aload_n dX8_create_29 rfl rfl ?_
    obtain ⟨k4, hf⟩ := gds hf
    obtain ⟨b5, rb5, hf⟩ := rfs hf
    refine G_8_5 dX8_create_30 tk_252 k4 rb5 ?_
    refine J_aload_n dX8_create_33 rfl rfl ?_
    obtain ⟨b6, rb6, hf⟩ := rfs hf
    refine G_8_0 dX8_create_34 tk_247 k4 rb6 ?_
    obtain ⟨k7, hf⟩ := gds hf
    obtain ⟨zo8, ho8h, ho8, hf⟩ := rfs2 hf
    refine CV1v dX8_create_37 (mX3_keep hst ho8) tk_572 iX3_keep k7 (by decide) rfl ⟨by decide, by decide⟩ ⟨by decide, by decide⟩ (Nat.le_of_ble_eq_true rfl) ?_
    refine J_aload_n dX8_create_40 rfl rfl ?_
    obtain ⟨k9, hf⟩ := gds hf
    obtain ⟨b10, rb10, hf⟩ := rfs hf
    refine G_8_0 dX8_create_41 tk_247 k9 rb10 ?_
    refine J_iload_n dX8_create_44 rfl rfl ?_
    obtain ⟨k11, hf⟩ := gds hf
    obtain ⟨vo12, zo12, ho12h, ho12, hf⟩ := rfs3 hf
    refine CV1i dX8_create_45 (mX0_enroll hst ho12) tk_626 iX0_enroll k11 (by decide) rfl ⟨by decide, by decide⟩ ⟨by decide, by decide⟩ (Nat.le_of_ble_eq_true rfl) ?_
    cases hf
    exact jN_V (J_iretN dX8_create_48 rfl (by decide) (by decide))
  · cases hf
    obtain ⟨_, hv⟩ := hv; cases hv
theorem wfX8_createR {g : JG} (hst : (jl g).stackTraces = false)   {a0 : Nat} {x1 : Int32} {z : Nat} {h : AH} {o : (Int32 ⊕ String) × Nat × AH} (hf : fX8_create  a0 x1 z h = some o) (hv : (∃ v, o.1 = .inl v)) : J g MX8_createR (jV g (xoI o.1, o.2.1, o.2.2) rmX8_createR.cells rmX8_createR.slots) 0 [some (.ref a0), some (.int x1)] [] z h 0 0 := by
  unfold fX8_create at hf
  refine J_iload_n dX8_create_0 rfl rfl ?_
  refine J_iconst (v := 1) dX8_create_1 (by decide) ?_
  refine J_bipush (v := 99) dX8_create_2 (by decide) ?_
  obtain ⟨vo1, zo1, ho1h, ho1, hf⟩ := rfs3 hf
  refine CS3i (host := "") dX8_create_4 (mX8_isWithin hst ho1) tk_281 iX8_isWithin ⟨by decide, by decide⟩ ⟨by decide, by decide⟩ (Nat.le_of_ble_eq_true rfl) ?_
  obtain ⟨vo2, zo2, ho2h, ho2, hf⟩ := rfs3 hf
  rcases xrs hf with ⟨v3, ev3, hf⟩ | ⟨x4, ev3, hf⟩
  · refine XS1v dX8_create_7 (by have h9 := mX8_needValueR hst ho2 ⟨_, ev3⟩; rw [ev3] at h9; exact h9) tk_505 iX8_needValue ⟨by decide, by decide⟩ ⟨by decide, by decide⟩ (Nat.le_of_ble_eq_true rfl) ?_
    refine J_aload_n dX8_create_10 rfl rfl ?_
    obtain ⟨k5, hf⟩ := gds hf
    obtain ⟨b6, rb6, hf⟩ := rfs hf
    refine G_8_0 dX8_create_11 tk_247 k5 rb6 ?_
    obtain ⟨k7, hf⟩ := gds hf
    obtain ⟨vo8, zo8, ho8h, ho8, hf⟩ := rfs3 hf
    refine CV0i dX8_create_14 (mX0_freeNumber hst ho8) tk_621 iX0_freeNumber k7 (by decide) rfl ⟨by decide, by decide⟩ ⟨by decide, by decide⟩ (Nat.le_of_ble_eq_true rfl) ?_
    refine J_iconst (v := (-1)) dX8_create_17 (by decide) ?_
    rcases br hf with ⟨c9, hf⟩ | ⟨c9, hf⟩
    · refine J_icmp_eq (tgt := 25) dX8_create_18 (by decide) (fun _ => ?_) (fun w => absurd c9 w)
      refine J_iconst (v := 0) dX8_create_25 (by decide) ?_
      refine J.sub (jsub_s (jsub_s (jsub_nil _))) ?_
      refine J.widen (k' := 0) (n' := 0) (by decide) (by decide) ?_
      exact wbX8_create_26R hst   hf hv
    · refine J_icmp_eq (tgt := 25) dX8_create_18 (by decide) (fun w => absurd w c9) (fun _ => ?_)
      refine J_iconst (v := 1) dX8_create_21 (by decide) ?_
      refine J_goto (tgt := 26) dX8_create_22 (by decide) ?_
      refine J.sub (jsub_s (jsub_s (jsub_nil _))) ?_
      refine J.widen (k' := 0) (n' := 0) (by decide) (by decide) ?_
      exact wbX8_create_26R hst   hf hv
  · cases hf
    obtain ⟨_, hv⟩ := hv; cases hv
theorem mX8_createR {g : JG} (hst : (jl g).stackTraces = false) {a0 : Nat} {x1 : Int32} {z : Nat} {h : AH} {o : (Int32 ⊕ String) × Nat × AH} (hf : fX8_create a0 x1 z h = some o) (hv : (∃ v, o.1 = .inl v)) : jMetX g yX8_create (wj yX8_create cX8_create 2 (some .int)) rmX8_createR [.ref a0, .int x1] z h (xoI o.1, o.2.1, o.2.2) :=
  jMetX_mk (by decide) (Nat.le_of_ble_eq_true rfl) [some (.ref a0), some (.int x1)] rfl (wfX8_createR hst hf hv)
theorem wbX8_create_26T {g : JG} (hst : (jl g).stackTraces = false)   {a0 : Nat} {x1 : Int32} {s0 : Int32} {z : Nat} {h : AH} {o : (Int32 ⊕ String) × Nat × AH} (hf : bX8_create_26  a0 x1 s0 z h = some o) (hv : (∃ v, o.1 = .inr v)) : J g MX8_createT (jV g (xoI o.1, o.2.1, o.2.2) rmX8_createT.cells rmX8_createT.slots) 26 [some (.ref a0), some (.int x1)] [.int s0] z h 0 0 := by
  unfold bX8_create_26 at hf
  obtain ⟨vo1, zo1, ho1h, ho1, hf⟩ := rfs3 hf
  rcases xrs hf with ⟨v2, ev2, hf⟩ | ⟨x3, ev2, hf⟩
  · refine XS1v dX8_create_26 (by have h9 := mX8_needStateR hst ho1 ⟨_, ev2⟩; rw [ev2] at h9; exact h9) tk_553 iX8_needState ⟨by decide, by decide⟩ ⟨by decide, by decide⟩ (Nat.le_of_ble_eq_true rfl) ?_
    refine J_aload_n dX8_create_29 rfl rfl ?_
    obtain ⟨k4, hf⟩ := gds hf
    obtain ⟨b5, rb5, hf⟩ := rfs hf
    refine G_8_5 dX8_create_30 tk_252 k4 rb5 ?_
    refine J_aload_n dX8_create_33 rfl rfl ?_
    obtain ⟨b6, rb6, hf⟩ := rfs hf
    refine G_8_0 dX8_create_34 tk_247 k4 rb6 ?_
    obtain ⟨k7, hf⟩ := gds hf
    obtain ⟨zo8, ho8h, ho8, hf⟩ := rfs2 hf
    refine CV1v dX8_create_37 (mX3_keep hst ho8) tk_572 iX3_keep k7 (by decide) rfl ⟨by decide, by decide⟩ ⟨by decide, by decide⟩ (Nat.le_of_ble_eq_true rfl) ?_
    refine J_aload_n dX8_create_40 rfl rfl ?_
    obtain ⟨k9, hf⟩ := gds hf
    obtain ⟨b10, rb10, hf⟩ := rfs hf
    refine G_8_0 dX8_create_41 tk_247 k9 rb10 ?_
    refine J_iload_n dX8_create_44 rfl rfl ?_
    obtain ⟨k11, hf⟩ := gds hf
    obtain ⟨vo12, zo12, ho12h, ho12, hf⟩ := rfs3 hf
    refine CV1i dX8_create_45 (mX0_enroll hst ho12) tk_626 iX0_enroll k11 (by decide) rfl ⟨by decide, by decide⟩ ⟨by decide, by decide⟩ (Nat.le_of_ble_eq_true rfl) ?_
    cases hf
    obtain ⟨_, hv⟩ := hv; cases hv
  · cases hf
    exact XS1t dX8_create_26 (by have h9 := mX8_needStateT hst ho1 ⟨_, ev2⟩; rw [ev2] at h9; exact h9) tk_553 iX8_needState ⟨by decide, by decide⟩ ⟨by decide, by decide⟩ (Nat.le_of_ble_eq_true rfl) rfl (by decide) (by decide)
theorem wfX8_createT {g : JG} (hst : (jl g).stackTraces = false)   {a0 : Nat} {x1 : Int32} {z : Nat} {h : AH} {o : (Int32 ⊕ String) × Nat × AH} (hf : fX8_create  a0 x1 z h = some o) (hv : (∃ v, o.1 = .inr v)) : J g MX8_createT (jV g (xoI o.1, o.2.1, o.2.2) rmX8_createT.cells rmX8_createT.slots) 0 [some (.ref a0), some (.int x1)] [] z h 0 0 := by
  unfold fX8_create at hf
  refine J_iload_n dX8_create_0 rfl rfl ?_
  refine J_iconst (v := 1) dX8_create_1 (by decide) ?_
  refine J_bipush (v := 99) dX8_create_2 (by decide) ?_
  obtain ⟨vo1, zo1, ho1h, ho1, hf⟩ := rfs3 hf
  refine CS3i (host := "") dX8_create_4 (mX8_isWithin hst ho1) tk_281 iX8_isWithin ⟨by decide, by decide⟩ ⟨by decide, by decide⟩ (Nat.le_of_ble_eq_true rfl) ?_
  obtain ⟨vo2, zo2, ho2h, ho2, hf⟩ := rfs3 hf
  rcases xrs hf with ⟨v3, ev3, hf⟩ | ⟨x4, ev3, hf⟩
  · refine XS1v dX8_create_7 (by have h9 := mX8_needValueR hst ho2 ⟨_, ev3⟩; rw [ev3] at h9; exact h9) tk_505 iX8_needValue ⟨by decide, by decide⟩ ⟨by decide, by decide⟩ (Nat.le_of_ble_eq_true rfl) ?_
    refine J_aload_n dX8_create_10 rfl rfl ?_
    obtain ⟨k5, hf⟩ := gds hf
    obtain ⟨b6, rb6, hf⟩ := rfs hf
    refine G_8_0 dX8_create_11 tk_247 k5 rb6 ?_
    obtain ⟨k7, hf⟩ := gds hf
    obtain ⟨vo8, zo8, ho8h, ho8, hf⟩ := rfs3 hf
    refine CV0i dX8_create_14 (mX0_freeNumber hst ho8) tk_621 iX0_freeNumber k7 (by decide) rfl ⟨by decide, by decide⟩ ⟨by decide, by decide⟩ (Nat.le_of_ble_eq_true rfl) ?_
    refine J_iconst (v := (-1)) dX8_create_17 (by decide) ?_
    rcases br hf with ⟨c9, hf⟩ | ⟨c9, hf⟩
    · refine J_icmp_eq (tgt := 25) dX8_create_18 (by decide) (fun _ => ?_) (fun w => absurd c9 w)
      refine J_iconst (v := 0) dX8_create_25 (by decide) ?_
      refine J.sub (jsub_s (jsub_s (jsub_nil _))) ?_
      refine J.widen (k' := 0) (n' := 0) (by decide) (by decide) ?_
      exact wbX8_create_26T hst   hf hv
    · refine J_icmp_eq (tgt := 25) dX8_create_18 (by decide) (fun w => absurd w c9) (fun _ => ?_)
      refine J_iconst (v := 1) dX8_create_21 (by decide) ?_
      refine J_goto (tgt := 26) dX8_create_22 (by decide) ?_
      refine J.sub (jsub_s (jsub_s (jsub_nil _))) ?_
      refine J.widen (k' := 0) (n' := 0) (by decide) (by decide) ?_
      exact wbX8_create_26T hst   hf hv
  · cases hf
    exact XS1t dX8_create_7 (by have h9 := mX8_needValueT hst ho2 ⟨_, ev3⟩; rw [ev3] at h9; exact h9) tk_505 iX8_needValue ⟨by decide, by decide⟩ ⟨by decide, by decide⟩ (Nat.le_of_ble_eq_true rfl) rfl (by decide) (by decide)
theorem mX8_createT {g : JG} (hst : (jl g).stackTraces = false) {a0 : Nat} {x1 : Int32} {z : Nat} {h : AH} {o : (Int32 ⊕ String) × Nat × AH} (hf : fX8_create a0 x1 z h = some o) (hv : (∃ v, o.1 = .inr v)) : jMetX g yX8_create (wj yX8_create cX8_create 2 (some .int)) rmX8_createT [.ref a0, .int x1] z h (xoI o.1, o.2.1, o.2.2) :=
  jMetX_mk (by decide) (Nat.le_of_ble_eq_true rfl) [some (.ref a0), some (.int x1)] rfl (wfX8_createT hst hf hv)
def fX8_deliver  (a0 : Nat) (x1 : Int32) (z : Nat) (h : AH) : Option ((Int32 ⊕ String) × Nat × AH) :=
  bd3 (fX8_isWithin x1 1 99 z h) (fun vo1 zo1 ho1h => bd3 (fX8_needValue vo1 zo1 ho1h) (fun vo2 zo2 ho2h => xr vo2 (fun v3 => gd (kd ho2h a0 = 9) (Option.bind (rv ho2h a0 5) (fun b6 => Option.bind (rv ho2h a0 0) (fun b7 => gd (kd ho2h b6 = 4) (bd2 (fX3_keep b6 b7 zo2 ho2h) (fun zo9 ho9h => gd (kd ho9h a0 = 9) (Option.bind (rv ho9h a0 4) (fun b11 => gd (kd ho9h b11 = 2) (bd3 (fX1_deliverUpTo b11 x1 zo9 ho9h) (fun vo13 zo13 ho13h => some (.inl vo13, zo13, ho13h))))))))))) (fun x4 => some (.inr x4, zo2, ho2h))))
theorem wfX8_deliverR {g : JG} (hst : (jl g).stackTraces = false)   {a0 : Nat} {x1 : Int32} {z : Nat} {h : AH} {o : (Int32 ⊕ String) × Nat × AH} (hf : fX8_deliver  a0 x1 z h = some o) (hv : (∃ v, o.1 = .inl v)) : J g MX8_deliverR (jV g (xoI o.1, o.2.1, o.2.2) rmX8_deliverR.cells rmX8_deliverR.slots) 0 [some (.ref a0), some (.int x1)] [] z h 0 0 := by
  unfold fX8_deliver at hf
  refine J_iload_n dX8_deliver_0 rfl rfl ?_
  refine J_iconst (v := 1) dX8_deliver_1 (by decide) ?_
  refine J_bipush (v := 99) dX8_deliver_2 (by decide) ?_
  obtain ⟨vo1, zo1, ho1h, ho1, hf⟩ := rfs3 hf
  refine CS3i (host := "") dX8_deliver_4 (mX8_isWithin hst ho1) tk_281 iX8_isWithin ⟨by decide, by decide⟩ ⟨by decide, by decide⟩ (Nat.le_of_ble_eq_true rfl) ?_
  obtain ⟨vo2, zo2, ho2h, ho2, hf⟩ := rfs3 hf
  rcases xrs hf with ⟨v3, ev3, hf⟩ | ⟨x4, ev3, hf⟩
  · refine XS1v dX8_deliver_7 (by have h9 := mX8_needValueR hst ho2 ⟨_, ev3⟩; rw [ev3] at h9; exact h9) tk_505 iX8_needValue ⟨by decide, by decide⟩ ⟨by decide, by decide⟩ (Nat.le_of_ble_eq_true rfl) ?_
    refine J_aload_n dX8_deliver_10 rfl rfl ?_
    obtain ⟨k5, hf⟩ := gds hf
    obtain ⟨b6, rb6, hf⟩ := rfs hf
    refine G_8_5 dX8_deliver_11 tk_252 k5 rb6 ?_
    refine J_aload_n dX8_deliver_14 rfl rfl ?_
    obtain ⟨b7, rb7, hf⟩ := rfs hf
    refine G_8_0 dX8_deliver_15 tk_247 k5 rb7 ?_
    obtain ⟨k8, hf⟩ := gds hf
    obtain ⟨zo9, ho9h, ho9, hf⟩ := rfs2 hf
    refine CV1v dX8_deliver_18 (mX3_keep hst ho9) tk_572 iX3_keep k8 (by decide) rfl ⟨by decide, by decide⟩ ⟨by decide, by decide⟩ (Nat.le_of_ble_eq_true rfl) ?_
    refine J_aload_n dX8_deliver_21 rfl rfl ?_
    obtain ⟨k10, hf⟩ := gds hf
    obtain ⟨b11, rb11, hf⟩ := rfs hf
    refine G_8_4 dX8_deliver_22 tk_251 k10 rb11 ?_
    refine J_iload_n dX8_deliver_25 rfl rfl ?_
    obtain ⟨k12, hf⟩ := gds hf
    obtain ⟨vo13, zo13, ho13h, ho13, hf⟩ := rfs3 hf
    refine CV1i dX8_deliver_26 (mX1_deliverUpTo hst ho13) tk_800 iX1_deliverUpTo k12 (by decide) rfl ⟨by decide, by decide⟩ ⟨by decide, by decide⟩ (Nat.le_of_ble_eq_true rfl) ?_
    cases hf
    exact jN_V (J_iretN dX8_deliver_29 rfl (by decide) (by decide))
  · cases hf
    obtain ⟨_, hv⟩ := hv; cases hv
theorem mX8_deliverR {g : JG} (hst : (jl g).stackTraces = false) {a0 : Nat} {x1 : Int32} {z : Nat} {h : AH} {o : (Int32 ⊕ String) × Nat × AH} (hf : fX8_deliver a0 x1 z h = some o) (hv : (∃ v, o.1 = .inl v)) : jMetX g yX8_deliver (wj yX8_deliver cX8_deliver 2 (some .int)) rmX8_deliverR [.ref a0, .int x1] z h (xoI o.1, o.2.1, o.2.2) :=
  jMetX_mk (by decide) (Nat.le_of_ble_eq_true rfl) [some (.ref a0), some (.int x1)] rfl (wfX8_deliverR hst hf hv)
theorem wfX8_deliverT {g : JG} (hst : (jl g).stackTraces = false)   {a0 : Nat} {x1 : Int32} {z : Nat} {h : AH} {o : (Int32 ⊕ String) × Nat × AH} (hf : fX8_deliver  a0 x1 z h = some o) (hv : (∃ v, o.1 = .inr v)) : J g MX8_deliverT (jV g (xoI o.1, o.2.1, o.2.2) rmX8_deliverT.cells rmX8_deliverT.slots) 0 [some (.ref a0), some (.int x1)] [] z h 0 0 := by
  unfold fX8_deliver at hf
  refine J_iload_n dX8_deliver_0 rfl rfl ?_
  refine J_iconst (v := 1) dX8_deliver_1 (by decide) ?_
  refine J_bipush (v := 99) dX8_deliver_2 (by decide) ?_
  obtain ⟨vo1, zo1, ho1h, ho1, hf⟩ := rfs3 hf
  refine CS3i (host := "") dX8_deliver_4 (mX8_isWithin hst ho1) tk_281 iX8_isWithin ⟨by decide, by decide⟩ ⟨by decide, by decide⟩ (Nat.le_of_ble_eq_true rfl) ?_
  obtain ⟨vo2, zo2, ho2h, ho2, hf⟩ := rfs3 hf
  rcases xrs hf with ⟨v3, ev3, hf⟩ | ⟨x4, ev3, hf⟩
  · refine XS1v dX8_deliver_7 (by have h9 := mX8_needValueR hst ho2 ⟨_, ev3⟩; rw [ev3] at h9; exact h9) tk_505 iX8_needValue ⟨by decide, by decide⟩ ⟨by decide, by decide⟩ (Nat.le_of_ble_eq_true rfl) ?_
    refine J_aload_n dX8_deliver_10 rfl rfl ?_
    obtain ⟨k5, hf⟩ := gds hf
    obtain ⟨b6, rb6, hf⟩ := rfs hf
    refine G_8_5 dX8_deliver_11 tk_252 k5 rb6 ?_
    refine J_aload_n dX8_deliver_14 rfl rfl ?_
    obtain ⟨b7, rb7, hf⟩ := rfs hf
    refine G_8_0 dX8_deliver_15 tk_247 k5 rb7 ?_
    obtain ⟨k8, hf⟩ := gds hf
    obtain ⟨zo9, ho9h, ho9, hf⟩ := rfs2 hf
    refine CV1v dX8_deliver_18 (mX3_keep hst ho9) tk_572 iX3_keep k8 (by decide) rfl ⟨by decide, by decide⟩ ⟨by decide, by decide⟩ (Nat.le_of_ble_eq_true rfl) ?_
    refine J_aload_n dX8_deliver_21 rfl rfl ?_
    obtain ⟨k10, hf⟩ := gds hf
    obtain ⟨b11, rb11, hf⟩ := rfs hf
    refine G_8_4 dX8_deliver_22 tk_251 k10 rb11 ?_
    refine J_iload_n dX8_deliver_25 rfl rfl ?_
    obtain ⟨k12, hf⟩ := gds hf
    obtain ⟨vo13, zo13, ho13h, ho13, hf⟩ := rfs3 hf
    refine CV1i dX8_deliver_26 (mX1_deliverUpTo hst ho13) tk_800 iX1_deliverUpTo k12 (by decide) rfl ⟨by decide, by decide⟩ ⟨by decide, by decide⟩ (Nat.le_of_ble_eq_true rfl) ?_
    cases hf
    obtain ⟨_, hv⟩ := hv; cases hv
  · cases hf
    exact XS1t dX8_deliver_7 (by have h9 := mX8_needValueT hst ho2 ⟨_, ev3⟩; rw [ev3] at h9; exact h9) tk_505 iX8_needValue ⟨by decide, by decide⟩ ⟨by decide, by decide⟩ (Nat.le_of_ble_eq_true rfl) rfl (by decide) (by decide)
theorem mX8_deliverT {g : JG} (hst : (jl g).stackTraces = false) {a0 : Nat} {x1 : Int32} {z : Nat} {h : AH} {o : (Int32 ⊕ String) × Nat × AH} (hf : fX8_deliver a0 x1 z h = some o) (hv : (∃ v, o.1 = .inr v)) : jMetX g yX8_deliver (wj yX8_deliver cX8_deliver 2 (some .int)) rmX8_deliverT [.ref a0, .int x1] z h (xoI o.1, o.2.1, o.2.2) :=
  jMetX_mk (by decide) (Nat.le_of_ble_eq_true rfl) [some (.ref a0), some (.int x1)] rfl (wfX8_deliverT hst hf hv)
def fX8_finish  (a0 : Nat) (x1 : Int32) (z : Nat) (h : AH) : Option ((Int32 ⊕ String) × Nat × AH) :=
  gd (kd h a0 = 9) (Option.bind (rv h a0 0) (fun b2 => gd (kd h b2 = 1) (bd3 (fX0_has b2 x1 z h) (fun vo4 zo4 ho4h => bd3 (fX8_needThing vo4 zo4 ho4h) (fun vo5 zo5 ho5h => xr vo5 (fun v6 => gd (kd ho5h a0 = 9) (Option.bind (rv ho5h a0 0) (fun b9 => gd (kd ho5h b9 = 1) (bd3 (fX0_isIn b9 x1 0 zo5 ho5h) (fun vo11 zo11 ho11h => bd3 (fX8_needState vo11 zo11 ho11h) (fun vo12 zo12 ho12h => xr vo12 (fun v13 => gd (kd ho12h a0 = 9) (Option.bind (rv ho12h a0 5) (fun b16 => Option.bind (rv ho12h a0 0) (fun b17 => gd (kd ho12h b16 = 4) (bd2 (fX3_keep b16 b17 zo12 ho12h) (fun zo19 ho19h => gd (kd ho19h a0 = 9) (Option.bind (rv ho19h a0 4) (fun b21 => gd (kd ho19h b21 = 2) (bd3 (fX1_end b21 x1 zo19 ho19h) (fun vo23 zo23 ho23h => some (.inl vo23, zo23, ho23h))))))))))) (fun x14 => some (.inr x14, zo12, ho12h)))))))) (fun x7 => some (.inr x7, zo5, ho5h)))))))
theorem wfX8_finishR {g : JG} (hst : (jl g).stackTraces = false)   {a0 : Nat} {x1 : Int32} {z : Nat} {h : AH} {o : (Int32 ⊕ String) × Nat × AH} (hf : fX8_finish  a0 x1 z h = some o) (hv : (∃ v, o.1 = .inl v)) : J g MX8_finishR (jV g (xoI o.1, o.2.1, o.2.2) rmX8_finishR.cells rmX8_finishR.slots) 0 [some (.ref a0), some (.int x1)] [] z h 0 0 := by
  unfold fX8_finish at hf
  refine J_aload_n dX8_finish_0 rfl rfl ?_
  obtain ⟨k1, hf⟩ := gds hf
  obtain ⟨b2, rb2, hf⟩ := rfs hf
  refine G_8_0 dX8_finish_1 tk_247 k1 rb2 ?_
  refine J_iload_n dX8_finish_4 rfl rfl ?_
  obtain ⟨k3, hf⟩ := gds hf
  obtain ⟨vo4, zo4, ho4h, ho4, hf⟩ := rfs3 hf
  refine CV1i dX8_finish_5 (mX0_has hst ho4) tk_429 iX0_has k3 (by decide) rfl ⟨by decide, by decide⟩ ⟨by decide, by decide⟩ (Nat.le_of_ble_eq_true rfl) ?_
  obtain ⟨vo5, zo5, ho5h, ho5, hf⟩ := rfs3 hf
  rcases xrs hf with ⟨v6, ev6, hf⟩ | ⟨x7, ev6, hf⟩
  · refine XS1v dX8_finish_8 (by have h9 := mX8_needThingR hst ho5 ⟨_, ev6⟩; rw [ev6] at h9; exact h9) tk_434 iX8_needThing ⟨by decide, by decide⟩ ⟨by decide, by decide⟩ (Nat.le_of_ble_eq_true rfl) ?_
    refine J_aload_n dX8_finish_11 rfl rfl ?_
    obtain ⟨k8, hf⟩ := gds hf
    obtain ⟨b9, rb9, hf⟩ := rfs hf
    refine G_8_0 dX8_finish_12 tk_247 k8 rb9 ?_
    refine J_iload_n dX8_finish_15 rfl rfl ?_
    refine J_iconst (v := 0) dX8_finish_16 (by decide) ?_
    obtain ⟨k10, hf⟩ := gds hf
    obtain ⟨vo11, zo11, ho11h, ho11, hf⟩ := rfs3 hf
    refine CV2i dX8_finish_17 (mX0_isIn hst ho11) tk_638 iX0_isIn k10 (by decide) rfl ⟨by decide, by decide⟩ ⟨by decide, by decide⟩ (Nat.le_of_ble_eq_true rfl) ?_
    obtain ⟨vo12, zo12, ho12h, ho12, hf⟩ := rfs3 hf
    rcases xrs hf with ⟨v13, ev13, hf⟩ | ⟨x14, ev13, hf⟩
    · refine XS1v dX8_finish_20 (by have h9 := mX8_needStateR hst ho12 ⟨_, ev13⟩; rw [ev13] at h9; exact h9) tk_553 iX8_needState ⟨by decide, by decide⟩ ⟨by decide, by decide⟩ (Nat.le_of_ble_eq_true rfl) ?_
      refine J_aload_n dX8_finish_23 rfl rfl ?_
      obtain ⟨k15, hf⟩ := gds hf
      obtain ⟨b16, rb16, hf⟩ := rfs hf
      refine G_8_5 dX8_finish_24 tk_252 k15 rb16 ?_
      refine J_aload_n dX8_finish_27 rfl rfl ?_
      obtain ⟨b17, rb17, hf⟩ := rfs hf
      refine G_8_0 dX8_finish_28 tk_247 k15 rb17 ?_
      obtain ⟨k18, hf⟩ := gds hf
      obtain ⟨zo19, ho19h, ho19, hf⟩ := rfs2 hf
      refine CV1v dX8_finish_31 (mX3_keep hst ho19) tk_572 iX3_keep k18 (by decide) rfl ⟨by decide, by decide⟩ ⟨by decide, by decide⟩ (Nat.le_of_ble_eq_true rfl) ?_
      refine J_aload_n dX8_finish_34 rfl rfl ?_
      obtain ⟨k20, hf⟩ := gds hf
      obtain ⟨b21, rb21, hf⟩ := rfs hf
      refine G_8_4 dX8_finish_35 tk_251 k20 rb21 ?_
      refine J_iload_n dX8_finish_38 rfl rfl ?_
      obtain ⟨k22, hf⟩ := gds hf
      obtain ⟨vo23, zo23, ho23h, ho23, hf⟩ := rfs3 hf
      refine CV1i dX8_finish_39 (mX1_end hst ho23) tk_709 iX1_end k22 (by decide) rfl ⟨by decide, by decide⟩ ⟨by decide, by decide⟩ (Nat.le_of_ble_eq_true rfl) ?_
      cases hf
      exact jN_V (J_iretN dX8_finish_42 rfl (by decide) (by decide))
    · cases hf
      obtain ⟨_, hv⟩ := hv; cases hv
  · cases hf
    obtain ⟨_, hv⟩ := hv; cases hv
theorem mX8_finishR {g : JG} (hst : (jl g).stackTraces = false) {a0 : Nat} {x1 : Int32} {z : Nat} {h : AH} {o : (Int32 ⊕ String) × Nat × AH} (hf : fX8_finish a0 x1 z h = some o) (hv : (∃ v, o.1 = .inl v)) : jMetX g yX8_finish (wj yX8_finish cX8_finish 2 (some .int)) rmX8_finishR [.ref a0, .int x1] z h (xoI o.1, o.2.1, o.2.2) :=
  jMetX_mk (by decide) (Nat.le_of_ble_eq_true rfl) [some (.ref a0), some (.int x1)] rfl (wfX8_finishR hst hf hv)
theorem wfX8_finishT {g : JG} (hst : (jl g).stackTraces = false)   {a0 : Nat} {x1 : Int32} {z : Nat} {h : AH} {o : (Int32 ⊕ String) × Nat × AH} (hf : fX8_finish  a0 x1 z h = some o) (hv : (∃ v, o.1 = .inr v)) : J g MX8_finishT (jV g (xoI o.1, o.2.1, o.2.2) rmX8_finishT.cells rmX8_finishT.slots) 0 [some (.ref a0), some (.int x1)] [] z h 0 0 := by
  unfold fX8_finish at hf
  refine J_aload_n dX8_finish_0 rfl rfl ?_
  obtain ⟨k1, hf⟩ := gds hf
  obtain ⟨b2, rb2, hf⟩ := rfs hf
  refine G_8_0 dX8_finish_1 tk_247 k1 rb2 ?_
  refine J_iload_n dX8_finish_4 rfl rfl ?_
  obtain ⟨k3, hf⟩ := gds hf
  obtain ⟨vo4, zo4, ho4h, ho4, hf⟩ := rfs3 hf
  refine CV1i dX8_finish_5 (mX0_has hst ho4) tk_429 iX0_has k3 (by decide) rfl ⟨by decide, by decide⟩ ⟨by decide, by decide⟩ (Nat.le_of_ble_eq_true rfl) ?_
  obtain ⟨vo5, zo5, ho5h, ho5, hf⟩ := rfs3 hf
  rcases xrs hf with ⟨v6, ev6, hf⟩ | ⟨x7, ev6, hf⟩
  · refine XS1v dX8_finish_8 (by have h9 := mX8_needThingR hst ho5 ⟨_, ev6⟩; rw [ev6] at h9; exact h9) tk_434 iX8_needThing ⟨by decide, by decide⟩ ⟨by decide, by decide⟩ (Nat.le_of_ble_eq_true rfl) ?_
    refine J_aload_n dX8_finish_11 rfl rfl ?_
    obtain ⟨k8, hf⟩ := gds hf
    obtain ⟨b9, rb9, hf⟩ := rfs hf
    refine G_8_0 dX8_finish_12 tk_247 k8 rb9 ?_
    refine J_iload_n dX8_finish_15 rfl rfl ?_
    refine J_iconst (v := 0) dX8_finish_16 (by decide) ?_
    obtain ⟨k10, hf⟩ := gds hf
    obtain ⟨vo11, zo11, ho11h, ho11, hf⟩ := rfs3 hf
    refine CV2i dX8_finish_17 (mX0_isIn hst ho11) tk_638 iX0_isIn k10 (by decide) rfl ⟨by decide, by decide⟩ ⟨by decide, by decide⟩ (Nat.le_of_ble_eq_true rfl) ?_
    obtain ⟨vo12, zo12, ho12h, ho12, hf⟩ := rfs3 hf
    rcases xrs hf with ⟨v13, ev13, hf⟩ | ⟨x14, ev13, hf⟩
    · refine XS1v dX8_finish_20 (by have h9 := mX8_needStateR hst ho12 ⟨_, ev13⟩; rw [ev13] at h9; exact h9) tk_553 iX8_needState ⟨by decide, by decide⟩ ⟨by decide, by decide⟩ (Nat.le_of_ble_eq_true rfl) ?_
      refine J_aload_n dX8_finish_23 rfl rfl ?_
      obtain ⟨k15, hf⟩ := gds hf
      obtain ⟨b16, rb16, hf⟩ := rfs hf
      refine G_8_5 dX8_finish_24 tk_252 k15 rb16 ?_
      refine J_aload_n dX8_finish_27 rfl rfl ?_
      obtain ⟨b17, rb17, hf⟩ := rfs hf
      refine G_8_0 dX8_finish_28 tk_247 k15 rb17 ?_
      obtain ⟨k18, hf⟩ := gds hf
      obtain ⟨zo19, ho19h, ho19, hf⟩ := rfs2 hf
      refine CV1v dX8_finish_31 (mX3_keep hst ho19) tk_572 iX3_keep k18 (by decide) rfl ⟨by decide, by decide⟩ ⟨by decide, by decide⟩ (Nat.le_of_ble_eq_true rfl) ?_
      refine J_aload_n dX8_finish_34 rfl rfl ?_
      obtain ⟨k20, hf⟩ := gds hf
      obtain ⟨b21, rb21, hf⟩ := rfs hf
      refine G_8_4 dX8_finish_35 tk_251 k20 rb21 ?_
      refine J_iload_n dX8_finish_38 rfl rfl ?_
      obtain ⟨k22, hf⟩ := gds hf
      obtain ⟨vo23, zo23, ho23h, ho23, hf⟩ := rfs3 hf
      refine CV1i dX8_finish_39 (mX1_end hst ho23) tk_709 iX1_end k22 (by decide) rfl ⟨by decide, by decide⟩ ⟨by decide, by decide⟩ (Nat.le_of_ble_eq_true rfl) ?_
      cases hf
      obtain ⟨_, hv⟩ := hv; cases hv
    · cases hf
      exact XS1t dX8_finish_20 (by have h9 := mX8_needStateT hst ho12 ⟨_, ev13⟩; rw [ev13] at h9; exact h9) tk_553 iX8_needState ⟨by decide, by decide⟩ ⟨by decide, by decide⟩ (Nat.le_of_ble_eq_true rfl) rfl (by decide) (by decide)
  · cases hf
    exact XS1t dX8_finish_8 (by have h9 := mX8_needThingT hst ho5 ⟨_, ev6⟩; rw [ev6] at h9; exact h9) tk_434 iX8_needThing ⟨by decide, by decide⟩ ⟨by decide, by decide⟩ (Nat.le_of_ble_eq_true rfl) rfl (by decide) (by decide)
theorem mX8_finishT {g : JG} (hst : (jl g).stackTraces = false) {a0 : Nat} {x1 : Int32} {z : Nat} {h : AH} {o : (Int32 ⊕ String) × Nat × AH} (hf : fX8_finish a0 x1 z h = some o) (hv : (∃ v, o.1 = .inr v)) : jMetX g yX8_finish (wj yX8_finish cX8_finish 2 (some .int)) rmX8_finishT [.ref a0, .int x1] z h (xoI o.1, o.2.1, o.2.2) :=
  jMetX_mk (by decide) (Nat.le_of_ble_eq_true rfl) [some (.ref a0), some (.int x1)] rfl (wfX8_finishT hst hf hv)
def fX8_latest  (a0 : Nat) (x1 : Int32) (z : Nat) (h : AH) : Option ((Int32 ⊕ String) × Nat × AH) :=
  bd3 (fX8_isWithin x1 0 2 z h) (fun vo1 zo1 ho1h => bd3 (fX8_needValue vo1 zo1 ho1h) (fun vo2 zo2 ho2h => xr vo2 (fun v3 => (if x1 = 0 then (gd (kd ho2h a0 = 9) (Option.bind (rv ho2h a0 2) (fun b7 => gd (kd ho2h b7 = 7) (some (.inl (iv ho2h b7 1), zo2, ho2h))))) else (if x1 = 1 then (gd (kd ho2h a0 = 9) (Option.bind (rv ho2h a0 2) (fun b11 => gd (kd ho2h b11 = 7) (some (.inl (iv ho2h b11 2), zo2, ho2h))))) else (gd (kd ho2h a0 = 9) (Option.bind (rv ho2h a0 2) (fun b14 => gd (kd ho2h b14 = 7) (some (.inl (iv ho2h b14 3), zo2, ho2h)))))))) (fun x4 => some (.inr x4, zo2, ho2h))))
theorem wfX8_latestR {g : JG} (hst : (jl g).stackTraces = false)   {a0 : Nat} {x1 : Int32} {z : Nat} {h : AH} {o : (Int32 ⊕ String) × Nat × AH} (hf : fX8_latest  a0 x1 z h = some o) (hv : (∃ v, o.1 = .inl v)) : J g MX8_latestR (jV g (xoI o.1, o.2.1, o.2.2) rmX8_latestR.cells rmX8_latestR.slots) 0 [some (.ref a0), some (.int x1)] [] z h 0 0 := by
  unfold fX8_latest at hf
  refine J_iload_n dX8_latest_0 rfl rfl ?_
  refine J_iconst (v := 0) dX8_latest_1 (by decide) ?_
  refine J_iconst (v := 2) dX8_latest_2 (by decide) ?_
  obtain ⟨vo1, zo1, ho1h, ho1, hf⟩ := rfs3 hf
  refine CS3i (host := "") dX8_latest_3 (mX8_isWithin hst ho1) tk_281 iX8_isWithin ⟨by decide, by decide⟩ ⟨by decide, by decide⟩ (Nat.le_of_ble_eq_true rfl) ?_
  obtain ⟨vo2, zo2, ho2h, ho2, hf⟩ := rfs3 hf
  rcases xrs hf with ⟨v3, ev3, hf⟩ | ⟨x4, ev3, hf⟩
  · refine XS1v dX8_latest_6 (by have h9 := mX8_needValueR hst ho2 ⟨_, ev3⟩; rw [ev3] at h9; exact h9) tk_505 iX8_needValue ⟨by decide, by decide⟩ ⟨by decide, by decide⟩ (Nat.le_of_ble_eq_true rfl) ?_
    refine J_iload_n dX8_latest_9 rfl rfl ?_
    rcases br hf with ⟨c5, hf⟩ | ⟨c5, hf⟩
    · refine J_lookupC (off := 26) (tgt := 36) c5 dX8_latest_10 (by decide) (by decide) (by decide) ?_
      refine J_aload_n dX8_latest_36 rfl rfl ?_
      obtain ⟨k6, hf⟩ := gds hf
      obtain ⟨b7, rb7, hf⟩ := rfs hf
      refine G_8_2 dX8_latest_37 tk_249 k6 rb7 ?_
      obtain ⟨k8, hf⟩ := gds hf
      refine G_6_1 dX8_latest_40 tk_164 k8 ?_
      cases hf
      exact jN_V (J_iretN dX8_latest_43 rfl (by decide) (by decide))
    · skip
      rcases br hf with ⟨c9, hf⟩ | ⟨c9, hf⟩
      · refine J_lookupC (off := 34) (tgt := 44) c9 dX8_latest_10 (by decide) (by decide) (by decide) ?_
        refine J_aload_n dX8_latest_44 rfl rfl ?_
        obtain ⟨k10, hf⟩ := gds hf
        obtain ⟨b11, rb11, hf⟩ := rfs hf
        refine G_8_2 dX8_latest_45 tk_249 k10 rb11 ?_
        obtain ⟨k12, hf⟩ := gds hf
        refine G_6_2 dX8_latest_48 tk_166 k12 ?_
        cases hf
        exact jN_V (J_iretN dX8_latest_51 rfl (by decide) (by decide))
      · skip
        have tc5 := tn (i := 0) c5 (by decide)
        have tc9 := tn (i := 1) c9 (by decide)
        refine J_lookup (tgt := 52) (off := 42) dX8_latest_10 (by decide) (by simp [Op.lookupswitch.offset, tc5, Ne.symm tc5, tc9, Ne.symm tc9]) (by decide) ?_
        refine J_aload_n dX8_latest_52 rfl rfl ?_
        obtain ⟨k13, hf⟩ := gds hf
        obtain ⟨b14, rb14, hf⟩ := rfs hf
        refine G_8_2 dX8_latest_53 tk_249 k13 rb14 ?_
        obtain ⟨k15, hf⟩ := gds hf
        refine G_6_3 dX8_latest_56 tk_168 k15 ?_
        cases hf
        exact jN_V (J_iretN dX8_latest_59 rfl (by decide) (by decide))
  · cases hf
    obtain ⟨_, hv⟩ := hv; cases hv
theorem mX8_latestR {g : JG} (hst : (jl g).stackTraces = false) {a0 : Nat} {x1 : Int32} {z : Nat} {h : AH} {o : (Int32 ⊕ String) × Nat × AH} (hf : fX8_latest a0 x1 z h = some o) (hv : (∃ v, o.1 = .inl v)) : jMetX g yX8_latest (wj yX8_latest cX8_latest 2 (some .int)) rmX8_latestR [.ref a0, .int x1] z h (xoI o.1, o.2.1, o.2.2) :=
  jMetX_mk (by decide) (Nat.le_of_ble_eq_true rfl) [some (.ref a0), some (.int x1)] rfl (wfX8_latestR hst hf hv)
theorem wfX8_latestT {g : JG} (hst : (jl g).stackTraces = false)   {a0 : Nat} {x1 : Int32} {z : Nat} {h : AH} {o : (Int32 ⊕ String) × Nat × AH} (hf : fX8_latest  a0 x1 z h = some o) (hv : (∃ v, o.1 = .inr v)) : J g MX8_latestT (jV g (xoI o.1, o.2.1, o.2.2) rmX8_latestT.cells rmX8_latestT.slots) 0 [some (.ref a0), some (.int x1)] [] z h 0 0 := by
  unfold fX8_latest at hf
  refine J_iload_n dX8_latest_0 rfl rfl ?_
  refine J_iconst (v := 0) dX8_latest_1 (by decide) ?_
  refine J_iconst (v := 2) dX8_latest_2 (by decide) ?_
  obtain ⟨vo1, zo1, ho1h, ho1, hf⟩ := rfs3 hf
  refine CS3i (host := "") dX8_latest_3 (mX8_isWithin hst ho1) tk_281 iX8_isWithin ⟨by decide, by decide⟩ ⟨by decide, by decide⟩ (Nat.le_of_ble_eq_true rfl) ?_
  obtain ⟨vo2, zo2, ho2h, ho2, hf⟩ := rfs3 hf
  rcases xrs hf with ⟨v3, ev3, hf⟩ | ⟨x4, ev3, hf⟩
  · refine XS1v dX8_latest_6 (by have h9 := mX8_needValueR hst ho2 ⟨_, ev3⟩; rw [ev3] at h9; exact h9) tk_505 iX8_needValue ⟨by decide, by decide⟩ ⟨by decide, by decide⟩ (Nat.le_of_ble_eq_true rfl) ?_
    refine J_iload_n dX8_latest_9 rfl rfl ?_
    rcases br hf with ⟨c5, hf⟩ | ⟨c5, hf⟩
    · refine J_lookupC (off := 26) (tgt := 36) c5 dX8_latest_10 (by decide) (by decide) (by decide) ?_
      refine J_aload_n dX8_latest_36 rfl rfl ?_
      obtain ⟨k6, hf⟩ := gds hf
      obtain ⟨b7, rb7, hf⟩ := rfs hf
      refine G_8_2 dX8_latest_37 tk_249 k6 rb7 ?_
      obtain ⟨k8, hf⟩ := gds hf
      refine G_6_1 dX8_latest_40 tk_164 k8 ?_
      cases hf
      obtain ⟨_, hv⟩ := hv; cases hv
    · skip
      rcases br hf with ⟨c9, hf⟩ | ⟨c9, hf⟩
      · refine J_lookupC (off := 34) (tgt := 44) c9 dX8_latest_10 (by decide) (by decide) (by decide) ?_
        refine J_aload_n dX8_latest_44 rfl rfl ?_
        obtain ⟨k10, hf⟩ := gds hf
        obtain ⟨b11, rb11, hf⟩ := rfs hf
        refine G_8_2 dX8_latest_45 tk_249 k10 rb11 ?_
        obtain ⟨k12, hf⟩ := gds hf
        refine G_6_2 dX8_latest_48 tk_166 k12 ?_
        cases hf
        obtain ⟨_, hv⟩ := hv; cases hv
      · skip
        have tc5 := tn (i := 0) c5 (by decide)
        have tc9 := tn (i := 1) c9 (by decide)
        refine J_lookup (tgt := 52) (off := 42) dX8_latest_10 (by decide) (by simp [Op.lookupswitch.offset, tc5, Ne.symm tc5, tc9, Ne.symm tc9]) (by decide) ?_
        refine J_aload_n dX8_latest_52 rfl rfl ?_
        obtain ⟨k13, hf⟩ := gds hf
        obtain ⟨b14, rb14, hf⟩ := rfs hf
        refine G_8_2 dX8_latest_53 tk_249 k13 rb14 ?_
        obtain ⟨k15, hf⟩ := gds hf
        refine G_6_3 dX8_latest_56 tk_168 k15 ?_
        cases hf
        obtain ⟨_, hv⟩ := hv; cases hv
  · cases hf
    exact XS1t dX8_latest_6 (by have h9 := mX8_needValueT hst ho2 ⟨_, ev3⟩; rw [ev3] at h9; exact h9) tk_505 iX8_needValue ⟨by decide, by decide⟩ ⟨by decide, by decide⟩ (Nat.le_of_ble_eq_true rfl) rfl (by decide) (by decide)
theorem mX8_latestT {g : JG} (hst : (jl g).stackTraces = false) {a0 : Nat} {x1 : Int32} {z : Nat} {h : AH} {o : (Int32 ⊕ String) × Nat × AH} (hf : fX8_latest a0 x1 z h = some o) (hv : (∃ v, o.1 = .inr v)) : jMetX g yX8_latest (wj yX8_latest cX8_latest 2 (some .int)) rmX8_latestT [.ref a0, .int x1] z h (xoI o.1, o.2.1, o.2.2) :=
  jMetX_mk (by decide) (Nat.le_of_ble_eq_true rfl) [some (.ref a0), some (.int x1)] rfl (wfX8_latestT hst hf hv)
def fX8_init  (a0 : Nat) (z : Nat) (h : AH) : Option (Nat × AH) :=
  bl (wNew h z 1 0) (fun h1 => bd2 (fX0_init z (z + 1) h1) (fun zo3 ho3h => gd (kd ho3h a0 = 9) (bl (wR ho3h a0 0 (some z)) (fun h5 => bl (wNew h5 zo3 1 0) (fun h6 => bd2 (fX0_init zo3 (zo3 + 1) h6) (fun zo8 ho8h => gd (kd ho8h a0 = 9) (bl (wR ho8h a0 1 (some zo3)) (fun h10 => bl (wNew h10 zo8 7 0) (fun h11 => bd2 (fX6_init zo8 (zo8 + 1) h11) (fun zo13 ho13h => gd (kd ho13h a0 = 9) (bl (wR ho13h a0 2 (some zo8)) (fun h15 => bl (wNew h15 zo13 8 0) (fun h16 => bd2 (fX7_init zo13 (zo13 + 1) h16) (fun zo18 ho18h => gd (kd ho18h a0 = 9) (bl (wR ho18h a0 3 (some zo13)) (fun h20 => bl (wNew h20 zo18 2 0) (fun h21 => gd (kd h21 a0 = 9) (Option.bind (rv h21 a0 0) (fun b24 => Option.bind (rv h21 a0 2) (fun b25 => Option.bind (rv h21 a0 3) (fun b26 => bd2 (fX1_init zo18 b24 b25 b26 (zo18 + 1) h21) (fun zo27 ho27h => gd (kd ho27h a0 = 9) (bl (wR ho27h a0 4 (some zo18)) (fun h29 => bl (wNew h29 zo27 4 0) (fun h30 => bd2 (fX3_init zo27 (zo27 + 1) h30) (fun zo32 ho32h => gd (kd ho32h a0 = 9) (bl (wR ho32h a0 5 (some zo27)) (fun h34 => bl (wNew h34 zo32 6 0) (fun h35 => bd2 (fX5_init zo32 (zo32 + 1) h35) (fun zo37 ho37h => gd (kd ho37h a0 = 9) (bl (wR ho37h a0 6 (some zo32)) (fun h39 => some (zo37, h39)))))))))))))))))))))))))))))))))
theorem wfX8_init {g : JG} (hst : (jl g).stackTraces = false)   {a0 : Nat} {z : Nat} {h : AH} {o : Nat × AH} (hf : fX8_init  a0 z h = some o) : J g MX8_init (jN g (none, o.1, o.2) rmX8_init.cells rmX8_init.slots) 0 [some (.ref a0)] [] z h 0 0 := by
  unfold fX8_init at hf
  refine J_aload_n dX8_init_0 rfl rfl ?_
  refine J_objInit dX8_init_1 tk_24 tk_25 tk_26 (by decide) (Nat.le_of_ble_eq_true rfl) ?_
  refine J_aload_n dX8_init_4 rfl rfl ?_
  refine J_new (ci := 0) dX8_init_5 (by decide) rfl inG0 tyX0 tyX0_ok tk_27 tk_28 tk_2 (by decide) (by decide) (by decide) ?_
  obtain ⟨h1, eh1, hf⟩ := bls hf
  refine J_h eh1 ?_
  have k2 : kd h1 z = 1 := by rw [eh1]; exact wNew_kd _ _ _ _
  refine J_dup dX8_init_8 rfl ?_
  obtain ⟨zo3, ho3h, ho3, hf⟩ := rfs2 hf
  refine CIN0v dX8_init_9 (mX0_init hst ho3) tl_29 iX0_init ⟨by decide, by decide⟩ ⟨by decide, by decide⟩ (Nat.le_of_ble_eq_true rfl) ?_
  obtain ⟨k4, hf⟩ := gds hf
  refine P_8_0 dX8_init_12 tk_247 k4 rfl rfl ?_
  obtain ⟨h5, eh5, hf⟩ := bls hf
  refine J_h eh5 ?_
  refine J_aload_n dX8_init_15 rfl rfl ?_
  refine J_new (ci := 0) dX8_init_16 (by decide) rfl inG0 tyX0 tyX0_ok tk_27 tk_28 tk_2 (by decide) (by decide) (by decide) ?_
  obtain ⟨h6, eh6, hf⟩ := bls hf
  refine J_h eh6 ?_
  have k7 : kd h6 zo3 = 1 := by rw [eh6]; exact wNew_kd _ _ _ _
  refine J_dup dX8_init_19 rfl ?_
  obtain ⟨zo8, ho8h, ho8, hf⟩ := rfs2 hf
  refine CIN0v dX8_init_20 (mX0_init hst ho8) tl_29 iX0_init ⟨by decide, by decide⟩ ⟨by decide, by decide⟩ (Nat.le_of_ble_eq_true rfl) ?_
  obtain ⟨k9, hf⟩ := gds hf
  refine P_8_1 dX8_init_23 tk_248 k9 rfl rfl ?_
  obtain ⟨h10, eh10, hf⟩ := bls hf
  refine J_h eh10 ?_
  refine J_aload_n dX8_init_26 rfl rfl ?_
  refine J_new (ci := 6) dX8_init_27 (by decide) rfl inG6 tyX6 tyX6_ok tk_155 tk_156 tk_5 (by decide) (by decide) (by decide) ?_
  obtain ⟨h11, eh11, hf⟩ := bls hf
  refine J_h eh11 ?_
  have k12 : kd h11 zo8 = 7 := by rw [eh11]; exact wNew_kd _ _ _ _
  refine J_dup dX8_init_30 rfl ?_
  obtain ⟨zo13, ho13h, ho13, hf⟩ := rfs2 hf
  refine CIN0v dX8_init_31 (mX6_init hst ho13) tl_157 iX6_init ⟨by decide, by decide⟩ ⟨by decide, by decide⟩ (Nat.le_of_ble_eq_true rfl) ?_
  obtain ⟨k14, hf⟩ := gds hf
  refine P_8_2 dX8_init_34 tk_249 k14 rfl rfl ?_
  obtain ⟨h15, eh15, hf⟩ := bls hf
  refine J_h eh15 ?_
  refine J_aload_n dX8_init_37 rfl rfl ?_
  refine J_new (ci := 7) dX8_init_38 (by decide) rfl inG7 tyX7 tyX7_ok tk_178 tk_179 tk_6 (by decide) (by decide) (by decide) ?_
  obtain ⟨h16, eh16, hf⟩ := bls hf
  refine J_h eh16 ?_
  have k17 : kd h16 zo13 = 8 := by rw [eh16]; exact wNew_kd _ _ _ _
  refine J_dup dX8_init_41 rfl ?_
  obtain ⟨zo18, ho18h, ho18, hf⟩ := rfs2 hf
  refine CIN0v dX8_init_42 (mX7_init hst ho18) tl_180 iX7_init ⟨by decide, by decide⟩ ⟨by decide, by decide⟩ (Nat.le_of_ble_eq_true rfl) ?_
  obtain ⟨k19, hf⟩ := gds hf
  refine P_8_3 dX8_init_45 tk_250 k19 rfl rfl ?_
  obtain ⟨h20, eh20, hf⟩ := bls hf
  refine J_h eh20 ?_
  refine J_aload_n dX8_init_48 rfl rfl ?_
  refine J_new (ci := 1) dX8_init_49 (by decide) rfl inG1 tyX1 tyX1_ok tk_199 tk_200 tk_7 (by decide) (by decide) (by decide) ?_
  obtain ⟨h21, eh21, hf⟩ := bls hf
  refine J_h eh21 ?_
  have k22 : kd h21 zo18 = 2 := by rw [eh21]; exact wNew_kd _ _ _ _
  refine J_dup dX8_init_52 rfl ?_
  refine J_aload_n dX8_init_53 rfl rfl ?_
  obtain ⟨k23, hf⟩ := gds hf
  obtain ⟨b24, rb24, hf⟩ := rfs hf
  refine G_8_0 dX8_init_54 tk_247 k23 rb24 ?_
  refine J_aload_n dX8_init_57 rfl rfl ?_
  obtain ⟨b25, rb25, hf⟩ := rfs hf
  refine G_8_2 dX8_init_58 tk_249 k23 rb25 ?_
  refine J_aload_n dX8_init_61 rfl rfl ?_
  obtain ⟨b26, rb26, hf⟩ := rfs hf
  refine G_8_3 dX8_init_62 tk_250 k23 rb26 ?_
  obtain ⟨zo27, ho27h, ho27, hf⟩ := rfs2 hf
  refine CI3v (host := "") dX8_init_65 (mX1_init hst ho27) tk_201 iX1_init ⟨by decide, by decide⟩ ⟨by decide, by decide⟩ (Nat.le_of_ble_eq_true rfl) ?_
  obtain ⟨k28, hf⟩ := gds hf
  refine P_8_4 dX8_init_68 tk_251 k28 rfl rfl ?_
  obtain ⟨h29, eh29, hf⟩ := bls hf
  refine J_h eh29 ?_
  refine J_aload_n dX8_init_71 rfl rfl ?_
  refine J_new (ci := 3) dX8_init_72 (by decide) rfl inG3 tyX3 tyX3_ok tk_215 tk_216 tk_8 (by decide) (by decide) (by decide) ?_
  obtain ⟨h30, eh30, hf⟩ := bls hf
  refine J_h eh30 ?_
  have k31 : kd h30 zo27 = 4 := by rw [eh30]; exact wNew_kd _ _ _ _
  refine J_dup dX8_init_75 rfl ?_
  obtain ⟨zo32, ho32h, ho32, hf⟩ := rfs2 hf
  refine CIN0v dX8_init_76 (mX3_init hst ho32) tl_217 iX3_init ⟨by decide, by decide⟩ ⟨by decide, by decide⟩ (Nat.le_of_ble_eq_true rfl) ?_
  obtain ⟨k33, hf⟩ := gds hf
  refine P_8_5 dX8_init_79 tk_252 k33 rfl rfl ?_
  obtain ⟨h34, eh34, hf⟩ := bls hf
  refine J_h eh34 ?_
  refine J_aload_n dX8_init_82 rfl rfl ?_
  refine J_new (ci := 5) dX8_init_83 (by decide) rfl inG5 tyX5 tyX5_ok tk_231 tk_232 tk_9 (by decide) (by decide) (by decide) ?_
  obtain ⟨h35, eh35, hf⟩ := bls hf
  refine J_h eh35 ?_
  have k36 : kd h35 zo32 = 6 := by rw [eh35]; exact wNew_kd _ _ _ _
  refine J_dup dX8_init_86 rfl ?_
  obtain ⟨zo37, ho37h, ho37, hf⟩ := rfs2 hf
  refine CIN0v dX8_init_87 (mX5_init hst ho37) tl_233 iX5_init ⟨by decide, by decide⟩ ⟨by decide, by decide⟩ (Nat.le_of_ble_eq_true rfl) ?_
  obtain ⟨k38, hf⟩ := gds hf
  refine P_8_6 dX8_init_90 tk_253 k38 rfl rfl ?_
  obtain ⟨h39, eh39, hf⟩ := bls hf
  refine J_h eh39 ?_
  cases hf
  exact J_vretN dX8_init_93 rfl (by decide) (by decide)
theorem mX8_init {g : JG} (hst : (jl g).stackTraces = false) {a0 : Nat} {z : Nat} {h : AH} {o : Nat × AH} (hf : fX8_init a0 z h = some o) : jMet g yX8_init (wj yX8_init cX8_init 1 none) rmX8_init [.ref a0] z h (none, o.1, o.2) :=
  jMet_mk (by decide) (Nat.le_of_ble_eq_true rfl) [some (.ref a0)] rfl (wfX8_init hst hf)
def fX8_resources  (a0 : Nat) (z : Nat) (h : AH) : Option (Int32 × Nat × AH) :=
  gd (kd h a0 = 9) (Option.bind (rv h a0 0) (fun b2 => gd (kd h b2 = 1) (Option.bind (rv h b2 0) (fun b4 => gd (kd h b4 = 3) (some ((iv h b4 3), z, h))))))
theorem wfX8_resources {g : JG} (hst : (jl g).stackTraces = false)   {a0 : Nat} {z : Nat} {h : AH} {o : Int32 × Nat × AH} (hf : fX8_resources  a0 z h = some o) : J g MX8_resources (jN g (some (.int o.1), o.2.1, o.2.2) rmX8_resources.cells rmX8_resources.slots) 0 [some (.ref a0)] [] z h 0 0 := by
  unfold fX8_resources at hf
  refine J_aload_n dX8_resources_0 rfl rfl ?_
  obtain ⟨k1, hf⟩ := gds hf
  obtain ⟨b2, rb2, hf⟩ := rfs hf
  refine G_8_0 dX8_resources_1 tk_247 k1 rb2 ?_
  obtain ⟨k3, hf⟩ := gds hf
  obtain ⟨b4, rb4, hf⟩ := rfs hf
  refine G_0_0 dX8_resources_4 tk_92 k3 rb4 ?_
  obtain ⟨k5, hf⟩ := gds hf
  refine G_2_3 dX8_resources_7 tk_48 k5 ?_
  cases hf
  exact J_iretN dX8_resources_10 rfl (by decide) (by decide)
theorem mX8_resources {g : JG} (hst : (jl g).stackTraces = false) {a0 : Nat} {z : Nat} {h : AH} {o : Int32 × Nat × AH} (hf : fX8_resources a0 z h = some o) : jMet g yX8_resources (wj yX8_resources cX8_resources 1 (some .int)) rmX8_resources [.ref a0] z h (some (.int o.1), o.2.1, o.2.2) :=
  jMet_mk (by decide) (Nat.le_of_ble_eq_true rfl) [some (.ref a0)] rfl (wfX8_resources hst hf)
def fX8_resource  (a0 : Nat) (x1 : Int32) (x2 : Int32) (z : Nat) (h : AH) : Option ((Int32 ⊕ String) × Nat × AH) :=
  gd (kd h a0 = 9) (Option.bind (rv h a0 0) (fun b2 => gd (kd h b2 = 1) (Option.bind (rv h b2 0) (fun b4 => gd (kd h b4 = 3) (bd3 (fX2_has b4 x1 z h) (fun vo6 zo6 ho6h => bd3 (fX8_needThing vo6 zo6 ho6h) (fun vo7 zo7 ho7h => xr vo7 (fun v8 => bd3 (fX8_isWithin x2 0 4 zo7 ho7h) (fun vo10 zo10 ho10h => bd3 (fX8_needValue vo10 zo10 ho10h) (fun vo11 zo11 ho11h => xr vo11 (fun v12 => (if x2 = 0 then (gd (kd ho11h a0 = 9) (Option.bind (rv ho11h a0 0) (fun b16 => gd (kd ho11h b16 = 1) (Option.bind (rv ho11h b16 0) (fun b18 => gd (kd ho11h b18 = 3) (Option.bind (rv ho11h b18 0) (fun b20 => gd (kd ho11h b20 = 13) (gd (¬ ((x1 : Int32) < 0 ∨ ln ho11h b20 ≤ Int32.toNatClampNeg x1)) (some (.inl (iv ho11h b20 (Int32.toNatClampNeg x1)), zo11, ho11h)))))))))) else (if x2 = 1 then (gd (kd ho11h a0 = 9) (Option.bind (rv ho11h a0 0) (fun b25 => gd (kd ho11h b25 = 1) (Option.bind (rv ho11h b25 0) (fun b27 => gd (kd ho11h b27 = 3) (Option.bind (rv ho11h b27 1) (fun b29 => gd (kd ho11h b29 = 13) (gd (¬ ((x1 : Int32) < 0 ∨ ln ho11h b29 ≤ Int32.toNatClampNeg x1)) (bd3 (fJ6_bitCount_0f7a4 (iv ho11h b29 (Int32.toNatClampNeg x1)) zo11 ho11h) (fun vo32 zo32 ho32h => some (.inl (vo32 - 1), zo32, ho32h))))))))))) else (if x2 = 2 then (gd (kd ho11h a0 = 9) (Option.bind (rv ho11h a0 0) (fun b35 => gd (kd ho11h b35 = 1) (Option.bind (rv ho11h b35 0) (fun b37 => gd (kd ho11h b37 = 3) (Option.bind (rv ho11h b37 2) (fun b39 => gd (kd ho11h b39 = 13) (gd (¬ ((x1 : Int32) < 0 ∨ ln ho11h b39 ≤ Int32.toNatClampNeg x1)) (some (.inl (iv ho11h b39 (Int32.toNatClampNeg x1)), zo11, ho11h)))))))))) else (if x2 = 3 then (gd (kd ho11h a0 = 9) (Option.bind (rv ho11h a0 0) (fun b44 => gd (kd ho11h b44 = 1) (bd3 (fX0_ownerOf b44 x1 zo11 ho11h) (fun vo46 zo46 ho46h => some (.inl vo46, zo46, ho46h)))))) else (gd (kd ho11h a0 = 9) (Option.bind (rv ho11h a0 0) (fun b48 => gd (kd ho11h b48 = 1) (bd3 (fX0_holdersInWay b48 (-1) x1 zo11 ho11h) (fun vo50 zo50 ho50h => some (.inl vo50, zo50, ho50h))))))))))) (fun x13 => some (.inr x13, zo11, ho11h))))) (fun x9 => some (.inr x9, zo7, ho7h)))))))))
theorem wfX8_resourceR {g : JG} (hst : (jl g).stackTraces = false)   {a0 : Nat} {x1 : Int32} {x2 : Int32} {z : Nat} {h : AH} {o : (Int32 ⊕ String) × Nat × AH} (hf : fX8_resource  a0 x1 x2 z h = some o) (hv : (∃ v, o.1 = .inl v)) : J g MX8_resourceR (jV g (xoI o.1, o.2.1, o.2.2) rmX8_resourceR.cells rmX8_resourceR.slots) 0 [some (.ref a0), some (.int x1), some (.int x2)] [] z h 0 0 := by
  unfold fX8_resource at hf
  refine J_aload_n dX8_resource_0 rfl rfl ?_
  obtain ⟨k1, hf⟩ := gds hf
  obtain ⟨b2, rb2, hf⟩ := rfs hf
  refine G_8_0 dX8_resource_1 tk_247 k1 rb2 ?_
  obtain ⟨k3, hf⟩ := gds hf
  obtain ⟨b4, rb4, hf⟩ := rfs hf
  refine G_0_0 dX8_resource_4 tk_92 k3 rb4 ?_
  refine J_iload_n dX8_resource_7 rfl rfl ?_
  obtain ⟨k5, hf⟩ := gds hf
  obtain ⟨vo6, zo6, ho6h, ho6, hf⟩ := rfs3 hf
  refine CV1i dX8_resource_8 (mX2_has hst ho6) tk_552 iX2_has k5 (by decide) rfl ⟨by decide, by decide⟩ ⟨by decide, by decide⟩ (Nat.le_of_ble_eq_true rfl) ?_
  obtain ⟨vo7, zo7, ho7h, ho7, hf⟩ := rfs3 hf
  rcases xrs hf with ⟨v8, ev8, hf⟩ | ⟨x9, ev8, hf⟩
  · refine XS1v dX8_resource_11 (by have h9 := mX8_needThingR hst ho7 ⟨_, ev8⟩; rw [ev8] at h9; exact h9) tk_434 iX8_needThing ⟨by decide, by decide⟩ ⟨by decide, by decide⟩ (Nat.le_of_ble_eq_true rfl) ?_
    refine J_iload_n dX8_resource_14 rfl rfl ?_
    refine J_iconst (v := 0) dX8_resource_15 (by decide) ?_
    refine J_iconst (v := 4) dX8_resource_16 (by decide) ?_
    obtain ⟨vo10, zo10, ho10h, ho10, hf⟩ := rfs3 hf
    refine CS3i (host := "") dX8_resource_17 (mX8_isWithin hst ho10) tk_281 iX8_isWithin ⟨by decide, by decide⟩ ⟨by decide, by decide⟩ (Nat.le_of_ble_eq_true rfl) ?_
    obtain ⟨vo11, zo11, ho11h, ho11, hf⟩ := rfs3 hf
    rcases xrs hf with ⟨v12, ev12, hf⟩ | ⟨x13, ev12, hf⟩
    · refine XS1v dX8_resource_20 (by have h9 := mX8_needValueR hst ho11 ⟨_, ev12⟩; rw [ev12] at h9; exact h9) tk_505 iX8_needValue ⟨by decide, by decide⟩ ⟨by decide, by decide⟩ (Nat.le_of_ble_eq_true rfl) ?_
      refine J_iload_n dX8_resource_23 rfl rfl ?_
      rcases br hf with ⟨c14, hf⟩ | ⟨c14, hf⟩
      · refine J_tableC (off := 32) (tgt := 56) c14 dX8_resource_24 (by decide) (by decide) (by decide) (by decide) ?_
        refine J_aload_n dX8_resource_56 rfl rfl ?_
        obtain ⟨k15, hf⟩ := gds hf
        obtain ⟨b16, rb16, hf⟩ := rfs hf
        refine G_8_0 dX8_resource_57 tk_247 k15 rb16 ?_
        obtain ⟨k17, hf⟩ := gds hf
        obtain ⟨b18, rb18, hf⟩ := rfs hf
        refine G_0_0 dX8_resource_60 tk_92 k17 rb18 ?_
        obtain ⟨k19, hf⟩ := gds hf
        obtain ⟨b20, rb20, hf⟩ := rfs hf
        refine G_2_0 dX8_resource_63 tk_40 k19 rb20 ?_
        refine J_iload_n dX8_resource_66 rfl rfl ?_
        obtain ⟨k21, hf⟩ := gds hf
        obtain ⟨n22, hf⟩ := gds hf
        refine J_iaload dX8_resource_67 k21 n22 ?_
        cases hf
        exact jN_V (J_iretN dX8_resource_68 rfl (by decide) (by decide))
      · skip
        rcases br hf with ⟨c23, hf⟩ | ⟨c23, hf⟩
        · refine J_tableC (off := 45) (tgt := 69) c23 dX8_resource_24 (by decide) (by decide) (by decide) (by decide) ?_
          refine J_aload_n dX8_resource_69 rfl rfl ?_
          obtain ⟨k24, hf⟩ := gds hf
          obtain ⟨b25, rb25, hf⟩ := rfs hf
          refine G_8_0 dX8_resource_70 tk_247 k24 rb25 ?_
          obtain ⟨k26, hf⟩ := gds hf
          obtain ⟨b27, rb27, hf⟩ := rfs hf
          refine G_0_0 dX8_resource_73 tk_92 k26 rb27 ?_
          obtain ⟨k28, hf⟩ := gds hf
          obtain ⟨b29, rb29, hf⟩ := rfs hf
          refine G_2_1 dX8_resource_76 tk_42 k28 rb29 ?_
          refine J_iload_n dX8_resource_79 rfl rfl ?_
          obtain ⟨k30, hf⟩ := gds hf
          obtain ⟨n31, hf⟩ := gds hf
          refine J_iaload dX8_resource_80 k30 n31 ?_
          obtain ⟨vo32, zo32, ho32h, ho32, hf⟩ := rfs3 hf
          refine CS1i (host := "") dX8_resource_81 (mJ6_bitCount_0f7a4 hst ho32) tk_596 iJ6_bitCount_0f7a4 ⟨by decide, by decide⟩ ⟨by decide, by decide⟩ (Nat.le_of_ble_eq_true rfl) ?_
          refine J_iconst (v := 1) dX8_resource_84 (by decide) ?_
          refine J_isub dX8_resource_85 ?_
          cases hf
          exact jN_V (J_iretN dX8_resource_86 rfl (by decide) (by decide))
        · skip
          rcases br hf with ⟨c33, hf⟩ | ⟨c33, hf⟩
          · refine J_tableC (off := 63) (tgt := 87) c33 dX8_resource_24 (by decide) (by decide) (by decide) (by decide) ?_
            refine J_aload_n dX8_resource_87 rfl rfl ?_
            obtain ⟨k34, hf⟩ := gds hf
            obtain ⟨b35, rb35, hf⟩ := rfs hf
            refine G_8_0 dX8_resource_88 tk_247 k34 rb35 ?_
            obtain ⟨k36, hf⟩ := gds hf
            obtain ⟨b37, rb37, hf⟩ := rfs hf
            refine G_0_0 dX8_resource_91 tk_92 k36 rb37 ?_
            obtain ⟨k38, hf⟩ := gds hf
            obtain ⟨b39, rb39, hf⟩ := rfs hf
            refine G_2_2 dX8_resource_94 tk_45 k38 rb39 ?_
            refine J_iload_n dX8_resource_97 rfl rfl ?_
            obtain ⟨k40, hf⟩ := gds hf
            obtain ⟨n41, hf⟩ := gds hf
            refine J_iaload dX8_resource_98 k40 n41 ?_
            cases hf
            exact jN_V (J_iretN dX8_resource_99 rfl (by decide) (by decide))
          · skip
            rcases br hf with ⟨c42, hf⟩ | ⟨c42, hf⟩
            · refine J_tableC (off := 76) (tgt := 100) c42 dX8_resource_24 (by decide) (by decide) (by decide) (by decide) ?_
              refine J_aload_n dX8_resource_100 rfl rfl ?_
              obtain ⟨k43, hf⟩ := gds hf
              obtain ⟨b44, rb44, hf⟩ := rfs hf
              refine G_8_0 dX8_resource_101 tk_247 k43 rb44 ?_
              refine J_iload_n dX8_resource_104 rfl rfl ?_
              obtain ⟨k45, hf⟩ := gds hf
              obtain ⟨vo46, zo46, ho46h, ho46, hf⟩ := rfs3 hf
              refine CV1i dX8_resource_105 (mX0_ownerOf hst ho46) tk_597 iX0_ownerOf k45 (by decide) rfl ⟨by decide, by decide⟩ ⟨by decide, by decide⟩ (Nat.le_of_ble_eq_true rfl) ?_
              cases hf
              exact jN_V (J_iretN dX8_resource_108 rfl (by decide) (by decide))
            · skip
              have tc14 := tn (i := 0) c14 (by decide)
              have tc23 := tn (i := 1) c23 (by decide)
              have tc33 := tn (i := 2) c33 (by decide)
              have tc42 := tn (i := 3) c42 (by decide)
              refine J_tableOut (tgt := 109) dX8_resource_24 (by omega) (by decide) ?_
              refine J_aload_n dX8_resource_109 rfl rfl ?_
              obtain ⟨k47, hf⟩ := gds hf
              obtain ⟨b48, rb48, hf⟩ := rfs hf
              refine G_8_0 dX8_resource_110 tk_247 k47 rb48 ?_
              refine J_iconst (v := (-1)) dX8_resource_113 (by decide) ?_
              refine J_iload_n dX8_resource_114 rfl rfl ?_
              obtain ⟨k49, hf⟩ := gds hf
              obtain ⟨vo50, zo50, ho50h, ho50, hf⟩ := rfs3 hf
              refine CV2i dX8_resource_115 (mX0_holdersInWay hst ho50) tk_605 iX0_holdersInWay k49 (by decide) rfl ⟨by decide, by decide⟩ ⟨by decide, by decide⟩ (Nat.le_of_ble_eq_true rfl) ?_
              cases hf
              exact jN_V (J_iretN dX8_resource_118 rfl (by decide) (by decide))
    · cases hf
      obtain ⟨_, hv⟩ := hv; cases hv
  · cases hf
    obtain ⟨_, hv⟩ := hv; cases hv
theorem mX8_resourceR {g : JG} (hst : (jl g).stackTraces = false) {a0 : Nat} {x1 : Int32} {x2 : Int32} {z : Nat} {h : AH} {o : (Int32 ⊕ String) × Nat × AH} (hf : fX8_resource a0 x1 x2 z h = some o) (hv : (∃ v, o.1 = .inl v)) : jMetX g yX8_resource (wj yX8_resource cX8_resource 3 (some .int)) rmX8_resourceR [.ref a0, .int x1, .int x2] z h (xoI o.1, o.2.1, o.2.2) :=
  jMetX_mk (by decide) (Nat.le_of_ble_eq_true rfl) [some (.ref a0), some (.int x1), some (.int x2)] rfl (wfX8_resourceR hst hf hv)
theorem wfX8_resourceT {g : JG} (hst : (jl g).stackTraces = false)   {a0 : Nat} {x1 : Int32} {x2 : Int32} {z : Nat} {h : AH} {o : (Int32 ⊕ String) × Nat × AH} (hf : fX8_resource  a0 x1 x2 z h = some o) (hv : (∃ v, o.1 = .inr v)) : J g MX8_resourceT (jV g (xoI o.1, o.2.1, o.2.2) rmX8_resourceT.cells rmX8_resourceT.slots) 0 [some (.ref a0), some (.int x1), some (.int x2)] [] z h 0 0 := by
  unfold fX8_resource at hf
  refine J_aload_n dX8_resource_0 rfl rfl ?_
  obtain ⟨k1, hf⟩ := gds hf
  obtain ⟨b2, rb2, hf⟩ := rfs hf
  refine G_8_0 dX8_resource_1 tk_247 k1 rb2 ?_
  obtain ⟨k3, hf⟩ := gds hf
  obtain ⟨b4, rb4, hf⟩ := rfs hf
  refine G_0_0 dX8_resource_4 tk_92 k3 rb4 ?_
  refine J_iload_n dX8_resource_7 rfl rfl ?_
  obtain ⟨k5, hf⟩ := gds hf
  obtain ⟨vo6, zo6, ho6h, ho6, hf⟩ := rfs3 hf
  refine CV1i dX8_resource_8 (mX2_has hst ho6) tk_552 iX2_has k5 (by decide) rfl ⟨by decide, by decide⟩ ⟨by decide, by decide⟩ (Nat.le_of_ble_eq_true rfl) ?_
  obtain ⟨vo7, zo7, ho7h, ho7, hf⟩ := rfs3 hf
  rcases xrs hf with ⟨v8, ev8, hf⟩ | ⟨x9, ev8, hf⟩
  · refine XS1v dX8_resource_11 (by have h9 := mX8_needThingR hst ho7 ⟨_, ev8⟩; rw [ev8] at h9; exact h9) tk_434 iX8_needThing ⟨by decide, by decide⟩ ⟨by decide, by decide⟩ (Nat.le_of_ble_eq_true rfl) ?_
    refine J_iload_n dX8_resource_14 rfl rfl ?_
    refine J_iconst (v := 0) dX8_resource_15 (by decide) ?_
    refine J_iconst (v := 4) dX8_resource_16 (by decide) ?_
    obtain ⟨vo10, zo10, ho10h, ho10, hf⟩ := rfs3 hf
    refine CS3i (host := "") dX8_resource_17 (mX8_isWithin hst ho10) tk_281 iX8_isWithin ⟨by decide, by decide⟩ ⟨by decide, by decide⟩ (Nat.le_of_ble_eq_true rfl) ?_
    obtain ⟨vo11, zo11, ho11h, ho11, hf⟩ := rfs3 hf
    rcases xrs hf with ⟨v12, ev12, hf⟩ | ⟨x13, ev12, hf⟩
    · refine XS1v dX8_resource_20 (by have h9 := mX8_needValueR hst ho11 ⟨_, ev12⟩; rw [ev12] at h9; exact h9) tk_505 iX8_needValue ⟨by decide, by decide⟩ ⟨by decide, by decide⟩ (Nat.le_of_ble_eq_true rfl) ?_
      refine J_iload_n dX8_resource_23 rfl rfl ?_
      rcases br hf with ⟨c14, hf⟩ | ⟨c14, hf⟩
      · refine J_tableC (off := 32) (tgt := 56) c14 dX8_resource_24 (by decide) (by decide) (by decide) (by decide) ?_
        refine J_aload_n dX8_resource_56 rfl rfl ?_
        obtain ⟨k15, hf⟩ := gds hf
        obtain ⟨b16, rb16, hf⟩ := rfs hf
        refine G_8_0 dX8_resource_57 tk_247 k15 rb16 ?_
        obtain ⟨k17, hf⟩ := gds hf
        obtain ⟨b18, rb18, hf⟩ := rfs hf
        refine G_0_0 dX8_resource_60 tk_92 k17 rb18 ?_
        obtain ⟨k19, hf⟩ := gds hf
        obtain ⟨b20, rb20, hf⟩ := rfs hf
        refine G_2_0 dX8_resource_63 tk_40 k19 rb20 ?_
        refine J_iload_n dX8_resource_66 rfl rfl ?_
        obtain ⟨k21, hf⟩ := gds hf
        obtain ⟨n22, hf⟩ := gds hf
        refine J_iaload dX8_resource_67 k21 n22 ?_
        cases hf
        obtain ⟨_, hv⟩ := hv; cases hv
      · skip
        rcases br hf with ⟨c23, hf⟩ | ⟨c23, hf⟩
        · refine J_tableC (off := 45) (tgt := 69) c23 dX8_resource_24 (by decide) (by decide) (by decide) (by decide) ?_
          refine J_aload_n dX8_resource_69 rfl rfl ?_
          obtain ⟨k24, hf⟩ := gds hf
          obtain ⟨b25, rb25, hf⟩ := rfs hf
          refine G_8_0 dX8_resource_70 tk_247 k24 rb25 ?_
          obtain ⟨k26, hf⟩ := gds hf
          obtain ⟨b27, rb27, hf⟩ := rfs hf
          refine G_0_0 dX8_resource_73 tk_92 k26 rb27 ?_
          obtain ⟨k28, hf⟩ := gds hf
          obtain ⟨b29, rb29, hf⟩ := rfs hf
          refine G_2_1 dX8_resource_76 tk_42 k28 rb29 ?_
          refine J_iload_n dX8_resource_79 rfl rfl ?_
          obtain ⟨k30, hf⟩ := gds hf
          obtain ⟨n31, hf⟩ := gds hf
          refine J_iaload dX8_resource_80 k30 n31 ?_
          obtain ⟨vo32, zo32, ho32h, ho32, hf⟩ := rfs3 hf
          refine CS1i (host := "") dX8_resource_81 (mJ6_bitCount_0f7a4 hst ho32) tk_596 iJ6_bitCount_0f7a4 ⟨by decide, by decide⟩ ⟨by decide, by decide⟩ (Nat.le_of_ble_eq_true rfl) ?_
          refine J_iconst (v := 1) dX8_resource_84 (by decide) ?_
          refine J_isub dX8_resource_85 ?_
          cases hf
          obtain ⟨_, hv⟩ := hv; cases hv
        · skip
          rcases br hf with ⟨c33, hf⟩ | ⟨c33, hf⟩
          · refine J_tableC (off := 63) (tgt := 87) c33 dX8_resource_24 (by decide) (by decide) (by decide) (by decide) ?_
            refine J_aload_n dX8_resource_87 rfl rfl ?_
            obtain ⟨k34, hf⟩ := gds hf
            obtain ⟨b35, rb35, hf⟩ := rfs hf
            refine G_8_0 dX8_resource_88 tk_247 k34 rb35 ?_
            obtain ⟨k36, hf⟩ := gds hf
            obtain ⟨b37, rb37, hf⟩ := rfs hf
            refine G_0_0 dX8_resource_91 tk_92 k36 rb37 ?_
            obtain ⟨k38, hf⟩ := gds hf
            obtain ⟨b39, rb39, hf⟩ := rfs hf
            refine G_2_2 dX8_resource_94 tk_45 k38 rb39 ?_
            refine J_iload_n dX8_resource_97 rfl rfl ?_
            obtain ⟨k40, hf⟩ := gds hf
            obtain ⟨n41, hf⟩ := gds hf
            refine J_iaload dX8_resource_98 k40 n41 ?_
            cases hf
            obtain ⟨_, hv⟩ := hv; cases hv
          · skip
            rcases br hf with ⟨c42, hf⟩ | ⟨c42, hf⟩
            · refine J_tableC (off := 76) (tgt := 100) c42 dX8_resource_24 (by decide) (by decide) (by decide) (by decide) ?_
              refine J_aload_n dX8_resource_100 rfl rfl ?_
              obtain ⟨k43, hf⟩ := gds hf
              obtain ⟨b44, rb44, hf⟩ := rfs hf
              refine G_8_0 dX8_resource_101 tk_247 k43 rb44 ?_
              refine J_iload_n dX8_resource_104 rfl rfl ?_
              obtain ⟨k45, hf⟩ := gds hf
              obtain ⟨vo46, zo46, ho46h, ho46, hf⟩ := rfs3 hf
              refine CV1i dX8_resource_105 (mX0_ownerOf hst ho46) tk_597 iX0_ownerOf k45 (by decide) rfl ⟨by decide, by decide⟩ ⟨by decide, by decide⟩ (Nat.le_of_ble_eq_true rfl) ?_
              cases hf
              obtain ⟨_, hv⟩ := hv; cases hv
            · skip
              have tc14 := tn (i := 0) c14 (by decide)
              have tc23 := tn (i := 1) c23 (by decide)
              have tc33 := tn (i := 2) c33 (by decide)
              have tc42 := tn (i := 3) c42 (by decide)
              refine J_tableOut (tgt := 109) dX8_resource_24 (by omega) (by decide) ?_
              refine J_aload_n dX8_resource_109 rfl rfl ?_
              obtain ⟨k47, hf⟩ := gds hf
              obtain ⟨b48, rb48, hf⟩ := rfs hf
              refine G_8_0 dX8_resource_110 tk_247 k47 rb48 ?_
              refine J_iconst (v := (-1)) dX8_resource_113 (by decide) ?_
              refine J_iload_n dX8_resource_114 rfl rfl ?_
              obtain ⟨k49, hf⟩ := gds hf
              obtain ⟨vo50, zo50, ho50h, ho50, hf⟩ := rfs3 hf
              refine CV2i dX8_resource_115 (mX0_holdersInWay hst ho50) tk_605 iX0_holdersInWay k49 (by decide) rfl ⟨by decide, by decide⟩ ⟨by decide, by decide⟩ (Nat.le_of_ble_eq_true rfl) ?_
              cases hf
              obtain ⟨_, hv⟩ := hv; cases hv
    · cases hf
      exact XS1t dX8_resource_20 (by have h9 := mX8_needValueT hst ho11 ⟨_, ev12⟩; rw [ev12] at h9; exact h9) tk_505 iX8_needValue ⟨by decide, by decide⟩ ⟨by decide, by decide⟩ (Nat.le_of_ble_eq_true rfl) rfl (by decide) (by decide)
  · cases hf
    exact XS1t dX8_resource_11 (by have h9 := mX8_needThingT hst ho7 ⟨_, ev8⟩; rw [ev8] at h9; exact h9) tk_434 iX8_needThing ⟨by decide, by decide⟩ ⟨by decide, by decide⟩ (Nat.le_of_ble_eq_true rfl) rfl (by decide) (by decide)
theorem mX8_resourceT {g : JG} (hst : (jl g).stackTraces = false) {a0 : Nat} {x1 : Int32} {x2 : Int32} {z : Nat} {h : AH} {o : (Int32 ⊕ String) × Nat × AH} (hf : fX8_resource a0 x1 x2 z h = some o) (hv : (∃ v, o.1 = .inr v)) : jMetX g yX8_resource (wj yX8_resource cX8_resource 3 (some .int)) rmX8_resourceT [.ref a0, .int x1, .int x2] z h (xoI o.1, o.2.1, o.2.2) :=
  jMetX_mk (by decide) (Nat.le_of_ble_eq_true rfl) [some (.ref a0), some (.int x1), some (.int x2)] rfl (wfX8_resourceT hst hf hv)
def bX8_overlap_33  (a0 : Nat) (x1 : Int32) (x2 : Int32) (s0 : Int32) (z : Nat) (h : AH) : Option ((Int32 ⊕ String) × Nat × AH) :=
  bd3 (fX8_needThing s0 z h) (fun vo1 zo1 ho1h => xr vo1 (fun v2 => gd (kd ho1h a0 = 9) (Option.bind (rv ho1h a0 0) (fun b5 => gd (kd ho1h b5 = 1) (Option.bind (rv ho1h b5 0) (fun b7 => gd (kd ho1h b7 = 3) (Option.bind (rv ho1h b7 1) (fun b9 => gd (kd ho1h b9 = 13) (gd (¬ ((x1 : Int32) < 0 ∨ ln ho1h b9 ≤ Int32.toNatClampNeg x1)) (Option.bind (rv ho1h a0 0) (fun b12 => gd (kd ho1h b12 = 1) (Option.bind (rv ho1h b12 0) (fun b14 => gd (kd ho1h b14 = 3) (Option.bind (rv ho1h b14 2) (fun b16 => gd (kd ho1h b16 = 13) (gd (¬ ((x1 : Int32) < 0 ∨ ln ho1h b16 ≤ Int32.toNatClampNeg x1)) (bd3 (fX8_inSet ((iv ho1h b9 (Int32.toNatClampNeg x1)) ||| (iv ho1h b16 (Int32.toNatClampNeg x1))) x2 zo1 ho1h) (fun vo19 zo19 ho19h => gd (vo19 = 0 ∨ vo19 = 1) (some (.inl vo19, zo19, ho19h))))))))))))))))))) (fun x3 => some (.inr x3, zo1, ho1h)))
def bX8_overlap_32  (a0 : Nat) (x1 : Int32) (x2 : Int32) (z : Nat) (h : AH) : Option ((Int32 ⊕ String) × Nat × AH) :=
  bX8_overlap_33  a0 x1 x2 0 z h
def fX8_overlap  (a0 : Nat) (x1 : Int32) (x2 : Int32) (z : Nat) (h : AH) : Option ((Int32 ⊕ String) × Nat × AH) :=
  gd (kd h a0 = 9) (Option.bind (rv h a0 0) (fun b2 => gd (kd h b2 = 1) (Option.bind (rv h b2 0) (fun b4 => gd (kd h b4 = 3) (bd3 (fX2_has b4 x1 z h) (fun vo6 zo6 ho6h => (if vo6 = 0 then (bX8_overlap_32  a0 x1 x2 zo6 ho6h) else (gd (kd ho6h a0 = 9) (Option.bind (rv ho6h a0 0) (fun b9 => gd (kd ho6h b9 = 1) (Option.bind (rv ho6h b9 0) (fun b11 => gd (kd ho6h b11 = 3) (bd3 (fX2_has b11 x2 zo6 ho6h) (fun vo13 zo13 ho13h => (if vo13 = 0 then (bX8_overlap_32  a0 x1 x2 zo13 ho13h) else (bX8_overlap_33  a0 x1 x2 1 zo13 ho13h))))))))))))))))
theorem wbX8_overlap_33R {g : JG} (hst : (jl g).stackTraces = false)   {a0 : Nat} {x1 : Int32} {x2 : Int32} {s0 : Int32} {z : Nat} {h : AH} {o : (Int32 ⊕ String) × Nat × AH} (hf : bX8_overlap_33  a0 x1 x2 s0 z h = some o) (hv : (∃ v, o.1 = .inl v)) : J g MX8_overlapR (jV g (xoI o.1, o.2.1, o.2.2) rmX8_overlapR.cells rmX8_overlapR.slots) 33 [some (.ref a0), some (.int x1), some (.int x2)] [.int s0] z h 0 0 := by
  unfold bX8_overlap_33 at hf
  obtain ⟨vo1, zo1, ho1h, ho1, hf⟩ := rfs3 hf
  rcases xrs hf with ⟨v2, ev2, hf⟩ | ⟨x3, ev2, hf⟩
  · refine XS1v dX8_overlap_33 (by have h9 := mX8_needThingR hst ho1 ⟨_, ev2⟩; rw [ev2] at h9; exact h9) tk_434 iX8_needThing ⟨by decide, by decide⟩ ⟨by decide, by decide⟩ (Nat.le_of_ble_eq_true rfl) ?_
    refine J_aload_n dX8_overlap_36 rfl rfl ?_
    obtain ⟨k4, hf⟩ := gds hf
    obtain ⟨b5, rb5, hf⟩ := rfs hf
    refine G_8_0 dX8_overlap_37 tk_247 k4 rb5 ?_
    obtain ⟨k6, hf⟩ := gds hf
    obtain ⟨b7, rb7, hf⟩ := rfs hf
    refine G_0_0 dX8_overlap_40 tk_92 k6 rb7 ?_
    obtain ⟨k8, hf⟩ := gds hf
    obtain ⟨b9, rb9, hf⟩ := rfs hf
    refine G_2_1 dX8_overlap_43 tk_42 k8 rb9 ?_
    refine J_iload_n dX8_overlap_46 rfl rfl ?_
    obtain ⟨k10, hf⟩ := gds hf
    obtain ⟨n11, hf⟩ := gds hf
    refine J_iaload dX8_overlap_47 k10 n11 ?_
    refine J_aload_n dX8_overlap_48 rfl rfl ?_
    obtain ⟨b12, rb12, hf⟩ := rfs hf
    refine G_8_0 dX8_overlap_49 tk_247 k4 rb12 ?_
    obtain ⟨k13, hf⟩ := gds hf
    obtain ⟨b14, rb14, hf⟩ := rfs hf
    refine G_0_0 dX8_overlap_52 tk_92 k13 rb14 ?_
    obtain ⟨k15, hf⟩ := gds hf
    obtain ⟨b16, rb16, hf⟩ := rfs hf
    refine G_2_2 dX8_overlap_55 tk_45 k15 rb16 ?_
    refine J_iload_n dX8_overlap_58 rfl rfl ?_
    obtain ⟨k17, hf⟩ := gds hf
    obtain ⟨n18, hf⟩ := gds hf
    refine J_iaload dX8_overlap_59 k17 n18 ?_
    refine J_ior dX8_overlap_60 ?_
    refine J_iload_n dX8_overlap_61 rfl rfl ?_
    obtain ⟨vo19, zo19, ho19h, ho19, hf⟩ := rfs3 hf
    refine CS2i (host := "") dX8_overlap_62 (mX8_inSet hst ho19) tk_613 iX8_inSet ⟨by decide, by decide⟩ ⟨by decide, by decide⟩ (Nat.le_of_ble_eq_true rfl) ?_
    obtain ⟨z9, hf⟩ := gds hf
    cases hf
    exact jN_V (J_zretN dX8_overlap_65 rfl z9 (by decide) (by decide))
  · cases hf
    obtain ⟨_, hv⟩ := hv; cases hv
theorem wbX8_overlap_32R {g : JG} (hst : (jl g).stackTraces = false)   {a0 : Nat} {x1 : Int32} {x2 : Int32} {z : Nat} {h : AH} {o : (Int32 ⊕ String) × Nat × AH} (hf : bX8_overlap_32  a0 x1 x2 z h = some o) (hv : (∃ v, o.1 = .inl v)) : J g MX8_overlapR (jV g (xoI o.1, o.2.1, o.2.2) rmX8_overlapR.cells rmX8_overlapR.slots) 32 [some (.ref a0), some (.int x1), some (.int x2)] [] z h 0 0 := by
  unfold bX8_overlap_32 at hf
  refine J_iconst (v := 0) dX8_overlap_32 (by decide) ?_
  refine J.sub (jsub_s (jsub_s (jsub_s (jsub_nil _)))) ?_
  refine J.widen (k' := 0) (n' := 0) (by decide) (by decide) ?_
  exact wbX8_overlap_33R hst   hf hv
theorem wfX8_overlapR {g : JG} (hst : (jl g).stackTraces = false)   {a0 : Nat} {x1 : Int32} {x2 : Int32} {z : Nat} {h : AH} {o : (Int32 ⊕ String) × Nat × AH} (hf : fX8_overlap  a0 x1 x2 z h = some o) (hv : (∃ v, o.1 = .inl v)) : J g MX8_overlapR (jV g (xoI o.1, o.2.1, o.2.2) rmX8_overlapR.cells rmX8_overlapR.slots) 0 [some (.ref a0), some (.int x1), some (.int x2)] [] z h 0 0 := by
  unfold fX8_overlap at hf
  refine J_aload_n dX8_overlap_0 rfl rfl ?_
  obtain ⟨k1, hf⟩ := gds hf
  obtain ⟨b2, rb2, hf⟩ := rfs hf
  refine G_8_0 dX8_overlap_1 tk_247 k1 rb2 ?_
  obtain ⟨k3, hf⟩ := gds hf
  obtain ⟨b4, rb4, hf⟩ := rfs hf
  refine G_0_0 dX8_overlap_4 tk_92 k3 rb4 ?_
  refine J_iload_n dX8_overlap_7 rfl rfl ?_
  obtain ⟨k5, hf⟩ := gds hf
  obtain ⟨vo6, zo6, ho6h, ho6, hf⟩ := rfs3 hf
  refine CV1i dX8_overlap_8 (mX2_has hst ho6) tk_552 iX2_has k5 (by decide) rfl ⟨by decide, by decide⟩ ⟨by decide, by decide⟩ (Nat.le_of_ble_eq_true rfl) ?_
  rcases br hf with ⟨c7, hf⟩ | ⟨c7, hf⟩
  · refine J_if_eq (tgt := 32) dX8_overlap_11 (by decide) (fun _ => ?_) (fun w => absurd c7 w)
    refine J.sub (jsub_s (jsub_s (jsub_s (jsub_nil _)))) ?_
    refine J.widen (k' := 0) (n' := 0) (by decide) (by decide) ?_
    exact wbX8_overlap_32R hst   hf hv
  · refine J_if_eq (tgt := 32) dX8_overlap_11 (by decide) (fun w => absurd w c7) (fun _ => ?_)
    refine J_aload_n dX8_overlap_14 rfl rfl ?_
    obtain ⟨k8, hf⟩ := gds hf
    obtain ⟨b9, rb9, hf⟩ := rfs hf
    refine G_8_0 dX8_overlap_15 tk_247 k8 rb9 ?_
    obtain ⟨k10, hf⟩ := gds hf
    obtain ⟨b11, rb11, hf⟩ := rfs hf
    refine G_0_0 dX8_overlap_18 tk_92 k10 rb11 ?_
    refine J_iload_n dX8_overlap_21 rfl rfl ?_
    obtain ⟨k12, hf⟩ := gds hf
    obtain ⟨vo13, zo13, ho13h, ho13, hf⟩ := rfs3 hf
    refine CV1i dX8_overlap_22 (mX2_has hst ho13) tk_552 iX2_has k12 (by decide) rfl ⟨by decide, by decide⟩ ⟨by decide, by decide⟩ (Nat.le_of_ble_eq_true rfl) ?_
    rcases br hf with ⟨c14, hf⟩ | ⟨c14, hf⟩
    · refine J_if_eq (tgt := 32) dX8_overlap_25 (by decide) (fun _ => ?_) (fun w => absurd c14 w)
      refine J.sub (jsub_s (jsub_s (jsub_s (jsub_nil _)))) ?_
      refine J.widen (k' := 0) (n' := 0) (by decide) (by decide) ?_
      exact wbX8_overlap_32R hst   hf hv
    · refine J_if_eq (tgt := 32) dX8_overlap_25 (by decide) (fun w => absurd w c14) (fun _ => ?_)
      refine J_iconst (v := 1) dX8_overlap_28 (by decide) ?_
      refine J_goto (tgt := 33) dX8_overlap_29 (by decide) ?_
      refine J.sub (jsub_s (jsub_s (jsub_s (jsub_nil _)))) ?_
      refine J.widen (k' := 0) (n' := 0) (by decide) (by decide) ?_
      exact wbX8_overlap_33R hst   hf hv
theorem mX8_overlapR {g : JG} (hst : (jl g).stackTraces = false) {a0 : Nat} {x1 : Int32} {x2 : Int32} {z : Nat} {h : AH} {o : (Int32 ⊕ String) × Nat × AH} (hf : fX8_overlap a0 x1 x2 z h = some o) (hv : (∃ v, o.1 = .inl v)) : jMetX g yX8_overlap (wj yX8_overlap cX8_overlap 3 (some .boolean)) rmX8_overlapR [.ref a0, .int x1, .int x2] z h (xoI o.1, o.2.1, o.2.2) :=
  jMetX_mk (by decide) (Nat.le_of_ble_eq_true rfl) [some (.ref a0), some (.int x1), some (.int x2)] rfl (wfX8_overlapR hst hf hv)
theorem wbX8_overlap_33T {g : JG} (hst : (jl g).stackTraces = false)   {a0 : Nat} {x1 : Int32} {x2 : Int32} {s0 : Int32} {z : Nat} {h : AH} {o : (Int32 ⊕ String) × Nat × AH} (hf : bX8_overlap_33  a0 x1 x2 s0 z h = some o) (hv : (∃ v, o.1 = .inr v)) : J g MX8_overlapT (jV g (xoI o.1, o.2.1, o.2.2) rmX8_overlapT.cells rmX8_overlapT.slots) 33 [some (.ref a0), some (.int x1), some (.int x2)] [.int s0] z h 0 0 := by
  unfold bX8_overlap_33 at hf
  obtain ⟨vo1, zo1, ho1h, ho1, hf⟩ := rfs3 hf
  rcases xrs hf with ⟨v2, ev2, hf⟩ | ⟨x3, ev2, hf⟩
  · refine XS1v dX8_overlap_33 (by have h9 := mX8_needThingR hst ho1 ⟨_, ev2⟩; rw [ev2] at h9; exact h9) tk_434 iX8_needThing ⟨by decide, by decide⟩ ⟨by decide, by decide⟩ (Nat.le_of_ble_eq_true rfl) ?_
    refine J_aload_n dX8_overlap_36 rfl rfl ?_
    obtain ⟨k4, hf⟩ := gds hf
    obtain ⟨b5, rb5, hf⟩ := rfs hf
    refine G_8_0 dX8_overlap_37 tk_247 k4 rb5 ?_
    obtain ⟨k6, hf⟩ := gds hf
    obtain ⟨b7, rb7, hf⟩ := rfs hf
    refine G_0_0 dX8_overlap_40 tk_92 k6 rb7 ?_
    obtain ⟨k8, hf⟩ := gds hf
    obtain ⟨b9, rb9, hf⟩ := rfs hf
    refine G_2_1 dX8_overlap_43 tk_42 k8 rb9 ?_
    refine J_iload_n dX8_overlap_46 rfl rfl ?_
    obtain ⟨k10, hf⟩ := gds hf
    obtain ⟨n11, hf⟩ := gds hf
    refine J_iaload dX8_overlap_47 k10 n11 ?_
    refine J_aload_n dX8_overlap_48 rfl rfl ?_
    obtain ⟨b12, rb12, hf⟩ := rfs hf
    refine G_8_0 dX8_overlap_49 tk_247 k4 rb12 ?_
    obtain ⟨k13, hf⟩ := gds hf
    obtain ⟨b14, rb14, hf⟩ := rfs hf
    refine G_0_0 dX8_overlap_52 tk_92 k13 rb14 ?_
    obtain ⟨k15, hf⟩ := gds hf
    obtain ⟨b16, rb16, hf⟩ := rfs hf
    refine G_2_2 dX8_overlap_55 tk_45 k15 rb16 ?_
    refine J_iload_n dX8_overlap_58 rfl rfl ?_
    obtain ⟨k17, hf⟩ := gds hf
    obtain ⟨n18, hf⟩ := gds hf
    refine J_iaload dX8_overlap_59 k17 n18 ?_
    refine J_ior dX8_overlap_60 ?_
    refine J_iload_n dX8_overlap_61 rfl rfl ?_
    obtain ⟨vo19, zo19, ho19h, ho19, hf⟩ := rfs3 hf
    refine CS2i (host := "") dX8_overlap_62 (mX8_inSet hst ho19) tk_613 iX8_inSet ⟨by decide, by decide⟩ ⟨by decide, by decide⟩ (Nat.le_of_ble_eq_true rfl) ?_
    obtain ⟨z9, hf⟩ := gds hf
    cases hf
    obtain ⟨_, hv⟩ := hv; cases hv
  · cases hf
    exact XS1t dX8_overlap_33 (by have h9 := mX8_needThingT hst ho1 ⟨_, ev2⟩; rw [ev2] at h9; exact h9) tk_434 iX8_needThing ⟨by decide, by decide⟩ ⟨by decide, by decide⟩ (Nat.le_of_ble_eq_true rfl) rfl (by decide) (by decide)
theorem wbX8_overlap_32T {g : JG} (hst : (jl g).stackTraces = false)   {a0 : Nat} {x1 : Int32} {x2 : Int32} {z : Nat} {h : AH} {o : (Int32 ⊕ String) × Nat × AH} (hf : bX8_overlap_32  a0 x1 x2 z h = some o) (hv : (∃ v, o.1 = .inr v)) : J g MX8_overlapT (jV g (xoI o.1, o.2.1, o.2.2) rmX8_overlapT.cells rmX8_overlapT.slots) 32 [some (.ref a0), some (.int x1), some (.int x2)] [] z h 0 0 := by
  unfold bX8_overlap_32 at hf
  refine J_iconst (v := 0) dX8_overlap_32 (by decide) ?_
  refine J.sub (jsub_s (jsub_s (jsub_s (jsub_nil _)))) ?_
  refine J.widen (k' := 0) (n' := 0) (by decide) (by decide) ?_
  exact wbX8_overlap_33T hst   hf hv
theorem wfX8_overlapT {g : JG} (hst : (jl g).stackTraces = false)   {a0 : Nat} {x1 : Int32} {x2 : Int32} {z : Nat} {h : AH} {o : (Int32 ⊕ String) × Nat × AH} (hf : fX8_overlap  a0 x1 x2 z h = some o) (hv : (∃ v, o.1 = .inr v)) : J g MX8_overlapT (jV g (xoI o.1, o.2.1, o.2.2) rmX8_overlapT.cells rmX8_overlapT.slots) 0 [some (.ref a0), some (.int x1), some (.int x2)] [] z h 0 0 := by
  unfold fX8_overlap at hf
  refine J_aload_n dX8_overlap_0 rfl rfl ?_
  obtain ⟨k1, hf⟩ := gds hf
  obtain ⟨b2, rb2, hf⟩ := rfs hf
  refine G_8_0 dX8_overlap_1 tk_247 k1 rb2 ?_
  obtain ⟨k3, hf⟩ := gds hf
  obtain ⟨b4, rb4, hf⟩ := rfs hf
  refine G_0_0 dX8_overlap_4 tk_92 k3 rb4 ?_
  refine J_iload_n dX8_overlap_7 rfl rfl ?_
  obtain ⟨k5, hf⟩ := gds hf
  obtain ⟨vo6, zo6, ho6h, ho6, hf⟩ := rfs3 hf
  refine CV1i dX8_overlap_8 (mX2_has hst ho6) tk_552 iX2_has k5 (by decide) rfl ⟨by decide, by decide⟩ ⟨by decide, by decide⟩ (Nat.le_of_ble_eq_true rfl) ?_
  rcases br hf with ⟨c7, hf⟩ | ⟨c7, hf⟩
  · refine J_if_eq (tgt := 32) dX8_overlap_11 (by decide) (fun _ => ?_) (fun w => absurd c7 w)
    refine J.sub (jsub_s (jsub_s (jsub_s (jsub_nil _)))) ?_
    refine J.widen (k' := 0) (n' := 0) (by decide) (by decide) ?_
    exact wbX8_overlap_32T hst   hf hv
  · refine J_if_eq (tgt := 32) dX8_overlap_11 (by decide) (fun w => absurd w c7) (fun _ => ?_)
    refine J_aload_n dX8_overlap_14 rfl rfl ?_
    obtain ⟨k8, hf⟩ := gds hf
    obtain ⟨b9, rb9, hf⟩ := rfs hf
    refine G_8_0 dX8_overlap_15 tk_247 k8 rb9 ?_
    obtain ⟨k10, hf⟩ := gds hf
    obtain ⟨b11, rb11, hf⟩ := rfs hf
    refine G_0_0 dX8_overlap_18 tk_92 k10 rb11 ?_
    refine J_iload_n dX8_overlap_21 rfl rfl ?_
    obtain ⟨k12, hf⟩ := gds hf
    obtain ⟨vo13, zo13, ho13h, ho13, hf⟩ := rfs3 hf
    refine CV1i dX8_overlap_22 (mX2_has hst ho13) tk_552 iX2_has k12 (by decide) rfl ⟨by decide, by decide⟩ ⟨by decide, by decide⟩ (Nat.le_of_ble_eq_true rfl) ?_
    rcases br hf with ⟨c14, hf⟩ | ⟨c14, hf⟩
    · refine J_if_eq (tgt := 32) dX8_overlap_25 (by decide) (fun _ => ?_) (fun w => absurd c14 w)
      refine J.sub (jsub_s (jsub_s (jsub_s (jsub_nil _)))) ?_
      refine J.widen (k' := 0) (n' := 0) (by decide) (by decide) ?_
      exact wbX8_overlap_32T hst   hf hv
    · refine J_if_eq (tgt := 32) dX8_overlap_25 (by decide) (fun w => absurd w c14) (fun _ => ?_)
      refine J_iconst (v := 1) dX8_overlap_28 (by decide) ?_
      refine J_goto (tgt := 33) dX8_overlap_29 (by decide) ?_
      refine J.sub (jsub_s (jsub_s (jsub_s (jsub_nil _)))) ?_
      refine J.widen (k' := 0) (n' := 0) (by decide) (by decide) ?_
      exact wbX8_overlap_33T hst   hf hv
theorem mX8_overlapT {g : JG} (hst : (jl g).stackTraces = false) {a0 : Nat} {x1 : Int32} {x2 : Int32} {z : Nat} {h : AH} {o : (Int32 ⊕ String) × Nat × AH} (hf : fX8_overlap a0 x1 x2 z h = some o) (hv : (∃ v, o.1 = .inr v)) : jMetX g yX8_overlap (wj yX8_overlap cX8_overlap 3 (some .boolean)) rmX8_overlapT [.ref a0, .int x1, .int x2] z h (xoI o.1, o.2.1, o.2.2) :=
  jMetX_mk (by decide) (Nat.le_of_ble_eq_true rfl) [some (.ref a0), some (.int x1), some (.int x2)] rfl (wfX8_overlapT hst hf hv)
def bX8_request_30  (a0 : Nat) (x1 : Int32) (x2 : Int32) (s0 : Int32) (z : Nat) (h : AH) : Option ((Int32 ⊕ String) × Nat × AH) :=
  bd3 (fX8_needThing s0 z h) (fun vo1 zo1 ho1h => xr vo1 (fun v2 => gd (kd ho1h a0 = 9) (Option.bind (rv ho1h a0 0) (fun b5 => gd (kd ho1h b5 = 1) (bd3 (fX0_isIn b5 x1 0 zo1 ho1h) (fun vo7 zo7 ho7h => bd3 (fX8_needState vo7 zo7 ho7h) (fun vo8 zo8 ho8h => xr vo8 (fun v9 => gd (kd ho8h a0 = 9) (Option.bind (rv ho8h a0 5) (fun b12 => Option.bind (rv ho8h a0 0) (fun b13 => gd (kd ho8h b12 = 4) (bd2 (fX3_keep b12 b13 zo8 ho8h) (fun zo15 ho15h => gd (kd ho15h a0 = 9) (Option.bind (rv ho15h a0 4) (fun b17 => gd (kd ho15h b17 = 2) (bd3 (fX1_ask b17 x1 x2 zo15 ho15h) (fun vo19 zo19 ho19h => some (.inl vo19, zo19, ho19h))))))))))) (fun x10 => some (.inr x10, zo8, ho8h)))))))) (fun x3 => some (.inr x3, zo1, ho1h)))
def bX8_request_29  (a0 : Nat) (x1 : Int32) (x2 : Int32) (z : Nat) (h : AH) : Option ((Int32 ⊕ String) × Nat × AH) :=
  bX8_request_30  a0 x1 x2 0 z h
def fX8_request  (a0 : Nat) (x1 : Int32) (x2 : Int32) (z : Nat) (h : AH) : Option ((Int32 ⊕ String) × Nat × AH) :=
  gd (kd h a0 = 9) (Option.bind (rv h a0 0) (fun b2 => gd (kd h b2 = 1) (bd3 (fX0_has b2 x1 z h) (fun vo4 zo4 ho4h => (if vo4 = 0 then (bX8_request_29  a0 x1 x2 zo4 ho4h) else (gd (kd ho4h a0 = 9) (Option.bind (rv ho4h a0 0) (fun b7 => gd (kd ho4h b7 = 1) (Option.bind (rv ho4h b7 0) (fun b9 => gd (kd ho4h b9 = 3) (bd3 (fX2_has b9 x2 zo4 ho4h) (fun vo11 zo11 ho11h => (if vo11 = 0 then (bX8_request_29  a0 x1 x2 zo11 ho11h) else (bX8_request_30  a0 x1 x2 1 zo11 ho11h))))))))))))))
theorem wbX8_request_30R {g : JG} (hst : (jl g).stackTraces = false)   {a0 : Nat} {x1 : Int32} {x2 : Int32} {s0 : Int32} {z : Nat} {h : AH} {o : (Int32 ⊕ String) × Nat × AH} (hf : bX8_request_30  a0 x1 x2 s0 z h = some o) (hv : (∃ v, o.1 = .inl v)) : J g MX8_requestR (jV g (xoI o.1, o.2.1, o.2.2) rmX8_requestR.cells rmX8_requestR.slots) 30 [some (.ref a0), some (.int x1), some (.int x2)] [.int s0] z h 0 0 := by
  unfold bX8_request_30 at hf
  obtain ⟨vo1, zo1, ho1h, ho1, hf⟩ := rfs3 hf
  rcases xrs hf with ⟨v2, ev2, hf⟩ | ⟨x3, ev2, hf⟩
  · refine XS1v dX8_request_30 (by have h9 := mX8_needThingR hst ho1 ⟨_, ev2⟩; rw [ev2] at h9; exact h9) tk_434 iX8_needThing ⟨by decide, by decide⟩ ⟨by decide, by decide⟩ (Nat.le_of_ble_eq_true rfl) ?_
    refine J_aload_n dX8_request_33 rfl rfl ?_
    obtain ⟨k4, hf⟩ := gds hf
    obtain ⟨b5, rb5, hf⟩ := rfs hf
    refine G_8_0 dX8_request_34 tk_247 k4 rb5 ?_
    refine J_iload_n dX8_request_37 rfl rfl ?_
    refine J_iconst (v := 0) dX8_request_38 (by decide) ?_
    obtain ⟨k6, hf⟩ := gds hf
    obtain ⟨vo7, zo7, ho7h, ho7, hf⟩ := rfs3 hf
    refine CV2i dX8_request_39 (mX0_isIn hst ho7) tk_638 iX0_isIn k6 (by decide) rfl ⟨by decide, by decide⟩ ⟨by decide, by decide⟩ (Nat.le_of_ble_eq_true rfl) ?_
    obtain ⟨vo8, zo8, ho8h, ho8, hf⟩ := rfs3 hf
    rcases xrs hf with ⟨v9, ev9, hf⟩ | ⟨x10, ev9, hf⟩
    · refine XS1v dX8_request_42 (by have h9 := mX8_needStateR hst ho8 ⟨_, ev9⟩; rw [ev9] at h9; exact h9) tk_553 iX8_needState ⟨by decide, by decide⟩ ⟨by decide, by decide⟩ (Nat.le_of_ble_eq_true rfl) ?_
      refine J_aload_n dX8_request_45 rfl rfl ?_
      obtain ⟨k11, hf⟩ := gds hf
      obtain ⟨b12, rb12, hf⟩ := rfs hf
      refine G_8_5 dX8_request_46 tk_252 k11 rb12 ?_
      refine J_aload_n dX8_request_49 rfl rfl ?_
      obtain ⟨b13, rb13, hf⟩ := rfs hf
      refine G_8_0 dX8_request_50 tk_247 k11 rb13 ?_
      obtain ⟨k14, hf⟩ := gds hf
      obtain ⟨zo15, ho15h, ho15, hf⟩ := rfs2 hf
      refine CV1v dX8_request_53 (mX3_keep hst ho15) tk_572 iX3_keep k14 (by decide) rfl ⟨by decide, by decide⟩ ⟨by decide, by decide⟩ (Nat.le_of_ble_eq_true rfl) ?_
      refine J_aload_n dX8_request_56 rfl rfl ?_
      obtain ⟨k16, hf⟩ := gds hf
      obtain ⟨b17, rb17, hf⟩ := rfs hf
      refine G_8_4 dX8_request_57 tk_251 k16 rb17 ?_
      refine J_iload_n dX8_request_60 rfl rfl ?_
      refine J_iload_n dX8_request_61 rfl rfl ?_
      obtain ⟨k18, hf⟩ := gds hf
      obtain ⟨vo19, zo19, ho19h, ho19, hf⟩ := rfs3 hf
      refine CV2i dX8_request_62 (mX1_ask hst ho19) tk_639 iX1_ask k18 (by decide) rfl ⟨by decide, by decide⟩ ⟨by decide, by decide⟩ (Nat.le_of_ble_eq_true rfl) ?_
      cases hf
      exact jN_V (J_iretN dX8_request_65 rfl (by decide) (by decide))
    · cases hf
      obtain ⟨_, hv⟩ := hv; cases hv
  · cases hf
    obtain ⟨_, hv⟩ := hv; cases hv
theorem wbX8_request_29R {g : JG} (hst : (jl g).stackTraces = false)   {a0 : Nat} {x1 : Int32} {x2 : Int32} {z : Nat} {h : AH} {o : (Int32 ⊕ String) × Nat × AH} (hf : bX8_request_29  a0 x1 x2 z h = some o) (hv : (∃ v, o.1 = .inl v)) : J g MX8_requestR (jV g (xoI o.1, o.2.1, o.2.2) rmX8_requestR.cells rmX8_requestR.slots) 29 [some (.ref a0), some (.int x1), some (.int x2)] [] z h 0 0 := by
  unfold bX8_request_29 at hf
  refine J_iconst (v := 0) dX8_request_29 (by decide) ?_
  refine J.sub (jsub_s (jsub_s (jsub_s (jsub_nil _)))) ?_
  refine J.widen (k' := 0) (n' := 0) (by decide) (by decide) ?_
  exact wbX8_request_30R hst   hf hv
theorem wfX8_requestR {g : JG} (hst : (jl g).stackTraces = false)   {a0 : Nat} {x1 : Int32} {x2 : Int32} {z : Nat} {h : AH} {o : (Int32 ⊕ String) × Nat × AH} (hf : fX8_request  a0 x1 x2 z h = some o) (hv : (∃ v, o.1 = .inl v)) : J g MX8_requestR (jV g (xoI o.1, o.2.1, o.2.2) rmX8_requestR.cells rmX8_requestR.slots) 0 [some (.ref a0), some (.int x1), some (.int x2)] [] z h 0 0 := by
  unfold fX8_request at hf
  refine J_aload_n dX8_request_0 rfl rfl ?_
  obtain ⟨k1, hf⟩ := gds hf
  obtain ⟨b2, rb2, hf⟩ := rfs hf
  refine G_8_0 dX8_request_1 tk_247 k1 rb2 ?_
  refine J_iload_n dX8_request_4 rfl rfl ?_
  obtain ⟨k3, hf⟩ := gds hf
  obtain ⟨vo4, zo4, ho4h, ho4, hf⟩ := rfs3 hf
  refine CV1i dX8_request_5 (mX0_has hst ho4) tk_429 iX0_has k3 (by decide) rfl ⟨by decide, by decide⟩ ⟨by decide, by decide⟩ (Nat.le_of_ble_eq_true rfl) ?_
  rcases br hf with ⟨c5, hf⟩ | ⟨c5, hf⟩
  · refine J_if_eq (tgt := 29) dX8_request_8 (by decide) (fun _ => ?_) (fun w => absurd c5 w)
    refine J.sub (jsub_s (jsub_s (jsub_s (jsub_nil _)))) ?_
    refine J.widen (k' := 0) (n' := 0) (by decide) (by decide) ?_
    exact wbX8_request_29R hst   hf hv
  · refine J_if_eq (tgt := 29) dX8_request_8 (by decide) (fun w => absurd w c5) (fun _ => ?_)
    refine J_aload_n dX8_request_11 rfl rfl ?_
    obtain ⟨k6, hf⟩ := gds hf
    obtain ⟨b7, rb7, hf⟩ := rfs hf
    refine G_8_0 dX8_request_12 tk_247 k6 rb7 ?_
    obtain ⟨k8, hf⟩ := gds hf
    obtain ⟨b9, rb9, hf⟩ := rfs hf
    refine G_0_0 dX8_request_15 tk_92 k8 rb9 ?_
    refine J_iload_n dX8_request_18 rfl rfl ?_
    obtain ⟨k10, hf⟩ := gds hf
    obtain ⟨vo11, zo11, ho11h, ho11, hf⟩ := rfs3 hf
    refine CV1i dX8_request_19 (mX2_has hst ho11) tk_552 iX2_has k10 (by decide) rfl ⟨by decide, by decide⟩ ⟨by decide, by decide⟩ (Nat.le_of_ble_eq_true rfl) ?_
    rcases br hf with ⟨c12, hf⟩ | ⟨c12, hf⟩
    · refine J_if_eq (tgt := 29) dX8_request_22 (by decide) (fun _ => ?_) (fun w => absurd c12 w)
      refine J.sub (jsub_s (jsub_s (jsub_s (jsub_nil _)))) ?_
      refine J.widen (k' := 0) (n' := 0) (by decide) (by decide) ?_
      exact wbX8_request_29R hst   hf hv
    · refine J_if_eq (tgt := 29) dX8_request_22 (by decide) (fun w => absurd w c12) (fun _ => ?_)
      refine J_iconst (v := 1) dX8_request_25 (by decide) ?_
      refine J_goto (tgt := 30) dX8_request_26 (by decide) ?_
      refine J.sub (jsub_s (jsub_s (jsub_s (jsub_nil _)))) ?_
      refine J.widen (k' := 0) (n' := 0) (by decide) (by decide) ?_
      exact wbX8_request_30R hst   hf hv
theorem mX8_requestR {g : JG} (hst : (jl g).stackTraces = false) {a0 : Nat} {x1 : Int32} {x2 : Int32} {z : Nat} {h : AH} {o : (Int32 ⊕ String) × Nat × AH} (hf : fX8_request a0 x1 x2 z h = some o) (hv : (∃ v, o.1 = .inl v)) : jMetX g yX8_request (wj yX8_request cX8_request 3 (some .int)) rmX8_requestR [.ref a0, .int x1, .int x2] z h (xoI o.1, o.2.1, o.2.2) :=
  jMetX_mk (by decide) (Nat.le_of_ble_eq_true rfl) [some (.ref a0), some (.int x1), some (.int x2)] rfl (wfX8_requestR hst hf hv)
theorem wbX8_request_30T {g : JG} (hst : (jl g).stackTraces = false)   {a0 : Nat} {x1 : Int32} {x2 : Int32} {s0 : Int32} {z : Nat} {h : AH} {o : (Int32 ⊕ String) × Nat × AH} (hf : bX8_request_30  a0 x1 x2 s0 z h = some o) (hv : (∃ v, o.1 = .inr v)) : J g MX8_requestT (jV g (xoI o.1, o.2.1, o.2.2) rmX8_requestT.cells rmX8_requestT.slots) 30 [some (.ref a0), some (.int x1), some (.int x2)] [.int s0] z h 0 0 := by
  unfold bX8_request_30 at hf
  obtain ⟨vo1, zo1, ho1h, ho1, hf⟩ := rfs3 hf
  rcases xrs hf with ⟨v2, ev2, hf⟩ | ⟨x3, ev2, hf⟩
  · refine XS1v dX8_request_30 (by have h9 := mX8_needThingR hst ho1 ⟨_, ev2⟩; rw [ev2] at h9; exact h9) tk_434 iX8_needThing ⟨by decide, by decide⟩ ⟨by decide, by decide⟩ (Nat.le_of_ble_eq_true rfl) ?_
    refine J_aload_n dX8_request_33 rfl rfl ?_
    obtain ⟨k4, hf⟩ := gds hf
    obtain ⟨b5, rb5, hf⟩ := rfs hf
    refine G_8_0 dX8_request_34 tk_247 k4 rb5 ?_
    refine J_iload_n dX8_request_37 rfl rfl ?_
    refine J_iconst (v := 0) dX8_request_38 (by decide) ?_
    obtain ⟨k6, hf⟩ := gds hf
    obtain ⟨vo7, zo7, ho7h, ho7, hf⟩ := rfs3 hf
    refine CV2i dX8_request_39 (mX0_isIn hst ho7) tk_638 iX0_isIn k6 (by decide) rfl ⟨by decide, by decide⟩ ⟨by decide, by decide⟩ (Nat.le_of_ble_eq_true rfl) ?_
    obtain ⟨vo8, zo8, ho8h, ho8, hf⟩ := rfs3 hf
    rcases xrs hf with ⟨v9, ev9, hf⟩ | ⟨x10, ev9, hf⟩
    · refine XS1v dX8_request_42 (by have h9 := mX8_needStateR hst ho8 ⟨_, ev9⟩; rw [ev9] at h9; exact h9) tk_553 iX8_needState ⟨by decide, by decide⟩ ⟨by decide, by decide⟩ (Nat.le_of_ble_eq_true rfl) ?_
      refine J_aload_n dX8_request_45 rfl rfl ?_
      obtain ⟨k11, hf⟩ := gds hf
      obtain ⟨b12, rb12, hf⟩ := rfs hf
      refine G_8_5 dX8_request_46 tk_252 k11 rb12 ?_
      refine J_aload_n dX8_request_49 rfl rfl ?_
      obtain ⟨b13, rb13, hf⟩ := rfs hf
      refine G_8_0 dX8_request_50 tk_247 k11 rb13 ?_
      obtain ⟨k14, hf⟩ := gds hf
      obtain ⟨zo15, ho15h, ho15, hf⟩ := rfs2 hf
      refine CV1v dX8_request_53 (mX3_keep hst ho15) tk_572 iX3_keep k14 (by decide) rfl ⟨by decide, by decide⟩ ⟨by decide, by decide⟩ (Nat.le_of_ble_eq_true rfl) ?_
      refine J_aload_n dX8_request_56 rfl rfl ?_
      obtain ⟨k16, hf⟩ := gds hf
      obtain ⟨b17, rb17, hf⟩ := rfs hf
      refine G_8_4 dX8_request_57 tk_251 k16 rb17 ?_
      refine J_iload_n dX8_request_60 rfl rfl ?_
      refine J_iload_n dX8_request_61 rfl rfl ?_
      obtain ⟨k18, hf⟩ := gds hf
      obtain ⟨vo19, zo19, ho19h, ho19, hf⟩ := rfs3 hf
      refine CV2i dX8_request_62 (mX1_ask hst ho19) tk_639 iX1_ask k18 (by decide) rfl ⟨by decide, by decide⟩ ⟨by decide, by decide⟩ (Nat.le_of_ble_eq_true rfl) ?_
      cases hf
      obtain ⟨_, hv⟩ := hv; cases hv
    · cases hf
      exact XS1t dX8_request_42 (by have h9 := mX8_needStateT hst ho8 ⟨_, ev9⟩; rw [ev9] at h9; exact h9) tk_553 iX8_needState ⟨by decide, by decide⟩ ⟨by decide, by decide⟩ (Nat.le_of_ble_eq_true rfl) rfl (by decide) (by decide)
  · cases hf
    exact XS1t dX8_request_30 (by have h9 := mX8_needThingT hst ho1 ⟨_, ev2⟩; rw [ev2] at h9; exact h9) tk_434 iX8_needThing ⟨by decide, by decide⟩ ⟨by decide, by decide⟩ (Nat.le_of_ble_eq_true rfl) rfl (by decide) (by decide)
theorem wbX8_request_29T {g : JG} (hst : (jl g).stackTraces = false)   {a0 : Nat} {x1 : Int32} {x2 : Int32} {z : Nat} {h : AH} {o : (Int32 ⊕ String) × Nat × AH} (hf : bX8_request_29  a0 x1 x2 z h = some o) (hv : (∃ v, o.1 = .inr v)) : J g MX8_requestT (jV g (xoI o.1, o.2.1, o.2.2) rmX8_requestT.cells rmX8_requestT.slots) 29 [some (.ref a0), some (.int x1), some (.int x2)] [] z h 0 0 := by
  unfold bX8_request_29 at hf
  refine J_iconst (v := 0) dX8_request_29 (by decide) ?_
  refine J.sub (jsub_s (jsub_s (jsub_s (jsub_nil _)))) ?_
  refine J.widen (k' := 0) (n' := 0) (by decide) (by decide) ?_
  exact wbX8_request_30T hst   hf hv
theorem wfX8_requestT {g : JG} (hst : (jl g).stackTraces = false)   {a0 : Nat} {x1 : Int32} {x2 : Int32} {z : Nat} {h : AH} {o : (Int32 ⊕ String) × Nat × AH} (hf : fX8_request  a0 x1 x2 z h = some o) (hv : (∃ v, o.1 = .inr v)) : J g MX8_requestT (jV g (xoI o.1, o.2.1, o.2.2) rmX8_requestT.cells rmX8_requestT.slots) 0 [some (.ref a0), some (.int x1), some (.int x2)] [] z h 0 0 := by
  unfold fX8_request at hf
  refine J_aload_n dX8_request_0 rfl rfl ?_
  obtain ⟨k1, hf⟩ := gds hf
  obtain ⟨b2, rb2, hf⟩ := rfs hf
  refine G_8_0 dX8_request_1 tk_247 k1 rb2 ?_
  refine J_iload_n dX8_request_4 rfl rfl ?_
  obtain ⟨k3, hf⟩ := gds hf
  obtain ⟨vo4, zo4, ho4h, ho4, hf⟩ := rfs3 hf
  refine CV1i dX8_request_5 (mX0_has hst ho4) tk_429 iX0_has k3 (by decide) rfl ⟨by decide, by decide⟩ ⟨by decide, by decide⟩ (Nat.le_of_ble_eq_true rfl) ?_
  rcases br hf with ⟨c5, hf⟩ | ⟨c5, hf⟩
  · refine J_if_eq (tgt := 29) dX8_request_8 (by decide) (fun _ => ?_) (fun w => absurd c5 w)
    refine J.sub (jsub_s (jsub_s (jsub_s (jsub_nil _)))) ?_
    refine J.widen (k' := 0) (n' := 0) (by decide) (by decide) ?_
    exact wbX8_request_29T hst   hf hv
  · refine J_if_eq (tgt := 29) dX8_request_8 (by decide) (fun w => absurd w c5) (fun _ => ?_)
    refine J_aload_n dX8_request_11 rfl rfl ?_
    obtain ⟨k6, hf⟩ := gds hf
    obtain ⟨b7, rb7, hf⟩ := rfs hf
    refine G_8_0 dX8_request_12 tk_247 k6 rb7 ?_
    obtain ⟨k8, hf⟩ := gds hf
    obtain ⟨b9, rb9, hf⟩ := rfs hf
    refine G_0_0 dX8_request_15 tk_92 k8 rb9 ?_
    refine J_iload_n dX8_request_18 rfl rfl ?_
    obtain ⟨k10, hf⟩ := gds hf
    obtain ⟨vo11, zo11, ho11h, ho11, hf⟩ := rfs3 hf
    refine CV1i dX8_request_19 (mX2_has hst ho11) tk_552 iX2_has k10 (by decide) rfl ⟨by decide, by decide⟩ ⟨by decide, by decide⟩ (Nat.le_of_ble_eq_true rfl) ?_
    rcases br hf with ⟨c12, hf⟩ | ⟨c12, hf⟩
    · refine J_if_eq (tgt := 29) dX8_request_22 (by decide) (fun _ => ?_) (fun w => absurd c12 w)
      refine J.sub (jsub_s (jsub_s (jsub_s (jsub_nil _)))) ?_
      refine J.widen (k' := 0) (n' := 0) (by decide) (by decide) ?_
      exact wbX8_request_29T hst   hf hv
    · refine J_if_eq (tgt := 29) dX8_request_22 (by decide) (fun w => absurd w c12) (fun _ => ?_)
      refine J_iconst (v := 1) dX8_request_25 (by decide) ?_
      refine J_goto (tgt := 30) dX8_request_26 (by decide) ?_
      refine J.sub (jsub_s (jsub_s (jsub_s (jsub_nil _)))) ?_
      refine J.widen (k' := 0) (n' := 0) (by decide) (by decide) ?_
      exact wbX8_request_30T hst   hf hv
theorem mX8_requestT {g : JG} (hst : (jl g).stackTraces = false) {a0 : Nat} {x1 : Int32} {x2 : Int32} {z : Nat} {h : AH} {o : (Int32 ⊕ String) × Nat × AH} (hf : fX8_request a0 x1 x2 z h = some o) (hv : (∃ v, o.1 = .inr v)) : jMetX g yX8_request (wj yX8_request cX8_request 3 (some .int)) rmX8_requestT [.ref a0, .int x1, .int x2] z h (xoI o.1, o.2.1, o.2.2) :=
  jMetX_mk (by decide) (Nat.le_of_ble_eq_true rfl) [some (.ref a0), some (.int x1), some (.int x2)] rfl (wfX8_requestT hst hf hv)
def bX8_release_30  (a0 : Nat) (x1 : Int32) (x2 : Int32) (s0 : Int32) (z : Nat) (h : AH) : Option ((Int32 ⊕ String) × Nat × AH) :=
  bd3 (fX8_needThing s0 z h) (fun vo1 zo1 ho1h => xr vo1 (fun v2 => gd (kd ho1h a0 = 9) (Option.bind (rv ho1h a0 0) (fun b5 => gd (kd ho1h b5 = 1) (bd3 (fX0_holds b5 x1 x2 zo1 ho1h) (fun vo7 zo7 ho7h => bd3 (fX8_needState vo7 zo7 ho7h) (fun vo8 zo8 ho8h => xr vo8 (fun v9 => gd (kd ho8h a0 = 9) (Option.bind (rv ho8h a0 5) (fun b12 => Option.bind (rv ho8h a0 0) (fun b13 => gd (kd ho8h b12 = 4) (bd2 (fX3_keep b12 b13 zo8 ho8h) (fun zo15 ho15h => gd (kd ho15h a0 = 9) (Option.bind (rv ho15h a0 4) (fun b17 => gd (kd ho15h b17 = 2) (bd3 (fX1_giveBack b17 x1 x2 zo15 ho15h) (fun vo19 zo19 ho19h => some (.inl vo19, zo19, ho19h))))))))))) (fun x10 => some (.inr x10, zo8, ho8h)))))))) (fun x3 => some (.inr x3, zo1, ho1h)))
def bX8_release_29  (a0 : Nat) (x1 : Int32) (x2 : Int32) (z : Nat) (h : AH) : Option ((Int32 ⊕ String) × Nat × AH) :=
  bX8_release_30  a0 x1 x2 0 z h
def fX8_release  (a0 : Nat) (x1 : Int32) (x2 : Int32) (z : Nat) (h : AH) : Option ((Int32 ⊕ String) × Nat × AH) :=
  gd (kd h a0 = 9) (Option.bind (rv h a0 0) (fun b2 => gd (kd h b2 = 1) (bd3 (fX0_has b2 x1 z h) (fun vo4 zo4 ho4h => (if vo4 = 0 then (bX8_release_29  a0 x1 x2 zo4 ho4h) else (gd (kd ho4h a0 = 9) (Option.bind (rv ho4h a0 0) (fun b7 => gd (kd ho4h b7 = 1) (Option.bind (rv ho4h b7 0) (fun b9 => gd (kd ho4h b9 = 3) (bd3 (fX2_has b9 x2 zo4 ho4h) (fun vo11 zo11 ho11h => (if vo11 = 0 then (bX8_release_29  a0 x1 x2 zo11 ho11h) else (bX8_release_30  a0 x1 x2 1 zo11 ho11h))))))))))))))
theorem wbX8_release_30R {g : JG} (hst : (jl g).stackTraces = false)   {a0 : Nat} {x1 : Int32} {x2 : Int32} {s0 : Int32} {z : Nat} {h : AH} {o : (Int32 ⊕ String) × Nat × AH} (hf : bX8_release_30  a0 x1 x2 s0 z h = some o) (hv : (∃ v, o.1 = .inl v)) : J g MX8_releaseR (jV g (xoI o.1, o.2.1, o.2.2) rmX8_releaseR.cells rmX8_releaseR.slots) 30 [some (.ref a0), some (.int x1), some (.int x2)] [.int s0] z h 0 0 := by
  unfold bX8_release_30 at hf
  obtain ⟨vo1, zo1, ho1h, ho1, hf⟩ := rfs3 hf
  rcases xrs hf with ⟨v2, ev2, hf⟩ | ⟨x3, ev2, hf⟩
  · refine XS1v dX8_release_30 (by have h9 := mX8_needThingR hst ho1 ⟨_, ev2⟩; rw [ev2] at h9; exact h9) tk_434 iX8_needThing ⟨by decide, by decide⟩ ⟨by decide, by decide⟩ (Nat.le_of_ble_eq_true rfl) ?_
    refine J_aload_n dX8_release_33 rfl rfl ?_
    obtain ⟨k4, hf⟩ := gds hf
    obtain ⟨b5, rb5, hf⟩ := rfs hf
    refine G_8_0 dX8_release_34 tk_247 k4 rb5 ?_
    refine J_iload_n dX8_release_37 rfl rfl ?_
    refine J_iload_n dX8_release_38 rfl rfl ?_
    obtain ⟨k6, hf⟩ := gds hf
    obtain ⟨vo7, zo7, ho7h, ho7, hf⟩ := rfs3 hf
    refine CV2i dX8_release_39 (mX0_holds hst ho7) tk_684 iX0_holds k6 (by decide) rfl ⟨by decide, by decide⟩ ⟨by decide, by decide⟩ (Nat.le_of_ble_eq_true rfl) ?_
    obtain ⟨vo8, zo8, ho8h, ho8, hf⟩ := rfs3 hf
    rcases xrs hf with ⟨v9, ev9, hf⟩ | ⟨x10, ev9, hf⟩
    · refine XS1v dX8_release_42 (by have h9 := mX8_needStateR hst ho8 ⟨_, ev9⟩; rw [ev9] at h9; exact h9) tk_553 iX8_needState ⟨by decide, by decide⟩ ⟨by decide, by decide⟩ (Nat.le_of_ble_eq_true rfl) ?_
      refine J_aload_n dX8_release_45 rfl rfl ?_
      obtain ⟨k11, hf⟩ := gds hf
      obtain ⟨b12, rb12, hf⟩ := rfs hf
      refine G_8_5 dX8_release_46 tk_252 k11 rb12 ?_
      refine J_aload_n dX8_release_49 rfl rfl ?_
      obtain ⟨b13, rb13, hf⟩ := rfs hf
      refine G_8_0 dX8_release_50 tk_247 k11 rb13 ?_
      obtain ⟨k14, hf⟩ := gds hf
      obtain ⟨zo15, ho15h, ho15, hf⟩ := rfs2 hf
      refine CV1v dX8_release_53 (mX3_keep hst ho15) tk_572 iX3_keep k14 (by decide) rfl ⟨by decide, by decide⟩ ⟨by decide, by decide⟩ (Nat.le_of_ble_eq_true rfl) ?_
      refine J_aload_n dX8_release_56 rfl rfl ?_
      obtain ⟨k16, hf⟩ := gds hf
      obtain ⟨b17, rb17, hf⟩ := rfs hf
      refine G_8_4 dX8_release_57 tk_251 k16 rb17 ?_
      refine J_iload_n dX8_release_60 rfl rfl ?_
      refine J_iload_n dX8_release_61 rfl rfl ?_
      obtain ⟨k18, hf⟩ := gds hf
      obtain ⟨vo19, zo19, ho19h, ho19, hf⟩ := rfs3 hf
      refine CV2i dX8_release_62 (mX1_giveBack hst ho19) tk_688 iX1_giveBack k18 (by decide) rfl ⟨by decide, by decide⟩ ⟨by decide, by decide⟩ (Nat.le_of_ble_eq_true rfl) ?_
      cases hf
      exact jN_V (J_iretN dX8_release_65 rfl (by decide) (by decide))
    · cases hf
      obtain ⟨_, hv⟩ := hv; cases hv
  · cases hf
    obtain ⟨_, hv⟩ := hv; cases hv
theorem wbX8_release_29R {g : JG} (hst : (jl g).stackTraces = false)   {a0 : Nat} {x1 : Int32} {x2 : Int32} {z : Nat} {h : AH} {o : (Int32 ⊕ String) × Nat × AH} (hf : bX8_release_29  a0 x1 x2 z h = some o) (hv : (∃ v, o.1 = .inl v)) : J g MX8_releaseR (jV g (xoI o.1, o.2.1, o.2.2) rmX8_releaseR.cells rmX8_releaseR.slots) 29 [some (.ref a0), some (.int x1), some (.int x2)] [] z h 0 0 := by
  unfold bX8_release_29 at hf
  refine J_iconst (v := 0) dX8_release_29 (by decide) ?_
  refine J.sub (jsub_s (jsub_s (jsub_s (jsub_nil _)))) ?_
  refine J.widen (k' := 0) (n' := 0) (by decide) (by decide) ?_
  exact wbX8_release_30R hst   hf hv
theorem wfX8_releaseR {g : JG} (hst : (jl g).stackTraces = false)   {a0 : Nat} {x1 : Int32} {x2 : Int32} {z : Nat} {h : AH} {o : (Int32 ⊕ String) × Nat × AH} (hf : fX8_release  a0 x1 x2 z h = some o) (hv : (∃ v, o.1 = .inl v)) : J g MX8_releaseR (jV g (xoI o.1, o.2.1, o.2.2) rmX8_releaseR.cells rmX8_releaseR.slots) 0 [some (.ref a0), some (.int x1), some (.int x2)] [] z h 0 0 := by
  unfold fX8_release at hf
  refine J_aload_n dX8_release_0 rfl rfl ?_
  obtain ⟨k1, hf⟩ := gds hf
  obtain ⟨b2, rb2, hf⟩ := rfs hf
  refine G_8_0 dX8_release_1 tk_247 k1 rb2 ?_
  refine J_iload_n dX8_release_4 rfl rfl ?_
  obtain ⟨k3, hf⟩ := gds hf
  obtain ⟨vo4, zo4, ho4h, ho4, hf⟩ := rfs3 hf
  refine CV1i dX8_release_5 (mX0_has hst ho4) tk_429 iX0_has k3 (by decide) rfl ⟨by decide, by decide⟩ ⟨by decide, by decide⟩ (Nat.le_of_ble_eq_true rfl) ?_
  rcases br hf with ⟨c5, hf⟩ | ⟨c5, hf⟩
  · refine J_if_eq (tgt := 29) dX8_release_8 (by decide) (fun _ => ?_) (fun w => absurd c5 w)
    refine J.sub (jsub_s (jsub_s (jsub_s (jsub_nil _)))) ?_
    refine J.widen (k' := 0) (n' := 0) (by decide) (by decide) ?_
    exact wbX8_release_29R hst   hf hv
  · refine J_if_eq (tgt := 29) dX8_release_8 (by decide) (fun w => absurd w c5) (fun _ => ?_)
    refine J_aload_n dX8_release_11 rfl rfl ?_
    obtain ⟨k6, hf⟩ := gds hf
    obtain ⟨b7, rb7, hf⟩ := rfs hf
    refine G_8_0 dX8_release_12 tk_247 k6 rb7 ?_
    obtain ⟨k8, hf⟩ := gds hf
    obtain ⟨b9, rb9, hf⟩ := rfs hf
    refine G_0_0 dX8_release_15 tk_92 k8 rb9 ?_
    refine J_iload_n dX8_release_18 rfl rfl ?_
    obtain ⟨k10, hf⟩ := gds hf
    obtain ⟨vo11, zo11, ho11h, ho11, hf⟩ := rfs3 hf
    refine CV1i dX8_release_19 (mX2_has hst ho11) tk_552 iX2_has k10 (by decide) rfl ⟨by decide, by decide⟩ ⟨by decide, by decide⟩ (Nat.le_of_ble_eq_true rfl) ?_
    rcases br hf with ⟨c12, hf⟩ | ⟨c12, hf⟩
    · refine J_if_eq (tgt := 29) dX8_release_22 (by decide) (fun _ => ?_) (fun w => absurd c12 w)
      refine J.sub (jsub_s (jsub_s (jsub_s (jsub_nil _)))) ?_
      refine J.widen (k' := 0) (n' := 0) (by decide) (by decide) ?_
      exact wbX8_release_29R hst   hf hv
    · refine J_if_eq (tgt := 29) dX8_release_22 (by decide) (fun w => absurd w c12) (fun _ => ?_)
      refine J_iconst (v := 1) dX8_release_25 (by decide) ?_
      refine J_goto (tgt := 30) dX8_release_26 (by decide) ?_
      refine J.sub (jsub_s (jsub_s (jsub_s (jsub_nil _)))) ?_
      refine J.widen (k' := 0) (n' := 0) (by decide) (by decide) ?_
      exact wbX8_release_30R hst   hf hv
theorem mX8_releaseR {g : JG} (hst : (jl g).stackTraces = false) {a0 : Nat} {x1 : Int32} {x2 : Int32} {z : Nat} {h : AH} {o : (Int32 ⊕ String) × Nat × AH} (hf : fX8_release a0 x1 x2 z h = some o) (hv : (∃ v, o.1 = .inl v)) : jMetX g yX8_release (wj yX8_release cX8_release 3 (some .int)) rmX8_releaseR [.ref a0, .int x1, .int x2] z h (xoI o.1, o.2.1, o.2.2) :=
  jMetX_mk (by decide) (Nat.le_of_ble_eq_true rfl) [some (.ref a0), some (.int x1), some (.int x2)] rfl (wfX8_releaseR hst hf hv)
theorem wbX8_release_30T {g : JG} (hst : (jl g).stackTraces = false)   {a0 : Nat} {x1 : Int32} {x2 : Int32} {s0 : Int32} {z : Nat} {h : AH} {o : (Int32 ⊕ String) × Nat × AH} (hf : bX8_release_30  a0 x1 x2 s0 z h = some o) (hv : (∃ v, o.1 = .inr v)) : J g MX8_releaseT (jV g (xoI o.1, o.2.1, o.2.2) rmX8_releaseT.cells rmX8_releaseT.slots) 30 [some (.ref a0), some (.int x1), some (.int x2)] [.int s0] z h 0 0 := by
  unfold bX8_release_30 at hf
  obtain ⟨vo1, zo1, ho1h, ho1, hf⟩ := rfs3 hf
  rcases xrs hf with ⟨v2, ev2, hf⟩ | ⟨x3, ev2, hf⟩
  · refine XS1v dX8_release_30 (by have h9 := mX8_needThingR hst ho1 ⟨_, ev2⟩; rw [ev2] at h9; exact h9) tk_434 iX8_needThing ⟨by decide, by decide⟩ ⟨by decide, by decide⟩ (Nat.le_of_ble_eq_true rfl) ?_
    refine J_aload_n dX8_release_33 rfl rfl ?_
    obtain ⟨k4, hf⟩ := gds hf
    obtain ⟨b5, rb5, hf⟩ := rfs hf
    refine G_8_0 dX8_release_34 tk_247 k4 rb5 ?_
    refine J_iload_n dX8_release_37 rfl rfl ?_
    refine J_iload_n dX8_release_38 rfl rfl ?_
    obtain ⟨k6, hf⟩ := gds hf
    obtain ⟨vo7, zo7, ho7h, ho7, hf⟩ := rfs3 hf
    refine CV2i dX8_release_39 (mX0_holds hst ho7) tk_684 iX0_holds k6 (by decide) rfl ⟨by decide, by decide⟩ ⟨by decide, by decide⟩ (Nat.le_of_ble_eq_true rfl) ?_
    obtain ⟨vo8, zo8, ho8h, ho8, hf⟩ := rfs3 hf
    rcases xrs hf with ⟨v9, ev9, hf⟩ | ⟨x10, ev9, hf⟩
    · refine XS1v dX8_release_42 (by have h9 := mX8_needStateR hst ho8 ⟨_, ev9⟩; rw [ev9] at h9; exact h9) tk_553 iX8_needState ⟨by decide, by decide⟩ ⟨by decide, by decide⟩ (Nat.le_of_ble_eq_true rfl) ?_
      refine J_aload_n dX8_release_45 rfl rfl ?_
      obtain ⟨k11, hf⟩ := gds hf
      obtain ⟨b12, rb12, hf⟩ := rfs hf
      refine G_8_5 dX8_release_46 tk_252 k11 rb12 ?_
      refine J_aload_n dX8_release_49 rfl rfl ?_
      obtain ⟨b13, rb13, hf⟩ := rfs hf
      refine G_8_0 dX8_release_50 tk_247 k11 rb13 ?_
      obtain ⟨k14, hf⟩ := gds hf
      obtain ⟨zo15, ho15h, ho15, hf⟩ := rfs2 hf
      refine CV1v dX8_release_53 (mX3_keep hst ho15) tk_572 iX3_keep k14 (by decide) rfl ⟨by decide, by decide⟩ ⟨by decide, by decide⟩ (Nat.le_of_ble_eq_true rfl) ?_
      refine J_aload_n dX8_release_56 rfl rfl ?_
      obtain ⟨k16, hf⟩ := gds hf
      obtain ⟨b17, rb17, hf⟩ := rfs hf
      refine G_8_4 dX8_release_57 tk_251 k16 rb17 ?_
      refine J_iload_n dX8_release_60 rfl rfl ?_
      refine J_iload_n dX8_release_61 rfl rfl ?_
      obtain ⟨k18, hf⟩ := gds hf
      obtain ⟨vo19, zo19, ho19h, ho19, hf⟩ := rfs3 hf
      refine CV2i dX8_release_62 (mX1_giveBack hst ho19) tk_688 iX1_giveBack k18 (by decide) rfl ⟨by decide, by decide⟩ ⟨by decide, by decide⟩ (Nat.le_of_ble_eq_true rfl) ?_
      cases hf
      obtain ⟨_, hv⟩ := hv; cases hv
    · cases hf
      exact XS1t dX8_release_42 (by have h9 := mX8_needStateT hst ho8 ⟨_, ev9⟩; rw [ev9] at h9; exact h9) tk_553 iX8_needState ⟨by decide, by decide⟩ ⟨by decide, by decide⟩ (Nat.le_of_ble_eq_true rfl) rfl (by decide) (by decide)
  · cases hf
    exact XS1t dX8_release_30 (by have h9 := mX8_needThingT hst ho1 ⟨_, ev2⟩; rw [ev2] at h9; exact h9) tk_434 iX8_needThing ⟨by decide, by decide⟩ ⟨by decide, by decide⟩ (Nat.le_of_ble_eq_true rfl) rfl (by decide) (by decide)
theorem wbX8_release_29T {g : JG} (hst : (jl g).stackTraces = false)   {a0 : Nat} {x1 : Int32} {x2 : Int32} {z : Nat} {h : AH} {o : (Int32 ⊕ String) × Nat × AH} (hf : bX8_release_29  a0 x1 x2 z h = some o) (hv : (∃ v, o.1 = .inr v)) : J g MX8_releaseT (jV g (xoI o.1, o.2.1, o.2.2) rmX8_releaseT.cells rmX8_releaseT.slots) 29 [some (.ref a0), some (.int x1), some (.int x2)] [] z h 0 0 := by
  unfold bX8_release_29 at hf
  refine J_iconst (v := 0) dX8_release_29 (by decide) ?_
  refine J.sub (jsub_s (jsub_s (jsub_s (jsub_nil _)))) ?_
  refine J.widen (k' := 0) (n' := 0) (by decide) (by decide) ?_
  exact wbX8_release_30T hst   hf hv
theorem wfX8_releaseT {g : JG} (hst : (jl g).stackTraces = false)   {a0 : Nat} {x1 : Int32} {x2 : Int32} {z : Nat} {h : AH} {o : (Int32 ⊕ String) × Nat × AH} (hf : fX8_release  a0 x1 x2 z h = some o) (hv : (∃ v, o.1 = .inr v)) : J g MX8_releaseT (jV g (xoI o.1, o.2.1, o.2.2) rmX8_releaseT.cells rmX8_releaseT.slots) 0 [some (.ref a0), some (.int x1), some (.int x2)] [] z h 0 0 := by
  unfold fX8_release at hf
  refine J_aload_n dX8_release_0 rfl rfl ?_
  obtain ⟨k1, hf⟩ := gds hf
  obtain ⟨b2, rb2, hf⟩ := rfs hf
  refine G_8_0 dX8_release_1 tk_247 k1 rb2 ?_
  refine J_iload_n dX8_release_4 rfl rfl ?_
  obtain ⟨k3, hf⟩ := gds hf
  obtain ⟨vo4, zo4, ho4h, ho4, hf⟩ := rfs3 hf
  refine CV1i dX8_release_5 (mX0_has hst ho4) tk_429 iX0_has k3 (by decide) rfl ⟨by decide, by decide⟩ ⟨by decide, by decide⟩ (Nat.le_of_ble_eq_true rfl) ?_
  rcases br hf with ⟨c5, hf⟩ | ⟨c5, hf⟩
  · refine J_if_eq (tgt := 29) dX8_release_8 (by decide) (fun _ => ?_) (fun w => absurd c5 w)
    refine J.sub (jsub_s (jsub_s (jsub_s (jsub_nil _)))) ?_
    refine J.widen (k' := 0) (n' := 0) (by decide) (by decide) ?_
    exact wbX8_release_29T hst   hf hv
  · refine J_if_eq (tgt := 29) dX8_release_8 (by decide) (fun w => absurd w c5) (fun _ => ?_)
    refine J_aload_n dX8_release_11 rfl rfl ?_
    obtain ⟨k6, hf⟩ := gds hf
    obtain ⟨b7, rb7, hf⟩ := rfs hf
    refine G_8_0 dX8_release_12 tk_247 k6 rb7 ?_
    obtain ⟨k8, hf⟩ := gds hf
    obtain ⟨b9, rb9, hf⟩ := rfs hf
    refine G_0_0 dX8_release_15 tk_92 k8 rb9 ?_
    refine J_iload_n dX8_release_18 rfl rfl ?_
    obtain ⟨k10, hf⟩ := gds hf
    obtain ⟨vo11, zo11, ho11h, ho11, hf⟩ := rfs3 hf
    refine CV1i dX8_release_19 (mX2_has hst ho11) tk_552 iX2_has k10 (by decide) rfl ⟨by decide, by decide⟩ ⟨by decide, by decide⟩ (Nat.le_of_ble_eq_true rfl) ?_
    rcases br hf with ⟨c12, hf⟩ | ⟨c12, hf⟩
    · refine J_if_eq (tgt := 29) dX8_release_22 (by decide) (fun _ => ?_) (fun w => absurd c12 w)
      refine J.sub (jsub_s (jsub_s (jsub_s (jsub_nil _)))) ?_
      refine J.widen (k' := 0) (n' := 0) (by decide) (by decide) ?_
      exact wbX8_release_29T hst   hf hv
    · refine J_if_eq (tgt := 29) dX8_release_22 (by decide) (fun w => absurd w c12) (fun _ => ?_)
      refine J_iconst (v := 1) dX8_release_25 (by decide) ?_
      refine J_goto (tgt := 30) dX8_release_26 (by decide) ?_
      refine J.sub (jsub_s (jsub_s (jsub_s (jsub_nil _)))) ?_
      refine J.widen (k' := 0) (n' := 0) (by decide) (by decide) ?_
      exact wbX8_release_30T hst   hf hv
theorem mX8_releaseT {g : JG} (hst : (jl g).stackTraces = false) {a0 : Nat} {x1 : Int32} {x2 : Int32} {z : Nat} {h : AH} {o : (Int32 ⊕ String) × Nat × AH} (hf : fX8_release a0 x1 x2 z h = some o) (hv : (∃ v, o.1 = .inr v)) : jMetX g yX8_release (wj yX8_release cX8_release 3 (some .int)) rmX8_releaseT [.ref a0, .int x1, .int x2] z h (xoI o.1, o.2.1, o.2.2) :=
  jMetX_mk (by decide) (Nat.le_of_ble_eq_true rfl) [some (.ref a0), some (.int x1), some (.int x2)] rfl (wfX8_releaseT hst hf hv)
def fX8_restart  (a0 : Nat) (x1 : Int32) (z : Nat) (h : AH) : Option ((Int32 ⊕ String) × Nat × AH) :=
  gd (kd h a0 = 9) (Option.bind (rv h a0 0) (fun b2 => gd (kd h b2 = 1) (bd3 (fX0_has b2 x1 z h) (fun vo4 zo4 ho4h => bd3 (fX8_needThing vo4 zo4 ho4h) (fun vo5 zo5 ho5h => xr vo5 (fun v6 => gd (kd ho5h a0 = 9) (Option.bind (rv ho5h a0 0) (fun b9 => gd (kd ho5h b9 = 1) (bd3 (fX0_isIn b9 x1 2 zo5 ho5h) (fun vo11 zo11 ho11h => bd3 (fX8_needState vo11 zo11 ho11h) (fun vo12 zo12 ho12h => xr vo12 (fun v13 => gd (kd ho12h a0 = 9) (Option.bind (rv ho12h a0 5) (fun b16 => Option.bind (rv ho12h a0 0) (fun b17 => gd (kd ho12h b16 = 4) (bd2 (fX3_keep b16 b17 zo12 ho12h) (fun zo19 ho19h => gd (kd ho19h a0 = 9) (Option.bind (rv ho19h a0 0) (fun b21 => gd (kd ho19h b21 = 1) (bd3 (fX0_revive b21 x1 zo19 ho19h) (fun vo23 zo23 ho23h => some (.inl vo23, zo23, ho23h))))))))))) (fun x14 => some (.inr x14, zo12, ho12h)))))))) (fun x7 => some (.inr x7, zo5, ho5h)))))))
theorem wfX8_restartR {g : JG} (hst : (jl g).stackTraces = false)   {a0 : Nat} {x1 : Int32} {z : Nat} {h : AH} {o : (Int32 ⊕ String) × Nat × AH} (hf : fX8_restart  a0 x1 z h = some o) (hv : (∃ v, o.1 = .inl v)) : J g MX8_restartR (jV g (xoI o.1, o.2.1, o.2.2) rmX8_restartR.cells rmX8_restartR.slots) 0 [some (.ref a0), some (.int x1)] [] z h 0 0 := by
  unfold fX8_restart at hf
  refine J_aload_n dX8_restart_0 rfl rfl ?_
  obtain ⟨k1, hf⟩ := gds hf
  obtain ⟨b2, rb2, hf⟩ := rfs hf
  refine G_8_0 dX8_restart_1 tk_247 k1 rb2 ?_
  refine J_iload_n dX8_restart_4 rfl rfl ?_
  obtain ⟨k3, hf⟩ := gds hf
  obtain ⟨vo4, zo4, ho4h, ho4, hf⟩ := rfs3 hf
  refine CV1i dX8_restart_5 (mX0_has hst ho4) tk_429 iX0_has k3 (by decide) rfl ⟨by decide, by decide⟩ ⟨by decide, by decide⟩ (Nat.le_of_ble_eq_true rfl) ?_
  obtain ⟨vo5, zo5, ho5h, ho5, hf⟩ := rfs3 hf
  rcases xrs hf with ⟨v6, ev6, hf⟩ | ⟨x7, ev6, hf⟩
  · refine XS1v dX8_restart_8 (by have h9 := mX8_needThingR hst ho5 ⟨_, ev6⟩; rw [ev6] at h9; exact h9) tk_434 iX8_needThing ⟨by decide, by decide⟩ ⟨by decide, by decide⟩ (Nat.le_of_ble_eq_true rfl) ?_
    refine J_aload_n dX8_restart_11 rfl rfl ?_
    obtain ⟨k8, hf⟩ := gds hf
    obtain ⟨b9, rb9, hf⟩ := rfs hf
    refine G_8_0 dX8_restart_12 tk_247 k8 rb9 ?_
    refine J_iload_n dX8_restart_15 rfl rfl ?_
    refine J_iconst (v := 2) dX8_restart_16 (by decide) ?_
    obtain ⟨k10, hf⟩ := gds hf
    obtain ⟨vo11, zo11, ho11h, ho11, hf⟩ := rfs3 hf
    refine CV2i dX8_restart_17 (mX0_isIn hst ho11) tk_638 iX0_isIn k10 (by decide) rfl ⟨by decide, by decide⟩ ⟨by decide, by decide⟩ (Nat.le_of_ble_eq_true rfl) ?_
    obtain ⟨vo12, zo12, ho12h, ho12, hf⟩ := rfs3 hf
    rcases xrs hf with ⟨v13, ev13, hf⟩ | ⟨x14, ev13, hf⟩
    · refine XS1v dX8_restart_20 (by have h9 := mX8_needStateR hst ho12 ⟨_, ev13⟩; rw [ev13] at h9; exact h9) tk_553 iX8_needState ⟨by decide, by decide⟩ ⟨by decide, by decide⟩ (Nat.le_of_ble_eq_true rfl) ?_
      refine J_aload_n dX8_restart_23 rfl rfl ?_
      obtain ⟨k15, hf⟩ := gds hf
      obtain ⟨b16, rb16, hf⟩ := rfs hf
      refine G_8_5 dX8_restart_24 tk_252 k15 rb16 ?_
      refine J_aload_n dX8_restart_27 rfl rfl ?_
      obtain ⟨b17, rb17, hf⟩ := rfs hf
      refine G_8_0 dX8_restart_28 tk_247 k15 rb17 ?_
      obtain ⟨k18, hf⟩ := gds hf
      obtain ⟨zo19, ho19h, ho19, hf⟩ := rfs2 hf
      refine CV1v dX8_restart_31 (mX3_keep hst ho19) tk_572 iX3_keep k18 (by decide) rfl ⟨by decide, by decide⟩ ⟨by decide, by decide⟩ (Nat.le_of_ble_eq_true rfl) ?_
      refine J_aload_n dX8_restart_34 rfl rfl ?_
      obtain ⟨k20, hf⟩ := gds hf
      obtain ⟨b21, rb21, hf⟩ := rfs hf
      refine G_8_0 dX8_restart_35 tk_247 k20 rb21 ?_
      refine J_iload_n dX8_restart_38 rfl rfl ?_
      obtain ⟨k22, hf⟩ := gds hf
      obtain ⟨vo23, zo23, ho23h, ho23, hf⟩ := rfs3 hf
      refine CV1i dX8_restart_39 (mX0_revive hst ho23) tk_732 iX0_revive k22 (by decide) rfl ⟨by decide, by decide⟩ ⟨by decide, by decide⟩ (Nat.le_of_ble_eq_true rfl) ?_
      cases hf
      exact jN_V (J_iretN dX8_restart_42 rfl (by decide) (by decide))
    · cases hf
      obtain ⟨_, hv⟩ := hv; cases hv
  · cases hf
    obtain ⟨_, hv⟩ := hv; cases hv
theorem mX8_restartR {g : JG} (hst : (jl g).stackTraces = false) {a0 : Nat} {x1 : Int32} {z : Nat} {h : AH} {o : (Int32 ⊕ String) × Nat × AH} (hf : fX8_restart a0 x1 z h = some o) (hv : (∃ v, o.1 = .inl v)) : jMetX g yX8_restart (wj yX8_restart cX8_restart 2 (some .int)) rmX8_restartR [.ref a0, .int x1] z h (xoI o.1, o.2.1, o.2.2) :=
  jMetX_mk (by decide) (Nat.le_of_ble_eq_true rfl) [some (.ref a0), some (.int x1)] rfl (wfX8_restartR hst hf hv)
theorem wfX8_restartT {g : JG} (hst : (jl g).stackTraces = false)   {a0 : Nat} {x1 : Int32} {z : Nat} {h : AH} {o : (Int32 ⊕ String) × Nat × AH} (hf : fX8_restart  a0 x1 z h = some o) (hv : (∃ v, o.1 = .inr v)) : J g MX8_restartT (jV g (xoI o.1, o.2.1, o.2.2) rmX8_restartT.cells rmX8_restartT.slots) 0 [some (.ref a0), some (.int x1)] [] z h 0 0 := by
  unfold fX8_restart at hf
  refine J_aload_n dX8_restart_0 rfl rfl ?_
  obtain ⟨k1, hf⟩ := gds hf
  obtain ⟨b2, rb2, hf⟩ := rfs hf
  refine G_8_0 dX8_restart_1 tk_247 k1 rb2 ?_
  refine J_iload_n dX8_restart_4 rfl rfl ?_
  obtain ⟨k3, hf⟩ := gds hf
  obtain ⟨vo4, zo4, ho4h, ho4, hf⟩ := rfs3 hf
  refine CV1i dX8_restart_5 (mX0_has hst ho4) tk_429 iX0_has k3 (by decide) rfl ⟨by decide, by decide⟩ ⟨by decide, by decide⟩ (Nat.le_of_ble_eq_true rfl) ?_
  obtain ⟨vo5, zo5, ho5h, ho5, hf⟩ := rfs3 hf
  rcases xrs hf with ⟨v6, ev6, hf⟩ | ⟨x7, ev6, hf⟩
  · refine XS1v dX8_restart_8 (by have h9 := mX8_needThingR hst ho5 ⟨_, ev6⟩; rw [ev6] at h9; exact h9) tk_434 iX8_needThing ⟨by decide, by decide⟩ ⟨by decide, by decide⟩ (Nat.le_of_ble_eq_true rfl) ?_
    refine J_aload_n dX8_restart_11 rfl rfl ?_
    obtain ⟨k8, hf⟩ := gds hf
    obtain ⟨b9, rb9, hf⟩ := rfs hf
    refine G_8_0 dX8_restart_12 tk_247 k8 rb9 ?_
    refine J_iload_n dX8_restart_15 rfl rfl ?_
    refine J_iconst (v := 2) dX8_restart_16 (by decide) ?_
    obtain ⟨k10, hf⟩ := gds hf
    obtain ⟨vo11, zo11, ho11h, ho11, hf⟩ := rfs3 hf
    refine CV2i dX8_restart_17 (mX0_isIn hst ho11) tk_638 iX0_isIn k10 (by decide) rfl ⟨by decide, by decide⟩ ⟨by decide, by decide⟩ (Nat.le_of_ble_eq_true rfl) ?_
    obtain ⟨vo12, zo12, ho12h, ho12, hf⟩ := rfs3 hf
    rcases xrs hf with ⟨v13, ev13, hf⟩ | ⟨x14, ev13, hf⟩
    · refine XS1v dX8_restart_20 (by have h9 := mX8_needStateR hst ho12 ⟨_, ev13⟩; rw [ev13] at h9; exact h9) tk_553 iX8_needState ⟨by decide, by decide⟩ ⟨by decide, by decide⟩ (Nat.le_of_ble_eq_true rfl) ?_
      refine J_aload_n dX8_restart_23 rfl rfl ?_
      obtain ⟨k15, hf⟩ := gds hf
      obtain ⟨b16, rb16, hf⟩ := rfs hf
      refine G_8_5 dX8_restart_24 tk_252 k15 rb16 ?_
      refine J_aload_n dX8_restart_27 rfl rfl ?_
      obtain ⟨b17, rb17, hf⟩ := rfs hf
      refine G_8_0 dX8_restart_28 tk_247 k15 rb17 ?_
      obtain ⟨k18, hf⟩ := gds hf
      obtain ⟨zo19, ho19h, ho19, hf⟩ := rfs2 hf
      refine CV1v dX8_restart_31 (mX3_keep hst ho19) tk_572 iX3_keep k18 (by decide) rfl ⟨by decide, by decide⟩ ⟨by decide, by decide⟩ (Nat.le_of_ble_eq_true rfl) ?_
      refine J_aload_n dX8_restart_34 rfl rfl ?_
      obtain ⟨k20, hf⟩ := gds hf
      obtain ⟨b21, rb21, hf⟩ := rfs hf
      refine G_8_0 dX8_restart_35 tk_247 k20 rb21 ?_
      refine J_iload_n dX8_restart_38 rfl rfl ?_
      obtain ⟨k22, hf⟩ := gds hf
      obtain ⟨vo23, zo23, ho23h, ho23, hf⟩ := rfs3 hf
      refine CV1i dX8_restart_39 (mX0_revive hst ho23) tk_732 iX0_revive k22 (by decide) rfl ⟨by decide, by decide⟩ ⟨by decide, by decide⟩ (Nat.le_of_ble_eq_true rfl) ?_
      cases hf
      obtain ⟨_, hv⟩ := hv; cases hv
    · cases hf
      exact XS1t dX8_restart_20 (by have h9 := mX8_needStateT hst ho12 ⟨_, ev13⟩; rw [ev13] at h9; exact h9) tk_553 iX8_needState ⟨by decide, by decide⟩ ⟨by decide, by decide⟩ (Nat.le_of_ble_eq_true rfl) rfl (by decide) (by decide)
  · cases hf
    exact XS1t dX8_restart_8 (by have h9 := mX8_needThingT hst ho5 ⟨_, ev6⟩; rw [ev6] at h9; exact h9) tk_434 iX8_needThing ⟨by decide, by decide⟩ ⟨by decide, by decide⟩ (Nat.le_of_ble_eq_true rfl) rfl (by decide) (by decide)
theorem mX8_restartT {g : JG} (hst : (jl g).stackTraces = false) {a0 : Nat} {x1 : Int32} {z : Nat} {h : AH} {o : (Int32 ⊕ String) × Nat × AH} (hf : fX8_restart a0 x1 z h = some o) (hv : (∃ v, o.1 = .inr v)) : jMetX g yX8_restart (wj yX8_restart cX8_restart 2 (some .int)) rmX8_restartT [.ref a0, .int x1] z h (xoI o.1, o.2.1, o.2.2) :=
  jMetX_mk (by decide) (Nat.le_of_ble_eq_true rfl) [some (.ref a0), some (.int x1)] rfl (wfX8_restartT hst hf hv)
def fX8_tasks  (a0 : Nat) (z : Nat) (h : AH) : Option (Int32 × Nat × AH) :=
  gd (kd h a0 = 9) (Option.bind (rv h a0 0) (fun b2 => gd (kd h b2 = 1) (some ((iv h b2 9), z, h))))
theorem wfX8_tasks {g : JG} (hst : (jl g).stackTraces = false)   {a0 : Nat} {z : Nat} {h : AH} {o : Int32 × Nat × AH} (hf : fX8_tasks  a0 z h = some o) : J g MX8_tasks (jN g (some (.int o.1), o.2.1, o.2.2) rmX8_tasks.cells rmX8_tasks.slots) 0 [some (.ref a0)] [] z h 0 0 := by
  unfold fX8_tasks at hf
  refine J_aload_n dX8_tasks_0 rfl rfl ?_
  obtain ⟨k1, hf⟩ := gds hf
  obtain ⟨b2, rb2, hf⟩ := rfs hf
  refine G_8_0 dX8_tasks_1 tk_247 k1 rb2 ?_
  obtain ⟨k3, hf⟩ := gds hf
  refine G_0_9 dX8_tasks_4 tk_115 k3 ?_
  cases hf
  exact J_iretN dX8_tasks_7 rfl (by decide) (by decide)
theorem mX8_tasks {g : JG} (hst : (jl g).stackTraces = false) {a0 : Nat} {z : Nat} {h : AH} {o : Int32 × Nat × AH} (hf : fX8_tasks a0 z h = some o) : jMet g yX8_tasks (wj yX8_tasks cX8_tasks 1 (some .int)) rmX8_tasks [.ref a0] z h (some (.int o.1), o.2.1, o.2.2) :=
  jMet_mk (by decide) (Nat.le_of_ble_eq_true rfl) [some (.ref a0)] rfl (wfX8_tasks hst hf)
def fX8_task  (a0 : Nat) (x1 : Int32) (x2 : Int32) (z : Nat) (h : AH) : Option ((Int32 ⊕ String) × Nat × AH) :=
  gd (kd h a0 = 9) (Option.bind (rv h a0 0) (fun b2 => gd (kd h b2 = 1) (bd3 (fX0_has b2 x1 z h) (fun vo4 zo4 ho4h => bd3 (fX8_needThing vo4 zo4 ho4h) (fun vo5 zo5 ho5h => xr vo5 (fun v6 => bd3 (fX8_isWithin x2 0 6 zo5 ho5h) (fun vo8 zo8 ho8h => bd3 (fX8_needValue vo8 zo8 ho8h) (fun vo9 zo9 ho9h => xr vo9 (fun v10 => (if x2 = 0 then (gd (kd ho9h a0 = 9) (Option.bind (rv ho9h a0 0) (fun b14 => gd (kd ho9h b14 = 1) (Option.bind (rv ho9h b14 4) (fun b16 => gd (kd ho9h b16 = 13) (gd (¬ ((x1 : Int32) < 0 ∨ ln ho9h b16 ≤ Int32.toNatClampNeg x1)) (some (.inl (iv ho9h b16 (Int32.toNatClampNeg x1)), zo9, ho9h)))))))) else (if x2 = 1 then (gd (kd ho9h a0 = 9) (Option.bind (rv ho9h a0 0) (fun b21 => gd (kd ho9h b21 = 1) (Option.bind (rv ho9h b21 2) (fun b23 => gd (kd ho9h b23 = 13) (gd (¬ ((x1 : Int32) < 0 ∨ ln ho9h b23 ≤ Int32.toNatClampNeg x1)) (some (.inl (iv ho9h b23 (Int32.toNatClampNeg x1)), zo9, ho9h)))))))) else (if x2 = 2 then (gd (kd ho9h a0 = 9) (Option.bind (rv ho9h a0 0) (fun b28 => gd (kd ho9h b28 = 1) (Option.bind (rv ho9h b28 3) (fun b30 => gd (kd ho9h b30 = 13) (gd (¬ ((x1 : Int32) < 0 ∨ ln ho9h b30 ≤ Int32.toNatClampNeg x1)) (some (.inl (iv ho9h b30 (Int32.toNatClampNeg x1)), zo9, ho9h)))))))) else (if x2 = 3 then (gd (kd ho9h a0 = 9) (Option.bind (rv ho9h a0 0) (fun b35 => gd (kd ho9h b35 = 1) (Option.bind (rv ho9h b35 5) (fun b37 => gd (kd ho9h b37 = 13) (gd (¬ ((x1 : Int32) < 0 ∨ ln ho9h b37 ≤ Int32.toNatClampNeg x1)) (some (.inl (iv ho9h b37 (Int32.toNatClampNeg x1)), zo9, ho9h)))))))) else (if x2 = 4 then (gd (kd ho9h a0 = 9) (Option.bind (rv ho9h a0 0) (fun b42 => gd (kd ho9h b42 = 1) (Option.bind (rv ho9h b42 6) (fun b44 => gd (kd ho9h b44 = 13) (gd (¬ ((x1 : Int32) < 0 ∨ ln ho9h b44 ≤ Int32.toNatClampNeg x1)) (some (.inl (iv ho9h b44 (Int32.toNatClampNeg x1)), zo9, ho9h)))))))) else (if x2 = 5 then (gd (kd ho9h a0 = 9) (Option.bind (rv ho9h a0 0) (fun b49 => gd (kd ho9h b49 = 1) (bd3 (fX0_waitsFor b49 x1 zo9 ho9h) (fun vo51 zo51 ho51h => some (.inl vo51, zo51, ho51h)))))) else (gd (kd ho9h a0 = 9) (Option.bind (rv ho9h a0 0) (fun b53 => gd (kd ho9h b53 = 1) (bd3 (fX0_positionOf b53 x1 zo9 ho9h) (fun vo55 zo55 ho55h => some (.inl vo55, zo55, ho55h))))))))))))) (fun x11 => some (.inr x11, zo9, ho9h))))) (fun x7 => some (.inr x7, zo5, ho5h)))))))
theorem wfX8_taskR {g : JG} (hst : (jl g).stackTraces = false)   {a0 : Nat} {x1 : Int32} {x2 : Int32} {z : Nat} {h : AH} {o : (Int32 ⊕ String) × Nat × AH} (hf : fX8_task  a0 x1 x2 z h = some o) (hv : (∃ v, o.1 = .inl v)) : J g MX8_taskR (jV g (xoI o.1, o.2.1, o.2.2) rmX8_taskR.cells rmX8_taskR.slots) 0 [some (.ref a0), some (.int x1), some (.int x2)] [] z h 0 0 := by
  unfold fX8_task at hf
  refine J_aload_n dX8_task_0 rfl rfl ?_
  obtain ⟨k1, hf⟩ := gds hf
  obtain ⟨b2, rb2, hf⟩ := rfs hf
  refine G_8_0 dX8_task_1 tk_247 k1 rb2 ?_
  refine J_iload_n dX8_task_4 rfl rfl ?_
  obtain ⟨k3, hf⟩ := gds hf
  obtain ⟨vo4, zo4, ho4h, ho4, hf⟩ := rfs3 hf
  refine CV1i dX8_task_5 (mX0_has hst ho4) tk_429 iX0_has k3 (by decide) rfl ⟨by decide, by decide⟩ ⟨by decide, by decide⟩ (Nat.le_of_ble_eq_true rfl) ?_
  obtain ⟨vo5, zo5, ho5h, ho5, hf⟩ := rfs3 hf
  rcases xrs hf with ⟨v6, ev6, hf⟩ | ⟨x7, ev6, hf⟩
  · refine XS1v dX8_task_8 (by have h9 := mX8_needThingR hst ho5 ⟨_, ev6⟩; rw [ev6] at h9; exact h9) tk_434 iX8_needThing ⟨by decide, by decide⟩ ⟨by decide, by decide⟩ (Nat.le_of_ble_eq_true rfl) ?_
    refine J_iload_n dX8_task_11 rfl rfl ?_
    refine J_iconst (v := 0) dX8_task_12 (by decide) ?_
    refine J_bipush (v := 6) dX8_task_13 (by decide) ?_
    obtain ⟨vo8, zo8, ho8h, ho8, hf⟩ := rfs3 hf
    refine CS3i (host := "") dX8_task_15 (mX8_isWithin hst ho8) tk_281 iX8_isWithin ⟨by decide, by decide⟩ ⟨by decide, by decide⟩ (Nat.le_of_ble_eq_true rfl) ?_
    obtain ⟨vo9, zo9, ho9h, ho9, hf⟩ := rfs3 hf
    rcases xrs hf with ⟨v10, ev10, hf⟩ | ⟨x11, ev10, hf⟩
    · refine XS1v dX8_task_18 (by have h9 := mX8_needValueR hst ho9 ⟨_, ev10⟩; rw [ev10] at h9; exact h9) tk_505 iX8_needValue ⟨by decide, by decide⟩ ⟨by decide, by decide⟩ (Nat.le_of_ble_eq_true rfl) ?_
      refine J_iload_n dX8_task_21 rfl rfl ?_
      rcases br hf with ⟨c12, hf⟩ | ⟨c12, hf⟩
      · refine J_tableC (off := 38) (tgt := 60) c12 dX8_task_22 (by decide) (by decide) (by decide) (by decide) ?_
        refine J_aload_n dX8_task_60 rfl rfl ?_
        obtain ⟨k13, hf⟩ := gds hf
        obtain ⟨b14, rb14, hf⟩ := rfs hf
        refine G_8_0 dX8_task_61 tk_247 k13 rb14 ?_
        obtain ⟨k15, hf⟩ := gds hf
        obtain ⟨b16, rb16, hf⟩ := rfs hf
        refine G_0_4 dX8_task_64 tk_104 k15 rb16 ?_
        refine J_iload_n dX8_task_67 rfl rfl ?_
        obtain ⟨k17, hf⟩ := gds hf
        obtain ⟨n18, hf⟩ := gds hf
        refine J_iaload dX8_task_68 k17 n18 ?_
        cases hf
        exact jN_V (J_iretN dX8_task_69 rfl (by decide) (by decide))
      · skip
        rcases br hf with ⟨c19, hf⟩ | ⟨c19, hf⟩
        · refine J_tableC (off := 48) (tgt := 70) c19 dX8_task_22 (by decide) (by decide) (by decide) (by decide) ?_
          refine J_aload_n dX8_task_70 rfl rfl ?_
          obtain ⟨k20, hf⟩ := gds hf
          obtain ⟨b21, rb21, hf⟩ := rfs hf
          refine G_8_0 dX8_task_71 tk_247 k20 rb21 ?_
          obtain ⟨k22, hf⟩ := gds hf
          obtain ⟨b23, rb23, hf⟩ := rfs hf
          refine G_0_2 dX8_task_74 tk_97 k22 rb23 ?_
          refine J_iload_n dX8_task_77 rfl rfl ?_
          obtain ⟨k24, hf⟩ := gds hf
          obtain ⟨n25, hf⟩ := gds hf
          refine J_iaload dX8_task_78 k24 n25 ?_
          cases hf
          exact jN_V (J_iretN dX8_task_79 rfl (by decide) (by decide))
        · skip
          rcases br hf with ⟨c26, hf⟩ | ⟨c26, hf⟩
          · refine J_tableC (off := 58) (tgt := 80) c26 dX8_task_22 (by decide) (by decide) (by decide) (by decide) ?_
            refine J_aload_n dX8_task_80 rfl rfl ?_
            obtain ⟨k27, hf⟩ := gds hf
            obtain ⟨b28, rb28, hf⟩ := rfs hf
            refine G_8_0 dX8_task_81 tk_247 k27 rb28 ?_
            obtain ⟨k29, hf⟩ := gds hf
            obtain ⟨b30, rb30, hf⟩ := rfs hf
            refine G_0_3 dX8_task_84 tk_100 k29 rb30 ?_
            refine J_iload_n dX8_task_87 rfl rfl ?_
            obtain ⟨k31, hf⟩ := gds hf
            obtain ⟨n32, hf⟩ := gds hf
            refine J_iaload dX8_task_88 k31 n32 ?_
            cases hf
            exact jN_V (J_iretN dX8_task_89 rfl (by decide) (by decide))
          · skip
            rcases br hf with ⟨c33, hf⟩ | ⟨c33, hf⟩
            · refine J_tableC (off := 68) (tgt := 90) c33 dX8_task_22 (by decide) (by decide) (by decide) (by decide) ?_
              refine J_aload_n dX8_task_90 rfl rfl ?_
              obtain ⟨k34, hf⟩ := gds hf
              obtain ⟨b35, rb35, hf⟩ := rfs hf
              refine G_8_0 dX8_task_91 tk_247 k34 rb35 ?_
              obtain ⟨k36, hf⟩ := gds hf
              obtain ⟨b37, rb37, hf⟩ := rfs hf
              refine G_0_5 dX8_task_94 tk_106 k36 rb37 ?_
              refine J_iload_n dX8_task_97 rfl rfl ?_
              obtain ⟨k38, hf⟩ := gds hf
              obtain ⟨n39, hf⟩ := gds hf
              refine J_iaload dX8_task_98 k38 n39 ?_
              cases hf
              exact jN_V (J_iretN dX8_task_99 rfl (by decide) (by decide))
            · skip
              rcases br hf with ⟨c40, hf⟩ | ⟨c40, hf⟩
              · refine J_tableC (off := 78) (tgt := 100) c40 dX8_task_22 (by decide) (by decide) (by decide) (by decide) ?_
                refine J_aload_n dX8_task_100 rfl rfl ?_
                obtain ⟨k41, hf⟩ := gds hf
                obtain ⟨b42, rb42, hf⟩ := rfs hf
                refine G_8_0 dX8_task_101 tk_247 k41 rb42 ?_
                obtain ⟨k43, hf⟩ := gds hf
                obtain ⟨b44, rb44, hf⟩ := rfs hf
                refine G_0_6 dX8_task_104 tk_109 k43 rb44 ?_
                refine J_iload_n dX8_task_107 rfl rfl ?_
                obtain ⟨k45, hf⟩ := gds hf
                obtain ⟨n46, hf⟩ := gds hf
                refine J_iaload dX8_task_108 k45 n46 ?_
                cases hf
                exact jN_V (J_iretN dX8_task_109 rfl (by decide) (by decide))
              · skip
                rcases br hf with ⟨c47, hf⟩ | ⟨c47, hf⟩
                · refine J_tableC (off := 88) (tgt := 110) c47 dX8_task_22 (by decide) (by decide) (by decide) (by decide) ?_
                  refine J_aload_n dX8_task_110 rfl rfl ?_
                  obtain ⟨k48, hf⟩ := gds hf
                  obtain ⟨b49, rb49, hf⟩ := rfs hf
                  refine G_8_0 dX8_task_111 tk_247 k48 rb49 ?_
                  refine J_iload_n dX8_task_114 rfl rfl ?_
                  obtain ⟨k50, hf⟩ := gds hf
                  obtain ⟨vo51, zo51, ho51h, ho51, hf⟩ := rfs3 hf
                  refine CV1i dX8_task_115 (mX0_waitsFor hst ho51) tk_524 iX0_waitsFor k50 (by decide) rfl ⟨by decide, by decide⟩ ⟨by decide, by decide⟩ (Nat.le_of_ble_eq_true rfl) ?_
                  cases hf
                  exact jN_V (J_iretN dX8_task_118 rfl (by decide) (by decide))
                · skip
                  have tc12 := tn (i := 0) c12 (by decide)
                  have tc19 := tn (i := 1) c19 (by decide)
                  have tc26 := tn (i := 2) c26 (by decide)
                  have tc33 := tn (i := 3) c33 (by decide)
                  have tc40 := tn (i := 4) c40 (by decide)
                  have tc47 := tn (i := 5) c47 (by decide)
                  refine J_tableOut (tgt := 119) dX8_task_22 (by omega) (by decide) ?_
                  refine J_aload_n dX8_task_119 rfl rfl ?_
                  obtain ⟨k52, hf⟩ := gds hf
                  obtain ⟨b53, rb53, hf⟩ := rfs hf
                  refine G_8_0 dX8_task_120 tk_247 k52 rb53 ?_
                  refine J_iload_n dX8_task_123 rfl rfl ?_
                  obtain ⟨k54, hf⟩ := gds hf
                  obtain ⟨vo55, zo55, ho55h, ho55, hf⟩ := rfs3 hf
                  refine CV1i dX8_task_124 (mX0_positionOf hst ho55) tk_525 iX0_positionOf k54 (by decide) rfl ⟨by decide, by decide⟩ ⟨by decide, by decide⟩ (Nat.le_of_ble_eq_true rfl) ?_
                  cases hf
                  exact jN_V (J_iretN dX8_task_127 rfl (by decide) (by decide))
    · cases hf
      obtain ⟨_, hv⟩ := hv; cases hv
  · cases hf
    obtain ⟨_, hv⟩ := hv; cases hv
theorem mX8_taskR {g : JG} (hst : (jl g).stackTraces = false) {a0 : Nat} {x1 : Int32} {x2 : Int32} {z : Nat} {h : AH} {o : (Int32 ⊕ String) × Nat × AH} (hf : fX8_task a0 x1 x2 z h = some o) (hv : (∃ v, o.1 = .inl v)) : jMetX g yX8_task (wj yX8_task cX8_task 3 (some .int)) rmX8_taskR [.ref a0, .int x1, .int x2] z h (xoI o.1, o.2.1, o.2.2) :=
  jMetX_mk (by decide) (Nat.le_of_ble_eq_true rfl) [some (.ref a0), some (.int x1), some (.int x2)] rfl (wfX8_taskR hst hf hv)
theorem wfX8_taskT {g : JG} (hst : (jl g).stackTraces = false)   {a0 : Nat} {x1 : Int32} {x2 : Int32} {z : Nat} {h : AH} {o : (Int32 ⊕ String) × Nat × AH} (hf : fX8_task  a0 x1 x2 z h = some o) (hv : (∃ v, o.1 = .inr v)) : J g MX8_taskT (jV g (xoI o.1, o.2.1, o.2.2) rmX8_taskT.cells rmX8_taskT.slots) 0 [some (.ref a0), some (.int x1), some (.int x2)] [] z h 0 0 := by
  unfold fX8_task at hf
  refine J_aload_n dX8_task_0 rfl rfl ?_
  obtain ⟨k1, hf⟩ := gds hf
  obtain ⟨b2, rb2, hf⟩ := rfs hf
  refine G_8_0 dX8_task_1 tk_247 k1 rb2 ?_
  refine J_iload_n dX8_task_4 rfl rfl ?_
  obtain ⟨k3, hf⟩ := gds hf
  obtain ⟨vo4, zo4, ho4h, ho4, hf⟩ := rfs3 hf
  refine CV1i dX8_task_5 (mX0_has hst ho4) tk_429 iX0_has k3 (by decide) rfl ⟨by decide, by decide⟩ ⟨by decide, by decide⟩ (Nat.le_of_ble_eq_true rfl) ?_
  obtain ⟨vo5, zo5, ho5h, ho5, hf⟩ := rfs3 hf
  rcases xrs hf with ⟨v6, ev6, hf⟩ | ⟨x7, ev6, hf⟩
  · refine XS1v dX8_task_8 (by have h9 := mX8_needThingR hst ho5 ⟨_, ev6⟩; rw [ev6] at h9; exact h9) tk_434 iX8_needThing ⟨by decide, by decide⟩ ⟨by decide, by decide⟩ (Nat.le_of_ble_eq_true rfl) ?_
    refine J_iload_n dX8_task_11 rfl rfl ?_
    refine J_iconst (v := 0) dX8_task_12 (by decide) ?_
    refine J_bipush (v := 6) dX8_task_13 (by decide) ?_
    obtain ⟨vo8, zo8, ho8h, ho8, hf⟩ := rfs3 hf
    refine CS3i (host := "") dX8_task_15 (mX8_isWithin hst ho8) tk_281 iX8_isWithin ⟨by decide, by decide⟩ ⟨by decide, by decide⟩ (Nat.le_of_ble_eq_true rfl) ?_
    obtain ⟨vo9, zo9, ho9h, ho9, hf⟩ := rfs3 hf
    rcases xrs hf with ⟨v10, ev10, hf⟩ | ⟨x11, ev10, hf⟩
    · refine XS1v dX8_task_18 (by have h9 := mX8_needValueR hst ho9 ⟨_, ev10⟩; rw [ev10] at h9; exact h9) tk_505 iX8_needValue ⟨by decide, by decide⟩ ⟨by decide, by decide⟩ (Nat.le_of_ble_eq_true rfl) ?_
      refine J_iload_n dX8_task_21 rfl rfl ?_
      rcases br hf with ⟨c12, hf⟩ | ⟨c12, hf⟩
      · refine J_tableC (off := 38) (tgt := 60) c12 dX8_task_22 (by decide) (by decide) (by decide) (by decide) ?_
        refine J_aload_n dX8_task_60 rfl rfl ?_
        obtain ⟨k13, hf⟩ := gds hf
        obtain ⟨b14, rb14, hf⟩ := rfs hf
        refine G_8_0 dX8_task_61 tk_247 k13 rb14 ?_
        obtain ⟨k15, hf⟩ := gds hf
        obtain ⟨b16, rb16, hf⟩ := rfs hf
        refine G_0_4 dX8_task_64 tk_104 k15 rb16 ?_
        refine J_iload_n dX8_task_67 rfl rfl ?_
        obtain ⟨k17, hf⟩ := gds hf
        obtain ⟨n18, hf⟩ := gds hf
        refine J_iaload dX8_task_68 k17 n18 ?_
        cases hf
        obtain ⟨_, hv⟩ := hv; cases hv
      · skip
        rcases br hf with ⟨c19, hf⟩ | ⟨c19, hf⟩
        · refine J_tableC (off := 48) (tgt := 70) c19 dX8_task_22 (by decide) (by decide) (by decide) (by decide) ?_
          refine J_aload_n dX8_task_70 rfl rfl ?_
          obtain ⟨k20, hf⟩ := gds hf
          obtain ⟨b21, rb21, hf⟩ := rfs hf
          refine G_8_0 dX8_task_71 tk_247 k20 rb21 ?_
          obtain ⟨k22, hf⟩ := gds hf
          obtain ⟨b23, rb23, hf⟩ := rfs hf
          refine G_0_2 dX8_task_74 tk_97 k22 rb23 ?_
          refine J_iload_n dX8_task_77 rfl rfl ?_
          obtain ⟨k24, hf⟩ := gds hf
          obtain ⟨n25, hf⟩ := gds hf
          refine J_iaload dX8_task_78 k24 n25 ?_
          cases hf
          obtain ⟨_, hv⟩ := hv; cases hv
        · skip
          rcases br hf with ⟨c26, hf⟩ | ⟨c26, hf⟩
          · refine J_tableC (off := 58) (tgt := 80) c26 dX8_task_22 (by decide) (by decide) (by decide) (by decide) ?_
            refine J_aload_n dX8_task_80 rfl rfl ?_
            obtain ⟨k27, hf⟩ := gds hf
            obtain ⟨b28, rb28, hf⟩ := rfs hf
            refine G_8_0 dX8_task_81 tk_247 k27 rb28 ?_
            obtain ⟨k29, hf⟩ := gds hf
            obtain ⟨b30, rb30, hf⟩ := rfs hf
            refine G_0_3 dX8_task_84 tk_100 k29 rb30 ?_
            refine J_iload_n dX8_task_87 rfl rfl ?_
            obtain ⟨k31, hf⟩ := gds hf
            obtain ⟨n32, hf⟩ := gds hf
            refine J_iaload dX8_task_88 k31 n32 ?_
            cases hf
            obtain ⟨_, hv⟩ := hv; cases hv
          · skip
            rcases br hf with ⟨c33, hf⟩ | ⟨c33, hf⟩
            · refine J_tableC (off := 68) (tgt := 90) c33 dX8_task_22 (by decide) (by decide) (by decide) (by decide) ?_
              refine J_aload_n dX8_task_90 rfl rfl ?_
              obtain ⟨k34, hf⟩ := gds hf
              obtain ⟨b35, rb35, hf⟩ := rfs hf
              refine G_8_0 dX8_task_91 tk_247 k34 rb35 ?_
              obtain ⟨k36, hf⟩ := gds hf
              obtain ⟨b37, rb37, hf⟩ := rfs hf
              refine G_0_5 dX8_task_94 tk_106 k36 rb37 ?_
              refine J_iload_n dX8_task_97 rfl rfl ?_
              obtain ⟨k38, hf⟩ := gds hf
              obtain ⟨n39, hf⟩ := gds hf
              refine J_iaload dX8_task_98 k38 n39 ?_
              cases hf
              obtain ⟨_, hv⟩ := hv; cases hv
            · skip
              rcases br hf with ⟨c40, hf⟩ | ⟨c40, hf⟩
              · refine J_tableC (off := 78) (tgt := 100) c40 dX8_task_22 (by decide) (by decide) (by decide) (by decide) ?_
                refine J_aload_n dX8_task_100 rfl rfl ?_
                obtain ⟨k41, hf⟩ := gds hf
                obtain ⟨b42, rb42, hf⟩ := rfs hf
                refine G_8_0 dX8_task_101 tk_247 k41 rb42 ?_
                obtain ⟨k43, hf⟩ := gds hf
                obtain ⟨b44, rb44, hf⟩ := rfs hf
                refine G_0_6 dX8_task_104 tk_109 k43 rb44 ?_
                refine J_iload_n dX8_task_107 rfl rfl ?_
                obtain ⟨k45, hf⟩ := gds hf
                obtain ⟨n46, hf⟩ := gds hf
                refine J_iaload dX8_task_108 k45 n46 ?_
                cases hf
                obtain ⟨_, hv⟩ := hv; cases hv
              · skip
                rcases br hf with ⟨c47, hf⟩ | ⟨c47, hf⟩
                · refine J_tableC (off := 88) (tgt := 110) c47 dX8_task_22 (by decide) (by decide) (by decide) (by decide) ?_
                  refine J_aload_n dX8_task_110 rfl rfl ?_
                  obtain ⟨k48, hf⟩ := gds hf
                  obtain ⟨b49, rb49, hf⟩ := rfs hf
                  refine G_8_0 dX8_task_111 tk_247 k48 rb49 ?_
                  refine J_iload_n dX8_task_114 rfl rfl ?_
                  obtain ⟨k50, hf⟩ := gds hf
                  obtain ⟨vo51, zo51, ho51h, ho51, hf⟩ := rfs3 hf
                  refine CV1i dX8_task_115 (mX0_waitsFor hst ho51) tk_524 iX0_waitsFor k50 (by decide) rfl ⟨by decide, by decide⟩ ⟨by decide, by decide⟩ (Nat.le_of_ble_eq_true rfl) ?_
                  cases hf
                  obtain ⟨_, hv⟩ := hv; cases hv
                · skip
                  have tc12 := tn (i := 0) c12 (by decide)
                  have tc19 := tn (i := 1) c19 (by decide)
                  have tc26 := tn (i := 2) c26 (by decide)
                  have tc33 := tn (i := 3) c33 (by decide)
                  have tc40 := tn (i := 4) c40 (by decide)
                  have tc47 := tn (i := 5) c47 (by decide)
                  refine J_tableOut (tgt := 119) dX8_task_22 (by omega) (by decide) ?_
                  refine J_aload_n dX8_task_119 rfl rfl ?_
                  obtain ⟨k52, hf⟩ := gds hf
                  obtain ⟨b53, rb53, hf⟩ := rfs hf
                  refine G_8_0 dX8_task_120 tk_247 k52 rb53 ?_
                  refine J_iload_n dX8_task_123 rfl rfl ?_
                  obtain ⟨k54, hf⟩ := gds hf
                  obtain ⟨vo55, zo55, ho55h, ho55, hf⟩ := rfs3 hf
                  refine CV1i dX8_task_124 (mX0_positionOf hst ho55) tk_525 iX0_positionOf k54 (by decide) rfl ⟨by decide, by decide⟩ ⟨by decide, by decide⟩ (Nat.le_of_ble_eq_true rfl) ?_
                  cases hf
                  obtain ⟨_, hv⟩ := hv; cases hv
    · cases hf
      exact XS1t dX8_task_18 (by have h9 := mX8_needValueT hst ho9 ⟨_, ev10⟩; rw [ev10] at h9; exact h9) tk_505 iX8_needValue ⟨by decide, by decide⟩ ⟨by decide, by decide⟩ (Nat.le_of_ble_eq_true rfl) rfl (by decide) (by decide)
  · cases hf
    exact XS1t dX8_task_8 (by have h9 := mX8_needThingT hst ho5 ⟨_, ev6⟩; rw [ev6] at h9; exact h9) tk_434 iX8_needThing ⟨by decide, by decide⟩ ⟨by decide, by decide⟩ (Nat.le_of_ble_eq_true rfl) rfl (by decide) (by decide)
theorem mX8_taskT {g : JG} (hst : (jl g).stackTraces = false) {a0 : Nat} {x1 : Int32} {x2 : Int32} {z : Nat} {h : AH} {o : (Int32 ⊕ String) × Nat × AH} (hf : fX8_task a0 x1 x2 z h = some o) (hv : (∃ v, o.1 = .inr v)) : jMetX g yX8_task (wj yX8_task cX8_task 3 (some .int)) rmX8_taskT [.ref a0, .int x1, .int x2] z h (xoI o.1, o.2.1, o.2.2) :=
  jMetX_mk (by decide) (Nat.le_of_ble_eq_true rfl) [some (.ref a0), some (.int x1), some (.int x2)] rfl (wfX8_taskT hst hf hv)
def fX8_waiting  (a0 : Nat) (x1 : Int32) (z : Nat) (h : AH) : Option (Int32 × Nat × AH) :=
  gd (kd h a0 = 9) (Option.bind (rv h a0 0) (fun b2 => gd (kd h b2 = 1) (bd3 (fX8_isWithin x1 0 ((iv h b2 8) - 1) z h) (fun vo4 zo4 ho4h => (if vo4 = 0 then (some ((-1), zo4, ho4h)) else (gd (kd ho4h a0 = 9) (Option.bind (rv ho4h a0 0) (fun b7 => gd (kd ho4h b7 = 1) (Option.bind (rv ho4h b7 7) (fun b9 => gd (kd ho4h b9 = 13) (gd (¬ ((x1 : Int32) < 0 ∨ ln ho4h b9 ≤ Int32.toNatClampNeg x1)) (some ((iv ho4h b9 (Int32.toNatClampNeg x1)), zo4, ho4h)))))))))))))
theorem wfX8_waiting {g : JG} (hst : (jl g).stackTraces = false)   {a0 : Nat} {x1 : Int32} {z : Nat} {h : AH} {o : Int32 × Nat × AH} (hf : fX8_waiting  a0 x1 z h = some o) : J g MX8_waiting (jN g (some (.int o.1), o.2.1, o.2.2) rmX8_waiting.cells rmX8_waiting.slots) 0 [some (.ref a0), some (.int x1)] [] z h 0 0 := by
  unfold fX8_waiting at hf
  refine J_iload_n dX8_waiting_0 rfl rfl ?_
  refine J_iconst (v := 0) dX8_waiting_1 (by decide) ?_
  refine J_aload_n dX8_waiting_2 rfl rfl ?_
  obtain ⟨k1, hf⟩ := gds hf
  obtain ⟨b2, rb2, hf⟩ := rfs hf
  refine G_8_0 dX8_waiting_3 tk_247 k1 rb2 ?_
  obtain ⟨k3, hf⟩ := gds hf
  refine G_0_8 dX8_waiting_6 tk_113 k3 ?_
  refine J_iconst (v := 1) dX8_waiting_9 (by decide) ?_
  refine J_isub dX8_waiting_10 ?_
  obtain ⟨vo4, zo4, ho4h, ho4, hf⟩ := rfs3 hf
  refine CS3i (host := "") dX8_waiting_11 (mX8_isWithin hst ho4) tk_281 iX8_isWithin ⟨by decide, by decide⟩ ⟨by decide, by decide⟩ (Nat.le_of_ble_eq_true rfl) ?_
  rcases br hf with ⟨c5, hf⟩ | ⟨c5, hf⟩
  · refine J_if_eq (tgt := 29) dX8_waiting_14 (by decide) (fun _ => ?_) (fun w => absurd c5 w)
    refine J_iconst (v := (-1)) dX8_waiting_29 (by decide) ?_
    cases hf
    exact J_iretN dX8_waiting_30 rfl (by decide) (by decide)
  · refine J_if_eq (tgt := 29) dX8_waiting_14 (by decide) (fun w => absurd w c5) (fun _ => ?_)
    refine J_aload_n dX8_waiting_17 rfl rfl ?_
    obtain ⟨k6, hf⟩ := gds hf
    obtain ⟨b7, rb7, hf⟩ := rfs hf
    refine G_8_0 dX8_waiting_18 tk_247 k6 rb7 ?_
    obtain ⟨k8, hf⟩ := gds hf
    obtain ⟨b9, rb9, hf⟩ := rfs hf
    refine G_0_7 dX8_waiting_21 tk_111 k8 rb9 ?_
    refine J_iload_n dX8_waiting_24 rfl rfl ?_
    obtain ⟨k10, hf⟩ := gds hf
    obtain ⟨n11, hf⟩ := gds hf
    refine J_iaload dX8_waiting_25 k10 n11 ?_
    refine J_goto (tgt := 30) dX8_waiting_26 (by decide) ?_
    cases hf
    exact J_iretN dX8_waiting_30 rfl (by decide) (by decide)
theorem mX8_waiting {g : JG} (hst : (jl g).stackTraces = false) {a0 : Nat} {x1 : Int32} {z : Nat} {h : AH} {o : Int32 × Nat × AH} (hf : fX8_waiting a0 x1 z h = some o) : jMet g yX8_waiting (wj yX8_waiting cX8_waiting 2 (some .int)) rmX8_waiting [.ref a0, .int x1] z h (some (.int o.1), o.2.1, o.2.2) :=
  jMet_mk (by decide) (Nat.le_of_ble_eq_true rfl) [some (.ref a0), some (.int x1)] rfl (wfX8_waiting hst hf)
def bX8_wouldHappen_30  (a0 : Nat) (x1 : Int32) (x2 : Int32) (s0 : Int32) (z : Nat) (h : AH) : Option ((Int32 ⊕ String) × Nat × AH) :=
  bd3 (fX8_needThing s0 z h) (fun vo1 zo1 ho1h => xr vo1 (fun v2 => gd (kd ho1h a0 = 9) (Option.bind (rv ho1h a0 0) (fun b5 => gd (kd ho1h b5 = 1) (bd3 (fX0_isIn b5 x1 0 zo1 ho1h) (fun vo7 zo7 ho7h => bd3 (fX8_needState vo7 zo7 ho7h) (fun vo8 zo8 ho8h => xr vo8 (fun v9 => gd (kd ho8h a0 = 9) (Option.bind (rv ho8h a0 4) (fun b12 => gd (kd ho8h b12 = 2) (bd3 (fX1_outcomeOf b12 x1 x2 zo8 ho8h) (fun vo14 zo14 ho14h => some (.inl vo14, zo14, ho14h)))))) (fun x10 => some (.inr x10, zo8, ho8h)))))))) (fun x3 => some (.inr x3, zo1, ho1h)))
def bX8_wouldHappen_29  (a0 : Nat) (x1 : Int32) (x2 : Int32) (z : Nat) (h : AH) : Option ((Int32 ⊕ String) × Nat × AH) :=
  bX8_wouldHappen_30  a0 x1 x2 0 z h
def fX8_wouldHappen  (a0 : Nat) (x1 : Int32) (x2 : Int32) (z : Nat) (h : AH) : Option ((Int32 ⊕ String) × Nat × AH) :=
  gd (kd h a0 = 9) (Option.bind (rv h a0 0) (fun b2 => gd (kd h b2 = 1) (bd3 (fX0_has b2 x1 z h) (fun vo4 zo4 ho4h => (if vo4 = 0 then (bX8_wouldHappen_29  a0 x1 x2 zo4 ho4h) else (gd (kd ho4h a0 = 9) (Option.bind (rv ho4h a0 0) (fun b7 => gd (kd ho4h b7 = 1) (Option.bind (rv ho4h b7 0) (fun b9 => gd (kd ho4h b9 = 3) (bd3 (fX2_has b9 x2 zo4 ho4h) (fun vo11 zo11 ho11h => (if vo11 = 0 then (bX8_wouldHappen_29  a0 x1 x2 zo11 ho11h) else (bX8_wouldHappen_30  a0 x1 x2 1 zo11 ho11h))))))))))))))
theorem wbX8_wouldHappen_30R {g : JG} (hst : (jl g).stackTraces = false)   {a0 : Nat} {x1 : Int32} {x2 : Int32} {s0 : Int32} {z : Nat} {h : AH} {o : (Int32 ⊕ String) × Nat × AH} (hf : bX8_wouldHappen_30  a0 x1 x2 s0 z h = some o) (hv : (∃ v, o.1 = .inl v)) : J g MX8_wouldHappenR (jV g (xoI o.1, o.2.1, o.2.2) rmX8_wouldHappenR.cells rmX8_wouldHappenR.slots) 30 [some (.ref a0), some (.int x1), some (.int x2)] [.int s0] z h 0 0 := by
  unfold bX8_wouldHappen_30 at hf
  obtain ⟨vo1, zo1, ho1h, ho1, hf⟩ := rfs3 hf
  rcases xrs hf with ⟨v2, ev2, hf⟩ | ⟨x3, ev2, hf⟩
  · refine XS1v dX8_wouldHappen_30 (by have h9 := mX8_needThingR hst ho1 ⟨_, ev2⟩; rw [ev2] at h9; exact h9) tk_434 iX8_needThing ⟨by decide, by decide⟩ ⟨by decide, by decide⟩ (Nat.le_of_ble_eq_true rfl) ?_
    refine J_aload_n dX8_wouldHappen_33 rfl rfl ?_
    obtain ⟨k4, hf⟩ := gds hf
    obtain ⟨b5, rb5, hf⟩ := rfs hf
    refine G_8_0 dX8_wouldHappen_34 tk_247 k4 rb5 ?_
    refine J_iload_n dX8_wouldHappen_37 rfl rfl ?_
    refine J_iconst (v := 0) dX8_wouldHappen_38 (by decide) ?_
    obtain ⟨k6, hf⟩ := gds hf
    obtain ⟨vo7, zo7, ho7h, ho7, hf⟩ := rfs3 hf
    refine CV2i dX8_wouldHappen_39 (mX0_isIn hst ho7) tk_638 iX0_isIn k6 (by decide) rfl ⟨by decide, by decide⟩ ⟨by decide, by decide⟩ (Nat.le_of_ble_eq_true rfl) ?_
    obtain ⟨vo8, zo8, ho8h, ho8, hf⟩ := rfs3 hf
    rcases xrs hf with ⟨v9, ev9, hf⟩ | ⟨x10, ev9, hf⟩
    · refine XS1v dX8_wouldHappen_42 (by have h9 := mX8_needStateR hst ho8 ⟨_, ev9⟩; rw [ev9] at h9; exact h9) tk_553 iX8_needState ⟨by decide, by decide⟩ ⟨by decide, by decide⟩ (Nat.le_of_ble_eq_true rfl) ?_
      refine J_aload_n dX8_wouldHappen_45 rfl rfl ?_
      obtain ⟨k11, hf⟩ := gds hf
      obtain ⟨b12, rb12, hf⟩ := rfs hf
      refine G_8_4 dX8_wouldHappen_46 tk_251 k11 rb12 ?_
      refine J_iload_n dX8_wouldHappen_49 rfl rfl ?_
      refine J_iload_n dX8_wouldHappen_50 rfl rfl ?_
      obtain ⟨k13, hf⟩ := gds hf
      obtain ⟨vo14, zo14, ho14h, ho14, hf⟩ := rfs3 hf
      refine CV2i dX8_wouldHappen_51 (mX1_outcomeOf hst ho14) tk_747 iX1_outcomeOf k13 (by decide) rfl ⟨by decide, by decide⟩ ⟨by decide, by decide⟩ (Nat.le_of_ble_eq_true rfl) ?_
      cases hf
      exact jN_V (J_iretN dX8_wouldHappen_54 rfl (by decide) (by decide))
    · cases hf
      obtain ⟨_, hv⟩ := hv; cases hv
  · cases hf
    obtain ⟨_, hv⟩ := hv; cases hv
theorem wbX8_wouldHappen_29R {g : JG} (hst : (jl g).stackTraces = false)   {a0 : Nat} {x1 : Int32} {x2 : Int32} {z : Nat} {h : AH} {o : (Int32 ⊕ String) × Nat × AH} (hf : bX8_wouldHappen_29  a0 x1 x2 z h = some o) (hv : (∃ v, o.1 = .inl v)) : J g MX8_wouldHappenR (jV g (xoI o.1, o.2.1, o.2.2) rmX8_wouldHappenR.cells rmX8_wouldHappenR.slots) 29 [some (.ref a0), some (.int x1), some (.int x2)] [] z h 0 0 := by
  unfold bX8_wouldHappen_29 at hf
  refine J_iconst (v := 0) dX8_wouldHappen_29 (by decide) ?_
  refine J.sub (jsub_s (jsub_s (jsub_s (jsub_nil _)))) ?_
  refine J.widen (k' := 0) (n' := 0) (by decide) (by decide) ?_
  exact wbX8_wouldHappen_30R hst   hf hv
theorem wfX8_wouldHappenR {g : JG} (hst : (jl g).stackTraces = false)   {a0 : Nat} {x1 : Int32} {x2 : Int32} {z : Nat} {h : AH} {o : (Int32 ⊕ String) × Nat × AH} (hf : fX8_wouldHappen  a0 x1 x2 z h = some o) (hv : (∃ v, o.1 = .inl v)) : J g MX8_wouldHappenR (jV g (xoI o.1, o.2.1, o.2.2) rmX8_wouldHappenR.cells rmX8_wouldHappenR.slots) 0 [some (.ref a0), some (.int x1), some (.int x2)] [] z h 0 0 := by
  unfold fX8_wouldHappen at hf
  refine J_aload_n dX8_wouldHappen_0 rfl rfl ?_
  obtain ⟨k1, hf⟩ := gds hf
  obtain ⟨b2, rb2, hf⟩ := rfs hf
  refine G_8_0 dX8_wouldHappen_1 tk_247 k1 rb2 ?_
  refine J_iload_n dX8_wouldHappen_4 rfl rfl ?_
  obtain ⟨k3, hf⟩ := gds hf
  obtain ⟨vo4, zo4, ho4h, ho4, hf⟩ := rfs3 hf
  refine CV1i dX8_wouldHappen_5 (mX0_has hst ho4) tk_429 iX0_has k3 (by decide) rfl ⟨by decide, by decide⟩ ⟨by decide, by decide⟩ (Nat.le_of_ble_eq_true rfl) ?_
  rcases br hf with ⟨c5, hf⟩ | ⟨c5, hf⟩
  · refine J_if_eq (tgt := 29) dX8_wouldHappen_8 (by decide) (fun _ => ?_) (fun w => absurd c5 w)
    refine J.sub (jsub_s (jsub_s (jsub_s (jsub_nil _)))) ?_
    refine J.widen (k' := 0) (n' := 0) (by decide) (by decide) ?_
    exact wbX8_wouldHappen_29R hst   hf hv
  · refine J_if_eq (tgt := 29) dX8_wouldHappen_8 (by decide) (fun w => absurd w c5) (fun _ => ?_)
    refine J_aload_n dX8_wouldHappen_11 rfl rfl ?_
    obtain ⟨k6, hf⟩ := gds hf
    obtain ⟨b7, rb7, hf⟩ := rfs hf
    refine G_8_0 dX8_wouldHappen_12 tk_247 k6 rb7 ?_
    obtain ⟨k8, hf⟩ := gds hf
    obtain ⟨b9, rb9, hf⟩ := rfs hf
    refine G_0_0 dX8_wouldHappen_15 tk_92 k8 rb9 ?_
    refine J_iload_n dX8_wouldHappen_18 rfl rfl ?_
    obtain ⟨k10, hf⟩ := gds hf
    obtain ⟨vo11, zo11, ho11h, ho11, hf⟩ := rfs3 hf
    refine CV1i dX8_wouldHappen_19 (mX2_has hst ho11) tk_552 iX2_has k10 (by decide) rfl ⟨by decide, by decide⟩ ⟨by decide, by decide⟩ (Nat.le_of_ble_eq_true rfl) ?_
    rcases br hf with ⟨c12, hf⟩ | ⟨c12, hf⟩
    · refine J_if_eq (tgt := 29) dX8_wouldHappen_22 (by decide) (fun _ => ?_) (fun w => absurd c12 w)
      refine J.sub (jsub_s (jsub_s (jsub_s (jsub_nil _)))) ?_
      refine J.widen (k' := 0) (n' := 0) (by decide) (by decide) ?_
      exact wbX8_wouldHappen_29R hst   hf hv
    · refine J_if_eq (tgt := 29) dX8_wouldHappen_22 (by decide) (fun w => absurd w c12) (fun _ => ?_)
      refine J_iconst (v := 1) dX8_wouldHappen_25 (by decide) ?_
      refine J_goto (tgt := 30) dX8_wouldHappen_26 (by decide) ?_
      refine J.sub (jsub_s (jsub_s (jsub_s (jsub_nil _)))) ?_
      refine J.widen (k' := 0) (n' := 0) (by decide) (by decide) ?_
      exact wbX8_wouldHappen_30R hst   hf hv
theorem mX8_wouldHappenR {g : JG} (hst : (jl g).stackTraces = false) {a0 : Nat} {x1 : Int32} {x2 : Int32} {z : Nat} {h : AH} {o : (Int32 ⊕ String) × Nat × AH} (hf : fX8_wouldHappen a0 x1 x2 z h = some o) (hv : (∃ v, o.1 = .inl v)) : jMetX g yX8_wouldHappen (wj yX8_wouldHappen cX8_wouldHappen 3 (some .int)) rmX8_wouldHappenR [.ref a0, .int x1, .int x2] z h (xoI o.1, o.2.1, o.2.2) :=
  jMetX_mk (by decide) (Nat.le_of_ble_eq_true rfl) [some (.ref a0), some (.int x1), some (.int x2)] rfl (wfX8_wouldHappenR hst hf hv)
theorem wbX8_wouldHappen_30T {g : JG} (hst : (jl g).stackTraces = false)   {a0 : Nat} {x1 : Int32} {x2 : Int32} {s0 : Int32} {z : Nat} {h : AH} {o : (Int32 ⊕ String) × Nat × AH} (hf : bX8_wouldHappen_30  a0 x1 x2 s0 z h = some o) (hv : (∃ v, o.1 = .inr v)) : J g MX8_wouldHappenT (jV g (xoI o.1, o.2.1, o.2.2) rmX8_wouldHappenT.cells rmX8_wouldHappenT.slots) 30 [some (.ref a0), some (.int x1), some (.int x2)] [.int s0] z h 0 0 := by
  unfold bX8_wouldHappen_30 at hf
  obtain ⟨vo1, zo1, ho1h, ho1, hf⟩ := rfs3 hf
  rcases xrs hf with ⟨v2, ev2, hf⟩ | ⟨x3, ev2, hf⟩
  · refine XS1v dX8_wouldHappen_30 (by have h9 := mX8_needThingR hst ho1 ⟨_, ev2⟩; rw [ev2] at h9; exact h9) tk_434 iX8_needThing ⟨by decide, by decide⟩ ⟨by decide, by decide⟩ (Nat.le_of_ble_eq_true rfl) ?_
    refine J_aload_n dX8_wouldHappen_33 rfl rfl ?_
    obtain ⟨k4, hf⟩ := gds hf
    obtain ⟨b5, rb5, hf⟩ := rfs hf
    refine G_8_0 dX8_wouldHappen_34 tk_247 k4 rb5 ?_
    refine J_iload_n dX8_wouldHappen_37 rfl rfl ?_
    refine J_iconst (v := 0) dX8_wouldHappen_38 (by decide) ?_
    obtain ⟨k6, hf⟩ := gds hf
    obtain ⟨vo7, zo7, ho7h, ho7, hf⟩ := rfs3 hf
    refine CV2i dX8_wouldHappen_39 (mX0_isIn hst ho7) tk_638 iX0_isIn k6 (by decide) rfl ⟨by decide, by decide⟩ ⟨by decide, by decide⟩ (Nat.le_of_ble_eq_true rfl) ?_
    obtain ⟨vo8, zo8, ho8h, ho8, hf⟩ := rfs3 hf
    rcases xrs hf with ⟨v9, ev9, hf⟩ | ⟨x10, ev9, hf⟩
    · refine XS1v dX8_wouldHappen_42 (by have h9 := mX8_needStateR hst ho8 ⟨_, ev9⟩; rw [ev9] at h9; exact h9) tk_553 iX8_needState ⟨by decide, by decide⟩ ⟨by decide, by decide⟩ (Nat.le_of_ble_eq_true rfl) ?_
      refine J_aload_n dX8_wouldHappen_45 rfl rfl ?_
      obtain ⟨k11, hf⟩ := gds hf
      obtain ⟨b12, rb12, hf⟩ := rfs hf
      refine G_8_4 dX8_wouldHappen_46 tk_251 k11 rb12 ?_
      refine J_iload_n dX8_wouldHappen_49 rfl rfl ?_
      refine J_iload_n dX8_wouldHappen_50 rfl rfl ?_
      obtain ⟨k13, hf⟩ := gds hf
      obtain ⟨vo14, zo14, ho14h, ho14, hf⟩ := rfs3 hf
      refine CV2i dX8_wouldHappen_51 (mX1_outcomeOf hst ho14) tk_747 iX1_outcomeOf k13 (by decide) rfl ⟨by decide, by decide⟩ ⟨by decide, by decide⟩ (Nat.le_of_ble_eq_true rfl) ?_
      cases hf
      obtain ⟨_, hv⟩ := hv; cases hv
    · cases hf
      exact XS1t dX8_wouldHappen_42 (by have h9 := mX8_needStateT hst ho8 ⟨_, ev9⟩; rw [ev9] at h9; exact h9) tk_553 iX8_needState ⟨by decide, by decide⟩ ⟨by decide, by decide⟩ (Nat.le_of_ble_eq_true rfl) rfl (by decide) (by decide)
  · cases hf
    exact XS1t dX8_wouldHappen_30 (by have h9 := mX8_needThingT hst ho1 ⟨_, ev2⟩; rw [ev2] at h9; exact h9) tk_434 iX8_needThing ⟨by decide, by decide⟩ ⟨by decide, by decide⟩ (Nat.le_of_ble_eq_true rfl) rfl (by decide) (by decide)
theorem wbX8_wouldHappen_29T {g : JG} (hst : (jl g).stackTraces = false)   {a0 : Nat} {x1 : Int32} {x2 : Int32} {z : Nat} {h : AH} {o : (Int32 ⊕ String) × Nat × AH} (hf : bX8_wouldHappen_29  a0 x1 x2 z h = some o) (hv : (∃ v, o.1 = .inr v)) : J g MX8_wouldHappenT (jV g (xoI o.1, o.2.1, o.2.2) rmX8_wouldHappenT.cells rmX8_wouldHappenT.slots) 29 [some (.ref a0), some (.int x1), some (.int x2)] [] z h 0 0 := by
  unfold bX8_wouldHappen_29 at hf
  refine J_iconst (v := 0) dX8_wouldHappen_29 (by decide) ?_
  refine J.sub (jsub_s (jsub_s (jsub_s (jsub_nil _)))) ?_
  refine J.widen (k' := 0) (n' := 0) (by decide) (by decide) ?_
  exact wbX8_wouldHappen_30T hst   hf hv
theorem wfX8_wouldHappenT {g : JG} (hst : (jl g).stackTraces = false)   {a0 : Nat} {x1 : Int32} {x2 : Int32} {z : Nat} {h : AH} {o : (Int32 ⊕ String) × Nat × AH} (hf : fX8_wouldHappen  a0 x1 x2 z h = some o) (hv : (∃ v, o.1 = .inr v)) : J g MX8_wouldHappenT (jV g (xoI o.1, o.2.1, o.2.2) rmX8_wouldHappenT.cells rmX8_wouldHappenT.slots) 0 [some (.ref a0), some (.int x1), some (.int x2)] [] z h 0 0 := by
  unfold fX8_wouldHappen at hf
  refine J_aload_n dX8_wouldHappen_0 rfl rfl ?_
  obtain ⟨k1, hf⟩ := gds hf
  obtain ⟨b2, rb2, hf⟩ := rfs hf
  refine G_8_0 dX8_wouldHappen_1 tk_247 k1 rb2 ?_
  refine J_iload_n dX8_wouldHappen_4 rfl rfl ?_
  obtain ⟨k3, hf⟩ := gds hf
  obtain ⟨vo4, zo4, ho4h, ho4, hf⟩ := rfs3 hf
  refine CV1i dX8_wouldHappen_5 (mX0_has hst ho4) tk_429 iX0_has k3 (by decide) rfl ⟨by decide, by decide⟩ ⟨by decide, by decide⟩ (Nat.le_of_ble_eq_true rfl) ?_
  rcases br hf with ⟨c5, hf⟩ | ⟨c5, hf⟩
  · refine J_if_eq (tgt := 29) dX8_wouldHappen_8 (by decide) (fun _ => ?_) (fun w => absurd c5 w)
    refine J.sub (jsub_s (jsub_s (jsub_s (jsub_nil _)))) ?_
    refine J.widen (k' := 0) (n' := 0) (by decide) (by decide) ?_
    exact wbX8_wouldHappen_29T hst   hf hv
  · refine J_if_eq (tgt := 29) dX8_wouldHappen_8 (by decide) (fun w => absurd w c5) (fun _ => ?_)
    refine J_aload_n dX8_wouldHappen_11 rfl rfl ?_
    obtain ⟨k6, hf⟩ := gds hf
    obtain ⟨b7, rb7, hf⟩ := rfs hf
    refine G_8_0 dX8_wouldHappen_12 tk_247 k6 rb7 ?_
    obtain ⟨k8, hf⟩ := gds hf
    obtain ⟨b9, rb9, hf⟩ := rfs hf
    refine G_0_0 dX8_wouldHappen_15 tk_92 k8 rb9 ?_
    refine J_iload_n dX8_wouldHappen_18 rfl rfl ?_
    obtain ⟨k10, hf⟩ := gds hf
    obtain ⟨vo11, zo11, ho11h, ho11, hf⟩ := rfs3 hf
    refine CV1i dX8_wouldHappen_19 (mX2_has hst ho11) tk_552 iX2_has k10 (by decide) rfl ⟨by decide, by decide⟩ ⟨by decide, by decide⟩ (Nat.le_of_ble_eq_true rfl) ?_
    rcases br hf with ⟨c12, hf⟩ | ⟨c12, hf⟩
    · refine J_if_eq (tgt := 29) dX8_wouldHappen_22 (by decide) (fun _ => ?_) (fun w => absurd c12 w)
      refine J.sub (jsub_s (jsub_s (jsub_s (jsub_nil _)))) ?_
      refine J.widen (k' := 0) (n' := 0) (by decide) (by decide) ?_
      exact wbX8_wouldHappen_29T hst   hf hv
    · refine J_if_eq (tgt := 29) dX8_wouldHappen_22 (by decide) (fun w => absurd w c12) (fun _ => ?_)
      refine J_iconst (v := 1) dX8_wouldHappen_25 (by decide) ?_
      refine J_goto (tgt := 30) dX8_wouldHappen_26 (by decide) ?_
      refine J.sub (jsub_s (jsub_s (jsub_s (jsub_nil _)))) ?_
      refine J.widen (k' := 0) (n' := 0) (by decide) (by decide) ?_
      exact wbX8_wouldHappen_30T hst   hf hv
theorem mX8_wouldHappenT {g : JG} (hst : (jl g).stackTraces = false) {a0 : Nat} {x1 : Int32} {x2 : Int32} {z : Nat} {h : AH} {o : (Int32 ⊕ String) × Nat × AH} (hf : fX8_wouldHappen a0 x1 x2 z h = some o) (hv : (∃ v, o.1 = .inr v)) : jMetX g yX8_wouldHappen (wj yX8_wouldHappen cX8_wouldHappen 3 (some .int)) rmX8_wouldHappenT [.ref a0, .int x1, .int x2] z h (xoI o.1, o.2.1, o.2.2) :=
  jMetX_mk (by decide) (Nat.le_of_ble_eq_true rfl) [some (.ref a0), some (.int x1), some (.int x2)] rfl (wfX8_wouldHappenT hst hf hv)
def fX8_setPolicy  (a0 : Nat) (x1 : Int32) (z : Nat) (h : AH) : Option ((Int32 ⊕ String) × Nat × AH) :=
  bd3 (fX8_isWithin x1 0 2 z h) (fun vo1 zo1 ho1h => bd3 (fX8_needValue vo1 zo1 ho1h) (fun vo2 zo2 ho2h => xr vo2 (fun v3 => gd (kd ho2h a0 = 9) (Option.bind (rv ho2h a0 5) (fun b6 => Option.bind (rv ho2h a0 0) (fun b7 => gd (kd ho2h b6 = 4) (bd2 (fX3_keep b6 b7 zo2 ho2h) (fun zo9 ho9h => gd (kd ho9h a0 = 9) (Option.bind (rv ho9h a0 0) (fun b11 => gd (kd ho9h b11 = 1) (bl ((iv ho9h b11 10)) (fun v13 => Option.bind (rv ho9h a0 0) (fun b14 => gd (kd ho9h b14 = 1) (bl (wI ho9h b14 10 x1) (fun h16 => some (.inl v13, zo9, h16)))))))))))))) (fun x4 => some (.inr x4, zo2, ho2h))))
theorem wfX8_setPolicyR {g : JG} (hst : (jl g).stackTraces = false)   {a0 : Nat} {x1 : Int32} {z : Nat} {h : AH} {o : (Int32 ⊕ String) × Nat × AH} (hf : fX8_setPolicy  a0 x1 z h = some o) (hv : (∃ v, o.1 = .inl v)) : J g MX8_setPolicyR (jV g (xoI o.1, o.2.1, o.2.2) rmX8_setPolicyR.cells rmX8_setPolicyR.slots) 0 [some (.ref a0), some (.int x1), none] [] z h 0 0 := by
  unfold fX8_setPolicy at hf
  refine J_iload_n dX8_setPolicy_0 rfl rfl ?_
  refine J_iconst (v := 0) dX8_setPolicy_1 (by decide) ?_
  refine J_iconst (v := 2) dX8_setPolicy_2 (by decide) ?_
  obtain ⟨vo1, zo1, ho1h, ho1, hf⟩ := rfs3 hf
  refine CS3i (host := "") dX8_setPolicy_3 (mX8_isWithin hst ho1) tk_281 iX8_isWithin ⟨by decide, by decide⟩ ⟨by decide, by decide⟩ (Nat.le_of_ble_eq_true rfl) ?_
  obtain ⟨vo2, zo2, ho2h, ho2, hf⟩ := rfs3 hf
  rcases xrs hf with ⟨v3, ev3, hf⟩ | ⟨x4, ev3, hf⟩
  · refine XS1v dX8_setPolicy_6 (by have h9 := mX8_needValueR hst ho2 ⟨_, ev3⟩; rw [ev3] at h9; exact h9) tk_505 iX8_needValue ⟨by decide, by decide⟩ ⟨by decide, by decide⟩ (Nat.le_of_ble_eq_true rfl) ?_
    refine J_aload_n dX8_setPolicy_9 rfl rfl ?_
    obtain ⟨k5, hf⟩ := gds hf
    obtain ⟨b6, rb6, hf⟩ := rfs hf
    refine G_8_5 dX8_setPolicy_10 tk_252 k5 rb6 ?_
    refine J_aload_n dX8_setPolicy_13 rfl rfl ?_
    obtain ⟨b7, rb7, hf⟩ := rfs hf
    refine G_8_0 dX8_setPolicy_14 tk_247 k5 rb7 ?_
    obtain ⟨k8, hf⟩ := gds hf
    obtain ⟨zo9, ho9h, ho9, hf⟩ := rfs2 hf
    refine CV1v dX8_setPolicy_17 (mX3_keep hst ho9) tk_572 iX3_keep k8 (by decide) rfl ⟨by decide, by decide⟩ ⟨by decide, by decide⟩ (Nat.le_of_ble_eq_true rfl) ?_
    refine J_aload_n dX8_setPolicy_20 rfl rfl ?_
    obtain ⟨k10, hf⟩ := gds hf
    obtain ⟨b11, rb11, hf⟩ := rfs hf
    refine G_8_0 dX8_setPolicy_21 tk_247 k10 rb11 ?_
    obtain ⟨k12, hf⟩ := gds hf
    refine G_0_10 dX8_setPolicy_24 tk_117 k12 ?_
    obtain ⟨v13, ev13, hf⟩ := bls hf
    refine J_i ev13 ?_
    refine S_istore_n_2 dX8_setPolicy_27 rfl (by decide) ?_
    refine J_aload_n dX8_setPolicy_28 rfl rfl ?_
    obtain ⟨b14, rb14, hf⟩ := rfs hf
    refine G_8_0 dX8_setPolicy_29 tk_247 k10 rb14 ?_
    refine J_iload_n dX8_setPolicy_32 rfl rfl ?_
    obtain ⟨k15, hf⟩ := gds hf
    refine P_0_10 dX8_setPolicy_33 tk_117 k15 ?_
    obtain ⟨h16, eh16, hf⟩ := bls hf
    refine J_h eh16 ?_
    refine J_iload_n dX8_setPolicy_36 rfl rfl ?_
    cases hf
    exact jN_V (J_iretN dX8_setPolicy_37 rfl (by decide) (by decide))
  · cases hf
    obtain ⟨_, hv⟩ := hv; cases hv
theorem mX8_setPolicyR {g : JG} (hst : (jl g).stackTraces = false) {a0 : Nat} {x1 : Int32} {z : Nat} {h : AH} {o : (Int32 ⊕ String) × Nat × AH} (hf : fX8_setPolicy a0 x1 z h = some o) (hv : (∃ v, o.1 = .inl v)) : jMetX g yX8_setPolicy (wj yX8_setPolicy cX8_setPolicy 3 (some .int)) rmX8_setPolicyR [.ref a0, .int x1] z h (xoI o.1, o.2.1, o.2.2) :=
  jMetX_mk (by decide) (Nat.le_of_ble_eq_true rfl) [some (.ref a0), some (.int x1), none] rfl (wfX8_setPolicyR hst hf hv)
theorem wfX8_setPolicyT {g : JG} (hst : (jl g).stackTraces = false)   {a0 : Nat} {x1 : Int32} {z : Nat} {h : AH} {o : (Int32 ⊕ String) × Nat × AH} (hf : fX8_setPolicy  a0 x1 z h = some o) (hv : (∃ v, o.1 = .inr v)) : J g MX8_setPolicyT (jV g (xoI o.1, o.2.1, o.2.2) rmX8_setPolicyT.cells rmX8_setPolicyT.slots) 0 [some (.ref a0), some (.int x1), none] [] z h 0 0 := by
  unfold fX8_setPolicy at hf
  refine J_iload_n dX8_setPolicy_0 rfl rfl ?_
  refine J_iconst (v := 0) dX8_setPolicy_1 (by decide) ?_
  refine J_iconst (v := 2) dX8_setPolicy_2 (by decide) ?_
  obtain ⟨vo1, zo1, ho1h, ho1, hf⟩ := rfs3 hf
  refine CS3i (host := "") dX8_setPolicy_3 (mX8_isWithin hst ho1) tk_281 iX8_isWithin ⟨by decide, by decide⟩ ⟨by decide, by decide⟩ (Nat.le_of_ble_eq_true rfl) ?_
  obtain ⟨vo2, zo2, ho2h, ho2, hf⟩ := rfs3 hf
  rcases xrs hf with ⟨v3, ev3, hf⟩ | ⟨x4, ev3, hf⟩
  · refine XS1v dX8_setPolicy_6 (by have h9 := mX8_needValueR hst ho2 ⟨_, ev3⟩; rw [ev3] at h9; exact h9) tk_505 iX8_needValue ⟨by decide, by decide⟩ ⟨by decide, by decide⟩ (Nat.le_of_ble_eq_true rfl) ?_
    refine J_aload_n dX8_setPolicy_9 rfl rfl ?_
    obtain ⟨k5, hf⟩ := gds hf
    obtain ⟨b6, rb6, hf⟩ := rfs hf
    refine G_8_5 dX8_setPolicy_10 tk_252 k5 rb6 ?_
    refine J_aload_n dX8_setPolicy_13 rfl rfl ?_
    obtain ⟨b7, rb7, hf⟩ := rfs hf
    refine G_8_0 dX8_setPolicy_14 tk_247 k5 rb7 ?_
    obtain ⟨k8, hf⟩ := gds hf
    obtain ⟨zo9, ho9h, ho9, hf⟩ := rfs2 hf
    refine CV1v dX8_setPolicy_17 (mX3_keep hst ho9) tk_572 iX3_keep k8 (by decide) rfl ⟨by decide, by decide⟩ ⟨by decide, by decide⟩ (Nat.le_of_ble_eq_true rfl) ?_
    refine J_aload_n dX8_setPolicy_20 rfl rfl ?_
    obtain ⟨k10, hf⟩ := gds hf
    obtain ⟨b11, rb11, hf⟩ := rfs hf
    refine G_8_0 dX8_setPolicy_21 tk_247 k10 rb11 ?_
    obtain ⟨k12, hf⟩ := gds hf
    refine G_0_10 dX8_setPolicy_24 tk_117 k12 ?_
    obtain ⟨v13, ev13, hf⟩ := bls hf
    refine J_i ev13 ?_
    refine S_istore_n_2 dX8_setPolicy_27 rfl (by decide) ?_
    refine J_aload_n dX8_setPolicy_28 rfl rfl ?_
    obtain ⟨b14, rb14, hf⟩ := rfs hf
    refine G_8_0 dX8_setPolicy_29 tk_247 k10 rb14 ?_
    refine J_iload_n dX8_setPolicy_32 rfl rfl ?_
    obtain ⟨k15, hf⟩ := gds hf
    refine P_0_10 dX8_setPolicy_33 tk_117 k15 ?_
    obtain ⟨h16, eh16, hf⟩ := bls hf
    refine J_h eh16 ?_
    refine J_iload_n dX8_setPolicy_36 rfl rfl ?_
    cases hf
    obtain ⟨_, hv⟩ := hv; cases hv
  · cases hf
    exact XS1t dX8_setPolicy_6 (by have h9 := mX8_needValueT hst ho2 ⟨_, ev3⟩; rw [ev3] at h9; exact h9) tk_505 iX8_needValue ⟨by decide, by decide⟩ ⟨by decide, by decide⟩ (Nat.le_of_ble_eq_true rfl) rfl (by decide) (by decide)
theorem mX8_setPolicyT {g : JG} (hst : (jl g).stackTraces = false) {a0 : Nat} {x1 : Int32} {z : Nat} {h : AH} {o : (Int32 ⊕ String) × Nat × AH} (hf : fX8_setPolicy a0 x1 z h = some o) (hv : (∃ v, o.1 = .inr v)) : jMetX g yX8_setPolicy (wj yX8_setPolicy cX8_setPolicy 3 (some .int)) rmX8_setPolicyT [.ref a0, .int x1] z h (xoI o.1, o.2.1, o.2.2) :=
  jMetX_mk (by decide) (Nat.le_of_ble_eq_true rfl) [some (.ref a0), some (.int x1), none] rfl (wfX8_setPolicyT hst hf hv)
def fX8_setRule  (a0 : Nat) (x1 : Int32) (z : Nat) (h : AH) : Option ((Int32 ⊕ String) × Nat × AH) :=
  bd3 (fX8_isWithin x1 0 2 z h) (fun vo1 zo1 ho1h => bd3 (fX8_needValue vo1 zo1 ho1h) (fun vo2 zo2 ho2h => xr vo2 (fun v3 => gd (kd ho2h a0 = 9) (Option.bind (rv ho2h a0 5) (fun b6 => Option.bind (rv ho2h a0 0) (fun b7 => gd (kd ho2h b6 = 4) (bd2 (fX3_keep b6 b7 zo2 ho2h) (fun zo9 ho9h => gd (kd ho9h a0 = 9) (Option.bind (rv ho9h a0 0) (fun b11 => gd (kd ho9h b11 = 1) (bl ((iv ho9h b11 11)) (fun v13 => Option.bind (rv ho9h a0 0) (fun b14 => gd (kd ho9h b14 = 1) (bl (wI ho9h b14 11 x1) (fun h16 => some (.inl v13, zo9, h16)))))))))))))) (fun x4 => some (.inr x4, zo2, ho2h))))
theorem wfX8_setRuleR {g : JG} (hst : (jl g).stackTraces = false)   {a0 : Nat} {x1 : Int32} {z : Nat} {h : AH} {o : (Int32 ⊕ String) × Nat × AH} (hf : fX8_setRule  a0 x1 z h = some o) (hv : (∃ v, o.1 = .inl v)) : J g MX8_setRuleR (jV g (xoI o.1, o.2.1, o.2.2) rmX8_setRuleR.cells rmX8_setRuleR.slots) 0 [some (.ref a0), some (.int x1), none] [] z h 0 0 := by
  unfold fX8_setRule at hf
  refine J_iload_n dX8_setRule_0 rfl rfl ?_
  refine J_iconst (v := 0) dX8_setRule_1 (by decide) ?_
  refine J_iconst (v := 2) dX8_setRule_2 (by decide) ?_
  obtain ⟨vo1, zo1, ho1h, ho1, hf⟩ := rfs3 hf
  refine CS3i (host := "") dX8_setRule_3 (mX8_isWithin hst ho1) tk_281 iX8_isWithin ⟨by decide, by decide⟩ ⟨by decide, by decide⟩ (Nat.le_of_ble_eq_true rfl) ?_
  obtain ⟨vo2, zo2, ho2h, ho2, hf⟩ := rfs3 hf
  rcases xrs hf with ⟨v3, ev3, hf⟩ | ⟨x4, ev3, hf⟩
  · refine XS1v dX8_setRule_6 (by have h9 := mX8_needValueR hst ho2 ⟨_, ev3⟩; rw [ev3] at h9; exact h9) tk_505 iX8_needValue ⟨by decide, by decide⟩ ⟨by decide, by decide⟩ (Nat.le_of_ble_eq_true rfl) ?_
    refine J_aload_n dX8_setRule_9 rfl rfl ?_
    obtain ⟨k5, hf⟩ := gds hf
    obtain ⟨b6, rb6, hf⟩ := rfs hf
    refine G_8_5 dX8_setRule_10 tk_252 k5 rb6 ?_
    refine J_aload_n dX8_setRule_13 rfl rfl ?_
    obtain ⟨b7, rb7, hf⟩ := rfs hf
    refine G_8_0 dX8_setRule_14 tk_247 k5 rb7 ?_
    obtain ⟨k8, hf⟩ := gds hf
    obtain ⟨zo9, ho9h, ho9, hf⟩ := rfs2 hf
    refine CV1v dX8_setRule_17 (mX3_keep hst ho9) tk_572 iX3_keep k8 (by decide) rfl ⟨by decide, by decide⟩ ⟨by decide, by decide⟩ (Nat.le_of_ble_eq_true rfl) ?_
    refine J_aload_n dX8_setRule_20 rfl rfl ?_
    obtain ⟨k10, hf⟩ := gds hf
    obtain ⟨b11, rb11, hf⟩ := rfs hf
    refine G_8_0 dX8_setRule_21 tk_247 k10 rb11 ?_
    obtain ⟨k12, hf⟩ := gds hf
    refine G_0_11 dX8_setRule_24 tk_120 k12 ?_
    obtain ⟨v13, ev13, hf⟩ := bls hf
    refine J_i ev13 ?_
    refine S_istore_n_2 dX8_setRule_27 rfl (by decide) ?_
    refine J_aload_n dX8_setRule_28 rfl rfl ?_
    obtain ⟨b14, rb14, hf⟩ := rfs hf
    refine G_8_0 dX8_setRule_29 tk_247 k10 rb14 ?_
    refine J_iload_n dX8_setRule_32 rfl rfl ?_
    obtain ⟨k15, hf⟩ := gds hf
    refine P_0_11 dX8_setRule_33 tk_120 k15 ?_
    obtain ⟨h16, eh16, hf⟩ := bls hf
    refine J_h eh16 ?_
    refine J_iload_n dX8_setRule_36 rfl rfl ?_
    cases hf
    exact jN_V (J_iretN dX8_setRule_37 rfl (by decide) (by decide))
  · cases hf
    obtain ⟨_, hv⟩ := hv; cases hv
theorem mX8_setRuleR {g : JG} (hst : (jl g).stackTraces = false) {a0 : Nat} {x1 : Int32} {z : Nat} {h : AH} {o : (Int32 ⊕ String) × Nat × AH} (hf : fX8_setRule a0 x1 z h = some o) (hv : (∃ v, o.1 = .inl v)) : jMetX g yX8_setRule (wj yX8_setRule cX8_setRule 3 (some .int)) rmX8_setRuleR [.ref a0, .int x1] z h (xoI o.1, o.2.1, o.2.2) :=
  jMetX_mk (by decide) (Nat.le_of_ble_eq_true rfl) [some (.ref a0), some (.int x1), none] rfl (wfX8_setRuleR hst hf hv)
theorem wfX8_setRuleT {g : JG} (hst : (jl g).stackTraces = false)   {a0 : Nat} {x1 : Int32} {z : Nat} {h : AH} {o : (Int32 ⊕ String) × Nat × AH} (hf : fX8_setRule  a0 x1 z h = some o) (hv : (∃ v, o.1 = .inr v)) : J g MX8_setRuleT (jV g (xoI o.1, o.2.1, o.2.2) rmX8_setRuleT.cells rmX8_setRuleT.slots) 0 [some (.ref a0), some (.int x1), none] [] z h 0 0 := by
  unfold fX8_setRule at hf
  refine J_iload_n dX8_setRule_0 rfl rfl ?_
  refine J_iconst (v := 0) dX8_setRule_1 (by decide) ?_
  refine J_iconst (v := 2) dX8_setRule_2 (by decide) ?_
  obtain ⟨vo1, zo1, ho1h, ho1, hf⟩ := rfs3 hf
  refine CS3i (host := "") dX8_setRule_3 (mX8_isWithin hst ho1) tk_281 iX8_isWithin ⟨by decide, by decide⟩ ⟨by decide, by decide⟩ (Nat.le_of_ble_eq_true rfl) ?_
  obtain ⟨vo2, zo2, ho2h, ho2, hf⟩ := rfs3 hf
  rcases xrs hf with ⟨v3, ev3, hf⟩ | ⟨x4, ev3, hf⟩
  · refine XS1v dX8_setRule_6 (by have h9 := mX8_needValueR hst ho2 ⟨_, ev3⟩; rw [ev3] at h9; exact h9) tk_505 iX8_needValue ⟨by decide, by decide⟩ ⟨by decide, by decide⟩ (Nat.le_of_ble_eq_true rfl) ?_
    refine J_aload_n dX8_setRule_9 rfl rfl ?_
    obtain ⟨k5, hf⟩ := gds hf
    obtain ⟨b6, rb6, hf⟩ := rfs hf
    refine G_8_5 dX8_setRule_10 tk_252 k5 rb6 ?_
    refine J_aload_n dX8_setRule_13 rfl rfl ?_
    obtain ⟨b7, rb7, hf⟩ := rfs hf
    refine G_8_0 dX8_setRule_14 tk_247 k5 rb7 ?_
    obtain ⟨k8, hf⟩ := gds hf
    obtain ⟨zo9, ho9h, ho9, hf⟩ := rfs2 hf
    refine CV1v dX8_setRule_17 (mX3_keep hst ho9) tk_572 iX3_keep k8 (by decide) rfl ⟨by decide, by decide⟩ ⟨by decide, by decide⟩ (Nat.le_of_ble_eq_true rfl) ?_
    refine J_aload_n dX8_setRule_20 rfl rfl ?_
    obtain ⟨k10, hf⟩ := gds hf
    obtain ⟨b11, rb11, hf⟩ := rfs hf
    refine G_8_0 dX8_setRule_21 tk_247 k10 rb11 ?_
    obtain ⟨k12, hf⟩ := gds hf
    refine G_0_11 dX8_setRule_24 tk_120 k12 ?_
    obtain ⟨v13, ev13, hf⟩ := bls hf
    refine J_i ev13 ?_
    refine S_istore_n_2 dX8_setRule_27 rfl (by decide) ?_
    refine J_aload_n dX8_setRule_28 rfl rfl ?_
    obtain ⟨b14, rb14, hf⟩ := rfs hf
    refine G_8_0 dX8_setRule_29 tk_247 k10 rb14 ?_
    refine J_iload_n dX8_setRule_32 rfl rfl ?_
    obtain ⟨k15, hf⟩ := gds hf
    refine P_0_11 dX8_setRule_33 tk_120 k15 ?_
    obtain ⟨h16, eh16, hf⟩ := bls hf
    refine J_h eh16 ?_
    refine J_iload_n dX8_setRule_36 rfl rfl ?_
    cases hf
    obtain ⟨_, hv⟩ := hv; cases hv
  · cases hf
    exact XS1t dX8_setRule_6 (by have h9 := mX8_needValueT hst ho2 ⟨_, ev3⟩; rw [ev3] at h9; exact h9) tk_505 iX8_needValue ⟨by decide, by decide⟩ ⟨by decide, by decide⟩ (Nat.le_of_ble_eq_true rfl) rfl (by decide) (by decide)
theorem mX8_setRuleT {g : JG} (hst : (jl g).stackTraces = false) {a0 : Nat} {x1 : Int32} {z : Nat} {h : AH} {o : (Int32 ⊕ String) × Nat × AH} (hf : fX8_setRule a0 x1 z h = some o) (hv : (∃ v, o.1 = .inr v)) : jMetX g yX8_setRule (wj yX8_setRule cX8_setRule 3 (some .int)) rmX8_setRuleT [.ref a0, .int x1] z h (xoI o.1, o.2.1, o.2.2) :=
  jMetX_mk (by decide) (Nat.le_of_ble_eq_true rfl) [some (.ref a0), some (.int x1), none] rfl (wfX8_setRuleT hst hf hv)
def fX8_setBudget  (a0 : Nat) (x1 : Int32) (z : Nat) (h : AH) : Option ((Int32 ⊕ String) × Nat × AH) :=
  bd3 (fX8_isWithin x1 1 9 z h) (fun vo1 zo1 ho1h => bd3 (fX8_needValue vo1 zo1 ho1h) (fun vo2 zo2 ho2h => xr vo2 (fun v3 => gd (kd ho2h a0 = 9) (Option.bind (rv ho2h a0 5) (fun b6 => Option.bind (rv ho2h a0 0) (fun b7 => gd (kd ho2h b6 = 4) (bd2 (fX3_keep b6 b7 zo2 ho2h) (fun zo9 ho9h => gd (kd ho9h a0 = 9) (Option.bind (rv ho9h a0 0) (fun b11 => gd (kd ho9h b11 = 1) (bl ((iv ho9h b11 12)) (fun v13 => Option.bind (rv ho9h a0 0) (fun b14 => gd (kd ho9h b14 = 1) (bl (wI ho9h b14 12 x1) (fun h16 => some (.inl v13, zo9, h16)))))))))))))) (fun x4 => some (.inr x4, zo2, ho2h))))
theorem wfX8_setBudgetR {g : JG} (hst : (jl g).stackTraces = false)   {a0 : Nat} {x1 : Int32} {z : Nat} {h : AH} {o : (Int32 ⊕ String) × Nat × AH} (hf : fX8_setBudget  a0 x1 z h = some o) (hv : (∃ v, o.1 = .inl v)) : J g MX8_setBudgetR (jV g (xoI o.1, o.2.1, o.2.2) rmX8_setBudgetR.cells rmX8_setBudgetR.slots) 0 [some (.ref a0), some (.int x1), none] [] z h 0 0 := by
  unfold fX8_setBudget at hf
  refine J_iload_n dX8_setBudget_0 rfl rfl ?_
  refine J_iconst (v := 1) dX8_setBudget_1 (by decide) ?_
  refine J_bipush (v := 9) dX8_setBudget_2 (by decide) ?_
  obtain ⟨vo1, zo1, ho1h, ho1, hf⟩ := rfs3 hf
  refine CS3i (host := "") dX8_setBudget_4 (mX8_isWithin hst ho1) tk_281 iX8_isWithin ⟨by decide, by decide⟩ ⟨by decide, by decide⟩ (Nat.le_of_ble_eq_true rfl) ?_
  obtain ⟨vo2, zo2, ho2h, ho2, hf⟩ := rfs3 hf
  rcases xrs hf with ⟨v3, ev3, hf⟩ | ⟨x4, ev3, hf⟩
  · refine XS1v dX8_setBudget_7 (by have h9 := mX8_needValueR hst ho2 ⟨_, ev3⟩; rw [ev3] at h9; exact h9) tk_505 iX8_needValue ⟨by decide, by decide⟩ ⟨by decide, by decide⟩ (Nat.le_of_ble_eq_true rfl) ?_
    refine J_aload_n dX8_setBudget_10 rfl rfl ?_
    obtain ⟨k5, hf⟩ := gds hf
    obtain ⟨b6, rb6, hf⟩ := rfs hf
    refine G_8_5 dX8_setBudget_11 tk_252 k5 rb6 ?_
    refine J_aload_n dX8_setBudget_14 rfl rfl ?_
    obtain ⟨b7, rb7, hf⟩ := rfs hf
    refine G_8_0 dX8_setBudget_15 tk_247 k5 rb7 ?_
    obtain ⟨k8, hf⟩ := gds hf
    obtain ⟨zo9, ho9h, ho9, hf⟩ := rfs2 hf
    refine CV1v dX8_setBudget_18 (mX3_keep hst ho9) tk_572 iX3_keep k8 (by decide) rfl ⟨by decide, by decide⟩ ⟨by decide, by decide⟩ (Nat.le_of_ble_eq_true rfl) ?_
    refine J_aload_n dX8_setBudget_21 rfl rfl ?_
    obtain ⟨k10, hf⟩ := gds hf
    obtain ⟨b11, rb11, hf⟩ := rfs hf
    refine G_8_0 dX8_setBudget_22 tk_247 k10 rb11 ?_
    obtain ⟨k12, hf⟩ := gds hf
    refine G_0_12 dX8_setBudget_25 tk_124 k12 ?_
    obtain ⟨v13, ev13, hf⟩ := bls hf
    refine J_i ev13 ?_
    refine S_istore_n_2 dX8_setBudget_28 rfl (by decide) ?_
    refine J_aload_n dX8_setBudget_29 rfl rfl ?_
    obtain ⟨b14, rb14, hf⟩ := rfs hf
    refine G_8_0 dX8_setBudget_30 tk_247 k10 rb14 ?_
    refine J_iload_n dX8_setBudget_33 rfl rfl ?_
    obtain ⟨k15, hf⟩ := gds hf
    refine P_0_12 dX8_setBudget_34 tk_124 k15 ?_
    obtain ⟨h16, eh16, hf⟩ := bls hf
    refine J_h eh16 ?_
    refine J_iload_n dX8_setBudget_37 rfl rfl ?_
    cases hf
    exact jN_V (J_iretN dX8_setBudget_38 rfl (by decide) (by decide))
  · cases hf
    obtain ⟨_, hv⟩ := hv; cases hv
theorem mX8_setBudgetR {g : JG} (hst : (jl g).stackTraces = false) {a0 : Nat} {x1 : Int32} {z : Nat} {h : AH} {o : (Int32 ⊕ String) × Nat × AH} (hf : fX8_setBudget a0 x1 z h = some o) (hv : (∃ v, o.1 = .inl v)) : jMetX g yX8_setBudget (wj yX8_setBudget cX8_setBudget 3 (some .int)) rmX8_setBudgetR [.ref a0, .int x1] z h (xoI o.1, o.2.1, o.2.2) :=
  jMetX_mk (by decide) (Nat.le_of_ble_eq_true rfl) [some (.ref a0), some (.int x1), none] rfl (wfX8_setBudgetR hst hf hv)
theorem wfX8_setBudgetT {g : JG} (hst : (jl g).stackTraces = false)   {a0 : Nat} {x1 : Int32} {z : Nat} {h : AH} {o : (Int32 ⊕ String) × Nat × AH} (hf : fX8_setBudget  a0 x1 z h = some o) (hv : (∃ v, o.1 = .inr v)) : J g MX8_setBudgetT (jV g (xoI o.1, o.2.1, o.2.2) rmX8_setBudgetT.cells rmX8_setBudgetT.slots) 0 [some (.ref a0), some (.int x1), none] [] z h 0 0 := by
  unfold fX8_setBudget at hf
  refine J_iload_n dX8_setBudget_0 rfl rfl ?_
  refine J_iconst (v := 1) dX8_setBudget_1 (by decide) ?_
  refine J_bipush (v := 9) dX8_setBudget_2 (by decide) ?_
  obtain ⟨vo1, zo1, ho1h, ho1, hf⟩ := rfs3 hf
  refine CS3i (host := "") dX8_setBudget_4 (mX8_isWithin hst ho1) tk_281 iX8_isWithin ⟨by decide, by decide⟩ ⟨by decide, by decide⟩ (Nat.le_of_ble_eq_true rfl) ?_
  obtain ⟨vo2, zo2, ho2h, ho2, hf⟩ := rfs3 hf
  rcases xrs hf with ⟨v3, ev3, hf⟩ | ⟨x4, ev3, hf⟩
  · refine XS1v dX8_setBudget_7 (by have h9 := mX8_needValueR hst ho2 ⟨_, ev3⟩; rw [ev3] at h9; exact h9) tk_505 iX8_needValue ⟨by decide, by decide⟩ ⟨by decide, by decide⟩ (Nat.le_of_ble_eq_true rfl) ?_
    refine J_aload_n dX8_setBudget_10 rfl rfl ?_
    obtain ⟨k5, hf⟩ := gds hf
    obtain ⟨b6, rb6, hf⟩ := rfs hf
    refine G_8_5 dX8_setBudget_11 tk_252 k5 rb6 ?_
    refine J_aload_n dX8_setBudget_14 rfl rfl ?_
    obtain ⟨b7, rb7, hf⟩ := rfs hf
    refine G_8_0 dX8_setBudget_15 tk_247 k5 rb7 ?_
    obtain ⟨k8, hf⟩ := gds hf
    obtain ⟨zo9, ho9h, ho9, hf⟩ := rfs2 hf
    refine CV1v dX8_setBudget_18 (mX3_keep hst ho9) tk_572 iX3_keep k8 (by decide) rfl ⟨by decide, by decide⟩ ⟨by decide, by decide⟩ (Nat.le_of_ble_eq_true rfl) ?_
    refine J_aload_n dX8_setBudget_21 rfl rfl ?_
    obtain ⟨k10, hf⟩ := gds hf
    obtain ⟨b11, rb11, hf⟩ := rfs hf
    refine G_8_0 dX8_setBudget_22 tk_247 k10 rb11 ?_
    obtain ⟨k12, hf⟩ := gds hf
    refine G_0_12 dX8_setBudget_25 tk_124 k12 ?_
    obtain ⟨v13, ev13, hf⟩ := bls hf
    refine J_i ev13 ?_
    refine S_istore_n_2 dX8_setBudget_28 rfl (by decide) ?_
    refine J_aload_n dX8_setBudget_29 rfl rfl ?_
    obtain ⟨b14, rb14, hf⟩ := rfs hf
    refine G_8_0 dX8_setBudget_30 tk_247 k10 rb14 ?_
    refine J_iload_n dX8_setBudget_33 rfl rfl ?_
    obtain ⟨k15, hf⟩ := gds hf
    refine P_0_12 dX8_setBudget_34 tk_124 k15 ?_
    obtain ⟨h16, eh16, hf⟩ := bls hf
    refine J_h eh16 ?_
    refine J_iload_n dX8_setBudget_37 rfl rfl ?_
    cases hf
    obtain ⟨_, hv⟩ := hv; cases hv
  · cases hf
    exact XS1t dX8_setBudget_7 (by have h9 := mX8_needValueT hst ho2 ⟨_, ev3⟩; rw [ev3] at h9; exact h9) tk_505 iX8_needValue ⟨by decide, by decide⟩ ⟨by decide, by decide⟩ (Nat.le_of_ble_eq_true rfl) rfl (by decide) (by decide)
theorem mX8_setBudgetT {g : JG} (hst : (jl g).stackTraces = false) {a0 : Nat} {x1 : Int32} {z : Nat} {h : AH} {o : (Int32 ⊕ String) × Nat × AH} (hf : fX8_setBudget a0 x1 z h = some o) (hv : (∃ v, o.1 = .inr v)) : jMetX g yX8_setBudget (wj yX8_setBudget cX8_setBudget 3 (some .int)) rmX8_setBudgetT [.ref a0, .int x1] z h (xoI o.1, o.2.1, o.2.2) :=
  jMetX_mk (by decide) (Nat.le_of_ble_eq_true rfl) [some (.ref a0), some (.int x1), none] rfl (wfX8_setBudgetT hst hf hv)
def fX8_probe  (a0 : Nat) (x1 : Int32) (z : Nat) (h : AH) : Option ((Int32 ⊕ String) × Nat × AH) :=
  gd (kd h a0 = 9) (Option.bind (rv h a0 0) (fun b2 => gd (kd h b2 = 1) (bd3 (fX0_has b2 x1 z h) (fun vo4 zo4 ho4h => bd3 (fX8_needThing vo4 zo4 ho4h) (fun vo5 zo5 ho5h => xr vo5 (fun v6 => gd (kd ho5h a0 = 9) (Option.bind (rv ho5h a0 0) (fun b9 => gd (kd ho5h b9 = 1) (bd3 (fX0_isIn b9 x1 1 zo5 ho5h) (fun vo11 zo11 ho11h => bd3 (fX8_needState vo11 zo11 ho11h) (fun vo12 zo12 ho12h => xr vo12 (fun v13 => gd (kd ho12h a0 = 9) (Option.bind (rv ho12h a0 5) (fun b16 => Option.bind (rv ho12h a0 0) (fun b17 => gd (kd ho12h b16 = 4) (bd2 (fX3_keep b16 b17 zo12 ho12h) (fun zo19 ho19h => gd (kd ho19h a0 = 9) (Option.bind (rv ho19h a0 4) (fun b21 => gd (kd ho19h b21 = 2) (bd3 (fX1_startProbe b21 x1 zo19 ho19h) (fun vo23 zo23 ho23h => some (.inl vo23, zo23, ho23h))))))))))) (fun x14 => some (.inr x14, zo12, ho12h)))))))) (fun x7 => some (.inr x7, zo5, ho5h)))))))
theorem wfX8_probeR {g : JG} (hst : (jl g).stackTraces = false)   {a0 : Nat} {x1 : Int32} {z : Nat} {h : AH} {o : (Int32 ⊕ String) × Nat × AH} (hf : fX8_probe  a0 x1 z h = some o) (hv : (∃ v, o.1 = .inl v)) : J g MX8_probeR (jV g (xoI o.1, o.2.1, o.2.2) rmX8_probeR.cells rmX8_probeR.slots) 0 [some (.ref a0), some (.int x1)] [] z h 0 0 := by
  unfold fX8_probe at hf
  refine J_aload_n dX8_probe_0 rfl rfl ?_
  obtain ⟨k1, hf⟩ := gds hf
  obtain ⟨b2, rb2, hf⟩ := rfs hf
  refine G_8_0 dX8_probe_1 tk_247 k1 rb2 ?_
  refine J_iload_n dX8_probe_4 rfl rfl ?_
  obtain ⟨k3, hf⟩ := gds hf
  obtain ⟨vo4, zo4, ho4h, ho4, hf⟩ := rfs3 hf
  refine CV1i dX8_probe_5 (mX0_has hst ho4) tk_429 iX0_has k3 (by decide) rfl ⟨by decide, by decide⟩ ⟨by decide, by decide⟩ (Nat.le_of_ble_eq_true rfl) ?_
  obtain ⟨vo5, zo5, ho5h, ho5, hf⟩ := rfs3 hf
  rcases xrs hf with ⟨v6, ev6, hf⟩ | ⟨x7, ev6, hf⟩
  · refine XS1v dX8_probe_8 (by have h9 := mX8_needThingR hst ho5 ⟨_, ev6⟩; rw [ev6] at h9; exact h9) tk_434 iX8_needThing ⟨by decide, by decide⟩ ⟨by decide, by decide⟩ (Nat.le_of_ble_eq_true rfl) ?_
    refine J_aload_n dX8_probe_11 rfl rfl ?_
    obtain ⟨k8, hf⟩ := gds hf
    obtain ⟨b9, rb9, hf⟩ := rfs hf
    refine G_8_0 dX8_probe_12 tk_247 k8 rb9 ?_
    refine J_iload_n dX8_probe_15 rfl rfl ?_
    refine J_iconst (v := 1) dX8_probe_16 (by decide) ?_
    obtain ⟨k10, hf⟩ := gds hf
    obtain ⟨vo11, zo11, ho11h, ho11, hf⟩ := rfs3 hf
    refine CV2i dX8_probe_17 (mX0_isIn hst ho11) tk_638 iX0_isIn k10 (by decide) rfl ⟨by decide, by decide⟩ ⟨by decide, by decide⟩ (Nat.le_of_ble_eq_true rfl) ?_
    obtain ⟨vo12, zo12, ho12h, ho12, hf⟩ := rfs3 hf
    rcases xrs hf with ⟨v13, ev13, hf⟩ | ⟨x14, ev13, hf⟩
    · refine XS1v dX8_probe_20 (by have h9 := mX8_needStateR hst ho12 ⟨_, ev13⟩; rw [ev13] at h9; exact h9) tk_553 iX8_needState ⟨by decide, by decide⟩ ⟨by decide, by decide⟩ (Nat.le_of_ble_eq_true rfl) ?_
      refine J_aload_n dX8_probe_23 rfl rfl ?_
      obtain ⟨k15, hf⟩ := gds hf
      obtain ⟨b16, rb16, hf⟩ := rfs hf
      refine G_8_5 dX8_probe_24 tk_252 k15 rb16 ?_
      refine J_aload_n dX8_probe_27 rfl rfl ?_
      obtain ⟨b17, rb17, hf⟩ := rfs hf
      refine G_8_0 dX8_probe_28 tk_247 k15 rb17 ?_
      obtain ⟨k18, hf⟩ := gds hf
      obtain ⟨zo19, ho19h, ho19, hf⟩ := rfs2 hf
      refine CV1v dX8_probe_31 (mX3_keep hst ho19) tk_572 iX3_keep k18 (by decide) rfl ⟨by decide, by decide⟩ ⟨by decide, by decide⟩ (Nat.le_of_ble_eq_true rfl) ?_
      refine J_aload_n dX8_probe_34 rfl rfl ?_
      obtain ⟨k20, hf⟩ := gds hf
      obtain ⟨b21, rb21, hf⟩ := rfs hf
      refine G_8_4 dX8_probe_35 tk_251 k20 rb21 ?_
      refine J_iload_n dX8_probe_38 rfl rfl ?_
      obtain ⟨k22, hf⟩ := gds hf
      obtain ⟨vo23, zo23, ho23h, ho23, hf⟩ := rfs3 hf
      refine CV1i dX8_probe_39 (mX1_startProbe hst ho23) tk_776 iX1_startProbe k22 (by decide) rfl ⟨by decide, by decide⟩ ⟨by decide, by decide⟩ (Nat.le_of_ble_eq_true rfl) ?_
      cases hf
      exact jN_V (J_iretN dX8_probe_42 rfl (by decide) (by decide))
    · cases hf
      obtain ⟨_, hv⟩ := hv; cases hv
  · cases hf
    obtain ⟨_, hv⟩ := hv; cases hv
theorem mX8_probeR {g : JG} (hst : (jl g).stackTraces = false) {a0 : Nat} {x1 : Int32} {z : Nat} {h : AH} {o : (Int32 ⊕ String) × Nat × AH} (hf : fX8_probe a0 x1 z h = some o) (hv : (∃ v, o.1 = .inl v)) : jMetX g yX8_probe (wj yX8_probe cX8_probe 2 (some .int)) rmX8_probeR [.ref a0, .int x1] z h (xoI o.1, o.2.1, o.2.2) :=
  jMetX_mk (by decide) (Nat.le_of_ble_eq_true rfl) [some (.ref a0), some (.int x1)] rfl (wfX8_probeR hst hf hv)
theorem wfX8_probeT {g : JG} (hst : (jl g).stackTraces = false)   {a0 : Nat} {x1 : Int32} {z : Nat} {h : AH} {o : (Int32 ⊕ String) × Nat × AH} (hf : fX8_probe  a0 x1 z h = some o) (hv : (∃ v, o.1 = .inr v)) : J g MX8_probeT (jV g (xoI o.1, o.2.1, o.2.2) rmX8_probeT.cells rmX8_probeT.slots) 0 [some (.ref a0), some (.int x1)] [] z h 0 0 := by
  unfold fX8_probe at hf
  refine J_aload_n dX8_probe_0 rfl rfl ?_
  obtain ⟨k1, hf⟩ := gds hf
  obtain ⟨b2, rb2, hf⟩ := rfs hf
  refine G_8_0 dX8_probe_1 tk_247 k1 rb2 ?_
  refine J_iload_n dX8_probe_4 rfl rfl ?_
  obtain ⟨k3, hf⟩ := gds hf
  obtain ⟨vo4, zo4, ho4h, ho4, hf⟩ := rfs3 hf
  refine CV1i dX8_probe_5 (mX0_has hst ho4) tk_429 iX0_has k3 (by decide) rfl ⟨by decide, by decide⟩ ⟨by decide, by decide⟩ (Nat.le_of_ble_eq_true rfl) ?_
  obtain ⟨vo5, zo5, ho5h, ho5, hf⟩ := rfs3 hf
  rcases xrs hf with ⟨v6, ev6, hf⟩ | ⟨x7, ev6, hf⟩
  · refine XS1v dX8_probe_8 (by have h9 := mX8_needThingR hst ho5 ⟨_, ev6⟩; rw [ev6] at h9; exact h9) tk_434 iX8_needThing ⟨by decide, by decide⟩ ⟨by decide, by decide⟩ (Nat.le_of_ble_eq_true rfl) ?_
    refine J_aload_n dX8_probe_11 rfl rfl ?_
    obtain ⟨k8, hf⟩ := gds hf
    obtain ⟨b9, rb9, hf⟩ := rfs hf
    refine G_8_0 dX8_probe_12 tk_247 k8 rb9 ?_
    refine J_iload_n dX8_probe_15 rfl rfl ?_
    refine J_iconst (v := 1) dX8_probe_16 (by decide) ?_
    obtain ⟨k10, hf⟩ := gds hf
    obtain ⟨vo11, zo11, ho11h, ho11, hf⟩ := rfs3 hf
    refine CV2i dX8_probe_17 (mX0_isIn hst ho11) tk_638 iX0_isIn k10 (by decide) rfl ⟨by decide, by decide⟩ ⟨by decide, by decide⟩ (Nat.le_of_ble_eq_true rfl) ?_
    obtain ⟨vo12, zo12, ho12h, ho12, hf⟩ := rfs3 hf
    rcases xrs hf with ⟨v13, ev13, hf⟩ | ⟨x14, ev13, hf⟩
    · refine XS1v dX8_probe_20 (by have h9 := mX8_needStateR hst ho12 ⟨_, ev13⟩; rw [ev13] at h9; exact h9) tk_553 iX8_needState ⟨by decide, by decide⟩ ⟨by decide, by decide⟩ (Nat.le_of_ble_eq_true rfl) ?_
      refine J_aload_n dX8_probe_23 rfl rfl ?_
      obtain ⟨k15, hf⟩ := gds hf
      obtain ⟨b16, rb16, hf⟩ := rfs hf
      refine G_8_5 dX8_probe_24 tk_252 k15 rb16 ?_
      refine J_aload_n dX8_probe_27 rfl rfl ?_
      obtain ⟨b17, rb17, hf⟩ := rfs hf
      refine G_8_0 dX8_probe_28 tk_247 k15 rb17 ?_
      obtain ⟨k18, hf⟩ := gds hf
      obtain ⟨zo19, ho19h, ho19, hf⟩ := rfs2 hf
      refine CV1v dX8_probe_31 (mX3_keep hst ho19) tk_572 iX3_keep k18 (by decide) rfl ⟨by decide, by decide⟩ ⟨by decide, by decide⟩ (Nat.le_of_ble_eq_true rfl) ?_
      refine J_aload_n dX8_probe_34 rfl rfl ?_
      obtain ⟨k20, hf⟩ := gds hf
      obtain ⟨b21, rb21, hf⟩ := rfs hf
      refine G_8_4 dX8_probe_35 tk_251 k20 rb21 ?_
      refine J_iload_n dX8_probe_38 rfl rfl ?_
      obtain ⟨k22, hf⟩ := gds hf
      obtain ⟨vo23, zo23, ho23h, ho23, hf⟩ := rfs3 hf
      refine CV1i dX8_probe_39 (mX1_startProbe hst ho23) tk_776 iX1_startProbe k22 (by decide) rfl ⟨by decide, by decide⟩ ⟨by decide, by decide⟩ (Nat.le_of_ble_eq_true rfl) ?_
      cases hf
      obtain ⟨_, hv⟩ := hv; cases hv
    · cases hf
      exact XS1t dX8_probe_20 (by have h9 := mX8_needStateT hst ho12 ⟨_, ev13⟩; rw [ev13] at h9; exact h9) tk_553 iX8_needState ⟨by decide, by decide⟩ ⟨by decide, by decide⟩ (Nat.le_of_ble_eq_true rfl) rfl (by decide) (by decide)
  · cases hf
    exact XS1t dX8_probe_8 (by have h9 := mX8_needThingT hst ho5 ⟨_, ev6⟩; rw [ev6] at h9; exact h9) tk_434 iX8_needThing ⟨by decide, by decide⟩ ⟨by decide, by decide⟩ (Nat.le_of_ble_eq_true rfl) rfl (by decide) (by decide)
theorem mX8_probeT {g : JG} (hst : (jl g).stackTraces = false) {a0 : Nat} {x1 : Int32} {z : Nat} {h : AH} {o : (Int32 ⊕ String) × Nat × AH} (hf : fX8_probe a0 x1 z h = some o) (hv : (∃ v, o.1 = .inr v)) : jMetX g yX8_probe (wj yX8_probe cX8_probe 2 (some .int)) rmX8_probeT [.ref a0, .int x1] z h (xoI o.1, o.2.1, o.2.2) :=
  jMetX_mk (by decide) (Nat.le_of_ble_eq_true rfl) [some (.ref a0), some (.int x1)] rfl (wfX8_probeT hst hf hv)
def fX8_messages  (a0 : Nat) (z : Nat) (h : AH) : Option (Int32 × Nat × AH) :=
  gd (kd h a0 = 9) (Option.bind (rv h a0 0) (fun b2 => gd (kd h b2 = 1) (Option.bind (rv h b2 1) (fun b4 => gd (kd h b4 = 5) (some ((iv h b4 5), z, h))))))
theorem wfX8_messages {g : JG} (hst : (jl g).stackTraces = false)   {a0 : Nat} {z : Nat} {h : AH} {o : Int32 × Nat × AH} (hf : fX8_messages  a0 z h = some o) : J g MX8_messages (jN g (some (.int o.1), o.2.1, o.2.2) rmX8_messages.cells rmX8_messages.slots) 0 [some (.ref a0)] [] z h 0 0 := by
  unfold fX8_messages at hf
  refine J_aload_n dX8_messages_0 rfl rfl ?_
  obtain ⟨k1, hf⟩ := gds hf
  obtain ⟨b2, rb2, hf⟩ := rfs hf
  refine G_8_0 dX8_messages_1 tk_247 k1 rb2 ?_
  obtain ⟨k3, hf⟩ := gds hf
  obtain ⟨b4, rb4, hf⟩ := rfs hf
  refine G_0_1 dX8_messages_4 tk_95 k3 rb4 ?_
  obtain ⟨k5, hf⟩ := gds hf
  refine G_4_5 dX8_messages_7 tk_76 k5 ?_
  cases hf
  exact J_iretN dX8_messages_10 rfl (by decide) (by decide)
theorem mX8_messages {g : JG} (hst : (jl g).stackTraces = false) {a0 : Nat} {z : Nat} {h : AH} {o : Int32 × Nat × AH} (hf : fX8_messages a0 z h = some o) : jMet g yX8_messages (wj yX8_messages cX8_messages 1 (some .int)) rmX8_messages [.ref a0] z h (some (.int o.1), o.2.1, o.2.2) :=
  jMet_mk (by decide) (Nat.le_of_ble_eq_true rfl) [some (.ref a0)] rfl (wfX8_messages hst hf)
def fX8_message  (a0 : Nat) (x1 : Int32) (x2 : Int32) (z : Nat) (h : AH) : Option ((Int32 ⊕ String) × Nat × AH) :=
  bd3 (fX8_isWithin x2 0 4 z h) (fun vo1 zo1 ho1h => bd3 (fX8_needValue vo1 zo1 ho1h) (fun vo2 zo2 ho2h => xr vo2 (fun v3 => gd (kd ho2h a0 = 9) (Option.bind (rv ho2h a0 0) (fun b6 => gd (kd ho2h b6 = 1) (Option.bind (rv ho2h b6 1) (fun b8 => gd (kd ho2h b8 = 5) (bd3 (fX4_property b8 x1 x2 zo2 ho2h) (fun vo10 zo10 ho10h => some (.inl vo10, zo10, ho10h)))))))) (fun x4 => some (.inr x4, zo2, ho2h))))
theorem wfX8_messageR {g : JG} (hst : (jl g).stackTraces = false)   {a0 : Nat} {x1 : Int32} {x2 : Int32} {z : Nat} {h : AH} {o : (Int32 ⊕ String) × Nat × AH} (hf : fX8_message  a0 x1 x2 z h = some o) (hv : (∃ v, o.1 = .inl v)) : J g MX8_messageR (jV g (xoI o.1, o.2.1, o.2.2) rmX8_messageR.cells rmX8_messageR.slots) 0 [some (.ref a0), some (.int x1), some (.int x2)] [] z h 0 0 := by
  unfold fX8_message at hf
  refine J_iload_n dX8_message_0 rfl rfl ?_
  refine J_iconst (v := 0) dX8_message_1 (by decide) ?_
  refine J_iconst (v := 4) dX8_message_2 (by decide) ?_
  obtain ⟨vo1, zo1, ho1h, ho1, hf⟩ := rfs3 hf
  refine CS3i (host := "") dX8_message_3 (mX8_isWithin hst ho1) tk_281 iX8_isWithin ⟨by decide, by decide⟩ ⟨by decide, by decide⟩ (Nat.le_of_ble_eq_true rfl) ?_
  obtain ⟨vo2, zo2, ho2h, ho2, hf⟩ := rfs3 hf
  rcases xrs hf with ⟨v3, ev3, hf⟩ | ⟨x4, ev3, hf⟩
  · refine XS1v dX8_message_6 (by have h9 := mX8_needValueR hst ho2 ⟨_, ev3⟩; rw [ev3] at h9; exact h9) tk_505 iX8_needValue ⟨by decide, by decide⟩ ⟨by decide, by decide⟩ (Nat.le_of_ble_eq_true rfl) ?_
    refine J_aload_n dX8_message_9 rfl rfl ?_
    obtain ⟨k5, hf⟩ := gds hf
    obtain ⟨b6, rb6, hf⟩ := rfs hf
    refine G_8_0 dX8_message_10 tk_247 k5 rb6 ?_
    obtain ⟨k7, hf⟩ := gds hf
    obtain ⟨b8, rb8, hf⟩ := rfs hf
    refine G_0_1 dX8_message_13 tk_95 k7 rb8 ?_
    refine J_iload_n dX8_message_16 rfl rfl ?_
    refine J_iload_n dX8_message_17 rfl rfl ?_
    obtain ⟨k9, hf⟩ := gds hf
    obtain ⟨vo10, zo10, ho10h, ho10, hf⟩ := rfs3 hf
    refine CV2i dX8_message_18 (mX4_property hst ho10) tk_529 iX4_property k9 (by decide) rfl ⟨by decide, by decide⟩ ⟨by decide, by decide⟩ (Nat.le_of_ble_eq_true rfl) ?_
    cases hf
    exact jN_V (J_iretN dX8_message_21 rfl (by decide) (by decide))
  · cases hf
    obtain ⟨_, hv⟩ := hv; cases hv
theorem mX8_messageR {g : JG} (hst : (jl g).stackTraces = false) {a0 : Nat} {x1 : Int32} {x2 : Int32} {z : Nat} {h : AH} {o : (Int32 ⊕ String) × Nat × AH} (hf : fX8_message a0 x1 x2 z h = some o) (hv : (∃ v, o.1 = .inl v)) : jMetX g yX8_message (wj yX8_message cX8_message 3 (some .int)) rmX8_messageR [.ref a0, .int x1, .int x2] z h (xoI o.1, o.2.1, o.2.2) :=
  jMetX_mk (by decide) (Nat.le_of_ble_eq_true rfl) [some (.ref a0), some (.int x1), some (.int x2)] rfl (wfX8_messageR hst hf hv)
theorem wfX8_messageT {g : JG} (hst : (jl g).stackTraces = false)   {a0 : Nat} {x1 : Int32} {x2 : Int32} {z : Nat} {h : AH} {o : (Int32 ⊕ String) × Nat × AH} (hf : fX8_message  a0 x1 x2 z h = some o) (hv : (∃ v, o.1 = .inr v)) : J g MX8_messageT (jV g (xoI o.1, o.2.1, o.2.2) rmX8_messageT.cells rmX8_messageT.slots) 0 [some (.ref a0), some (.int x1), some (.int x2)] [] z h 0 0 := by
  unfold fX8_message at hf
  refine J_iload_n dX8_message_0 rfl rfl ?_
  refine J_iconst (v := 0) dX8_message_1 (by decide) ?_
  refine J_iconst (v := 4) dX8_message_2 (by decide) ?_
  obtain ⟨vo1, zo1, ho1h, ho1, hf⟩ := rfs3 hf
  refine CS3i (host := "") dX8_message_3 (mX8_isWithin hst ho1) tk_281 iX8_isWithin ⟨by decide, by decide⟩ ⟨by decide, by decide⟩ (Nat.le_of_ble_eq_true rfl) ?_
  obtain ⟨vo2, zo2, ho2h, ho2, hf⟩ := rfs3 hf
  rcases xrs hf with ⟨v3, ev3, hf⟩ | ⟨x4, ev3, hf⟩
  · refine XS1v dX8_message_6 (by have h9 := mX8_needValueR hst ho2 ⟨_, ev3⟩; rw [ev3] at h9; exact h9) tk_505 iX8_needValue ⟨by decide, by decide⟩ ⟨by decide, by decide⟩ (Nat.le_of_ble_eq_true rfl) ?_
    refine J_aload_n dX8_message_9 rfl rfl ?_
    obtain ⟨k5, hf⟩ := gds hf
    obtain ⟨b6, rb6, hf⟩ := rfs hf
    refine G_8_0 dX8_message_10 tk_247 k5 rb6 ?_
    obtain ⟨k7, hf⟩ := gds hf
    obtain ⟨b8, rb8, hf⟩ := rfs hf
    refine G_0_1 dX8_message_13 tk_95 k7 rb8 ?_
    refine J_iload_n dX8_message_16 rfl rfl ?_
    refine J_iload_n dX8_message_17 rfl rfl ?_
    obtain ⟨k9, hf⟩ := gds hf
    obtain ⟨vo10, zo10, ho10h, ho10, hf⟩ := rfs3 hf
    refine CV2i dX8_message_18 (mX4_property hst ho10) tk_529 iX4_property k9 (by decide) rfl ⟨by decide, by decide⟩ ⟨by decide, by decide⟩ (Nat.le_of_ble_eq_true rfl) ?_
    cases hf
    obtain ⟨_, hv⟩ := hv; cases hv
  · cases hf
    exact XS1t dX8_message_6 (by have h9 := mX8_needValueT hst ho2 ⟨_, ev3⟩; rw [ev3] at h9; exact h9) tk_505 iX8_needValue ⟨by decide, by decide⟩ ⟨by decide, by decide⟩ (Nat.le_of_ble_eq_true rfl) rfl (by decide) (by decide)
theorem mX8_messageT {g : JG} (hst : (jl g).stackTraces = false) {a0 : Nat} {x1 : Int32} {x2 : Int32} {z : Nat} {h : AH} {o : (Int32 ⊕ String) × Nat × AH} (hf : fX8_message a0 x1 x2 z h = some o) (hv : (∃ v, o.1 = .inr v)) : jMetX g yX8_message (wj yX8_message cX8_message 3 (some .int)) rmX8_messageT [.ref a0, .int x1, .int x2] z h (xoI o.1, o.2.1, o.2.2) :=
  jMetX_mk (by decide) (Nat.le_of_ble_eq_true rfl) [some (.ref a0), some (.int x1), some (.int x2)] rfl (wfX8_messageT hst hf hv)
def fX8_told  (a0 : Nat) (x1 : Int32) (z : Nat) (h : AH) : Option ((Int32 ⊕ String) × Nat × AH) :=
  bd3 (fX8_isWithin x1 0 7 z h) (fun vo1 zo1 ho1h => bd3 (fX8_needValue vo1 zo1 ho1h) (fun vo2 zo2 ho2h => xr vo2 (fun v3 => gd (kd ho2h a0 = 9) (Option.bind (rv ho2h a0 2) (fun b6 => gd (kd ho2h b6 = 7) (Option.bind (rv ho2h b6 0) (fun b8 => gd (kd ho2h b8 = 13) (gd (¬ ((x1 : Int32) < 0 ∨ ln ho2h b8 ≤ Int32.toNatClampNeg x1)) (some (.inl (iv ho2h b8 (Int32.toNatClampNeg x1)), zo2, ho2h)))))))) (fun x4 => some (.inr x4, zo2, ho2h))))
theorem wfX8_toldR {g : JG} (hst : (jl g).stackTraces = false)   {a0 : Nat} {x1 : Int32} {z : Nat} {h : AH} {o : (Int32 ⊕ String) × Nat × AH} (hf : fX8_told  a0 x1 z h = some o) (hv : (∃ v, o.1 = .inl v)) : J g MX8_toldR (jV g (xoI o.1, o.2.1, o.2.2) rmX8_toldR.cells rmX8_toldR.slots) 0 [some (.ref a0), some (.int x1)] [] z h 0 0 := by
  unfold fX8_told at hf
  refine J_iload_n dX8_told_0 rfl rfl ?_
  refine J_iconst (v := 0) dX8_told_1 (by decide) ?_
  refine J_bipush (v := 7) dX8_told_2 (by decide) ?_
  obtain ⟨vo1, zo1, ho1h, ho1, hf⟩ := rfs3 hf
  refine CS3i (host := "") dX8_told_4 (mX8_isWithin hst ho1) tk_281 iX8_isWithin ⟨by decide, by decide⟩ ⟨by decide, by decide⟩ (Nat.le_of_ble_eq_true rfl) ?_
  obtain ⟨vo2, zo2, ho2h, ho2, hf⟩ := rfs3 hf
  rcases xrs hf with ⟨v3, ev3, hf⟩ | ⟨x4, ev3, hf⟩
  · refine XS1v dX8_told_7 (by have h9 := mX8_needValueR hst ho2 ⟨_, ev3⟩; rw [ev3] at h9; exact h9) tk_505 iX8_needValue ⟨by decide, by decide⟩ ⟨by decide, by decide⟩ (Nat.le_of_ble_eq_true rfl) ?_
    refine J_aload_n dX8_told_10 rfl rfl ?_
    obtain ⟨k5, hf⟩ := gds hf
    obtain ⟨b6, rb6, hf⟩ := rfs hf
    refine G_8_2 dX8_told_11 tk_249 k5 rb6 ?_
    obtain ⟨k7, hf⟩ := gds hf
    obtain ⟨b8, rb8, hf⟩ := rfs hf
    refine G_6_0 dX8_told_14 tk_162 k7 rb8 ?_
    refine J_iload_n dX8_told_17 rfl rfl ?_
    obtain ⟨k9, hf⟩ := gds hf
    obtain ⟨n10, hf⟩ := gds hf
    refine J_iaload dX8_told_18 k9 n10 ?_
    cases hf
    exact jN_V (J_iretN dX8_told_19 rfl (by decide) (by decide))
  · cases hf
    obtain ⟨_, hv⟩ := hv; cases hv
theorem mX8_toldR {g : JG} (hst : (jl g).stackTraces = false) {a0 : Nat} {x1 : Int32} {z : Nat} {h : AH} {o : (Int32 ⊕ String) × Nat × AH} (hf : fX8_told a0 x1 z h = some o) (hv : (∃ v, o.1 = .inl v)) : jMetX g yX8_told (wj yX8_told cX8_told 2 (some .int)) rmX8_toldR [.ref a0, .int x1] z h (xoI o.1, o.2.1, o.2.2) :=
  jMetX_mk (by decide) (Nat.le_of_ble_eq_true rfl) [some (.ref a0), some (.int x1)] rfl (wfX8_toldR hst hf hv)
theorem wfX8_toldT {g : JG} (hst : (jl g).stackTraces = false)   {a0 : Nat} {x1 : Int32} {z : Nat} {h : AH} {o : (Int32 ⊕ String) × Nat × AH} (hf : fX8_told  a0 x1 z h = some o) (hv : (∃ v, o.1 = .inr v)) : J g MX8_toldT (jV g (xoI o.1, o.2.1, o.2.2) rmX8_toldT.cells rmX8_toldT.slots) 0 [some (.ref a0), some (.int x1)] [] z h 0 0 := by
  unfold fX8_told at hf
  refine J_iload_n dX8_told_0 rfl rfl ?_
  refine J_iconst (v := 0) dX8_told_1 (by decide) ?_
  refine J_bipush (v := 7) dX8_told_2 (by decide) ?_
  obtain ⟨vo1, zo1, ho1h, ho1, hf⟩ := rfs3 hf
  refine CS3i (host := "") dX8_told_4 (mX8_isWithin hst ho1) tk_281 iX8_isWithin ⟨by decide, by decide⟩ ⟨by decide, by decide⟩ (Nat.le_of_ble_eq_true rfl) ?_
  obtain ⟨vo2, zo2, ho2h, ho2, hf⟩ := rfs3 hf
  rcases xrs hf with ⟨v3, ev3, hf⟩ | ⟨x4, ev3, hf⟩
  · refine XS1v dX8_told_7 (by have h9 := mX8_needValueR hst ho2 ⟨_, ev3⟩; rw [ev3] at h9; exact h9) tk_505 iX8_needValue ⟨by decide, by decide⟩ ⟨by decide, by decide⟩ (Nat.le_of_ble_eq_true rfl) ?_
    refine J_aload_n dX8_told_10 rfl rfl ?_
    obtain ⟨k5, hf⟩ := gds hf
    obtain ⟨b6, rb6, hf⟩ := rfs hf
    refine G_8_2 dX8_told_11 tk_249 k5 rb6 ?_
    obtain ⟨k7, hf⟩ := gds hf
    obtain ⟨b8, rb8, hf⟩ := rfs hf
    refine G_6_0 dX8_told_14 tk_162 k7 rb8 ?_
    refine J_iload_n dX8_told_17 rfl rfl ?_
    obtain ⟨k9, hf⟩ := gds hf
    obtain ⟨n10, hf⟩ := gds hf
    refine J_iaload dX8_told_18 k9 n10 ?_
    cases hf
    obtain ⟨_, hv⟩ := hv; cases hv
  · cases hf
    exact XS1t dX8_told_7 (by have h9 := mX8_needValueT hst ho2 ⟨_, ev3⟩; rw [ev3] at h9; exact h9) tk_505 iX8_needValue ⟨by decide, by decide⟩ ⟨by decide, by decide⟩ (Nat.le_of_ble_eq_true rfl) rfl (by decide) (by decide)
theorem mX8_toldT {g : JG} (hst : (jl g).stackTraces = false) {a0 : Nat} {x1 : Int32} {z : Nat} {h : AH} {o : (Int32 ⊕ String) × Nat × AH} (hf : fX8_told a0 x1 z h = some o) (hv : (∃ v, o.1 = .inr v)) : jMetX g yX8_told (wj yX8_told cX8_told 2 (some .int)) rmX8_toldT [.ref a0, .int x1] z h (xoI o.1, o.2.1, o.2.2) :=
  jMetX_mk (by decide) (Nat.le_of_ble_eq_true rfl) [some (.ref a0), some (.int x1)] rfl (wfX8_toldT hst hf hv)
def fX8_onCycles  (a0 : Nat) (z : Nat) (h : AH) : Option (Int32 × Nat × AH) :=
  gd (kd h a0 = 9) (Option.bind (rv h a0 3) (fun b2 => Option.bind (rv h a0 0) (fun b3 => gd (kd h b2 = 8) (bd2 (fX7_read b2 b3 z h) (fun zo5 ho5h => gd (kd ho5h a0 = 9) (Option.bind (rv ho5h a0 3) (fun b7 => gd (kd ho5h b7 = 8) (some ((iv ho5h b7 2), zo5, ho5h)))))))))
theorem wfX8_onCycles {g : JG} (hst : (jl g).stackTraces = false)   {a0 : Nat} {z : Nat} {h : AH} {o : Int32 × Nat × AH} (hf : fX8_onCycles  a0 z h = some o) : J g MX8_onCycles (jN g (some (.int o.1), o.2.1, o.2.2) rmX8_onCycles.cells rmX8_onCycles.slots) 0 [some (.ref a0)] [] z h 0 0 := by
  unfold fX8_onCycles at hf
  refine J_aload_n dX8_onCycles_0 rfl rfl ?_
  obtain ⟨k1, hf⟩ := gds hf
  obtain ⟨b2, rb2, hf⟩ := rfs hf
  refine G_8_3 dX8_onCycles_1 tk_250 k1 rb2 ?_
  refine J_aload_n dX8_onCycles_4 rfl rfl ?_
  obtain ⟨b3, rb3, hf⟩ := rfs hf
  refine G_8_0 dX8_onCycles_5 tk_247 k1 rb3 ?_
  obtain ⟨k4, hf⟩ := gds hf
  obtain ⟨zo5, ho5h, ho5, hf⟩ := rfs2 hf
  refine CV1v dX8_onCycles_8 (mX7_read hst ho5) tk_292 iX7_read k4 (by decide) rfl ⟨by decide, by decide⟩ ⟨by decide, by decide⟩ (Nat.le_of_ble_eq_true rfl) ?_
  refine J_aload_n dX8_onCycles_11 rfl rfl ?_
  obtain ⟨k6, hf⟩ := gds hf
  obtain ⟨b7, rb7, hf⟩ := rfs hf
  refine G_8_3 dX8_onCycles_12 tk_250 k6 rb7 ?_
  obtain ⟨k8, hf⟩ := gds hf
  refine G_7_2 dX8_onCycles_15 tk_188 k8 ?_
  cases hf
  exact J_iretN dX8_onCycles_18 rfl (by decide) (by decide)
theorem mX8_onCycles {g : JG} (hst : (jl g).stackTraces = false) {a0 : Nat} {z : Nat} {h : AH} {o : Int32 × Nat × AH} (hf : fX8_onCycles a0 z h = some o) : jMet g yX8_onCycles (wj yX8_onCycles cX8_onCycles 1 (some .int)) rmX8_onCycles [.ref a0] z h (some (.int o.1), o.2.1, o.2.2) :=
  jMet_mk (by decide) (Nat.le_of_ble_eq_true rfl) [some (.ref a0)] rfl (wfX8_onCycles hst hf)
def fX8_stuck  (a0 : Nat) (z : Nat) (h : AH) : Option (Int32 × Nat × AH) :=
  gd (kd h a0 = 9) (Option.bind (rv h a0 3) (fun b2 => Option.bind (rv h a0 0) (fun b3 => gd (kd h b2 = 8) (bd2 (fX7_read b2 b3 z h) (fun zo5 ho5h => gd (kd ho5h a0 = 9) (Option.bind (rv ho5h a0 3) (fun b7 => gd (kd ho5h b7 = 8) (bd3 (fX7_leadingToRings b7 zo5 ho5h) (fun vo9 zo9 ho9h => some (vo9, zo9, ho9h))))))))))
theorem wfX8_stuck {g : JG} (hst : (jl g).stackTraces = false)   {a0 : Nat} {z : Nat} {h : AH} {o : Int32 × Nat × AH} (hf : fX8_stuck  a0 z h = some o) : J g MX8_stuck (jN g (some (.int o.1), o.2.1, o.2.2) rmX8_stuck.cells rmX8_stuck.slots) 0 [some (.ref a0)] [] z h 0 0 := by
  unfold fX8_stuck at hf
  refine J_aload_n dX8_stuck_0 rfl rfl ?_
  obtain ⟨k1, hf⟩ := gds hf
  obtain ⟨b2, rb2, hf⟩ := rfs hf
  refine G_8_3 dX8_stuck_1 tk_250 k1 rb2 ?_
  refine J_aload_n dX8_stuck_4 rfl rfl ?_
  obtain ⟨b3, rb3, hf⟩ := rfs hf
  refine G_8_0 dX8_stuck_5 tk_247 k1 rb3 ?_
  obtain ⟨k4, hf⟩ := gds hf
  obtain ⟨zo5, ho5h, ho5, hf⟩ := rfs2 hf
  refine CV1v dX8_stuck_8 (mX7_read hst ho5) tk_292 iX7_read k4 (by decide) rfl ⟨by decide, by decide⟩ ⟨by decide, by decide⟩ (Nat.le_of_ble_eq_true rfl) ?_
  refine J_aload_n dX8_stuck_11 rfl rfl ?_
  obtain ⟨k6, hf⟩ := gds hf
  obtain ⟨b7, rb7, hf⟩ := rfs hf
  refine G_8_3 dX8_stuck_12 tk_250 k6 rb7 ?_
  obtain ⟨k8, hf⟩ := gds hf
  obtain ⟨vo9, zo9, ho9h, ho9, hf⟩ := rfs3 hf
  refine CV0i dX8_stuck_15 (mX7_leadingToRings hst ho9) tk_315 iX7_leadingToRings k8 (by decide) rfl ⟨by decide, by decide⟩ ⟨by decide, by decide⟩ (Nat.le_of_ble_eq_true rfl) ?_
  cases hf
  exact J_iretN dX8_stuck_18 rfl (by decide) (by decide)
theorem mX8_stuck {g : JG} (hst : (jl g).stackTraces = false) {a0 : Nat} {z : Nat} {h : AH} {o : Int32 × Nat × AH} (hf : fX8_stuck a0 z h = some o) : jMet g yX8_stuck (wj yX8_stuck cX8_stuck 1 (some .int)) rmX8_stuck [.ref a0] z h (some (.int o.1), o.2.1, o.2.2) :=
  jMet_mk (by decide) (Nat.le_of_ble_eq_true rfl) [some (.ref a0)] rfl (wfX8_stuck hst hf)
def fX8_shortestCycle  (a0 : Nat) (x1 : Int32) (z : Nat) (h : AH) : Option ((Int32 ⊕ String) × Nat × AH) :=
  gd (kd h a0 = 9) (Option.bind (rv h a0 0) (fun b2 => gd (kd h b2 = 1) (bd3 (fX0_has b2 x1 z h) (fun vo4 zo4 ho4h => bd3 (fX8_needThing vo4 zo4 ho4h) (fun vo5 zo5 ho5h => xr vo5 (fun v6 => gd (kd ho5h a0 = 9) (Option.bind (rv ho5h a0 3) (fun b9 => Option.bind (rv ho5h a0 0) (fun b10 => gd (kd ho5h b9 = 8) (bd2 (fX7_read b9 b10 zo5 ho5h) (fun zo12 ho12h => gd (kd ho12h a0 = 9) (Option.bind (rv ho12h a0 3) (fun b14 => gd (kd ho12h b14 = 8) (bd3 (fX7_shortestRing b14 x1 zo12 ho12h) (fun vo16 zo16 ho16h => some (.inl vo16, zo16, ho16h))))))))))) (fun x7 => some (.inr x7, zo5, ho5h)))))))
theorem wfX8_shortestCycleR {g : JG} (hst : (jl g).stackTraces = false)   {a0 : Nat} {x1 : Int32} {z : Nat} {h : AH} {o : (Int32 ⊕ String) × Nat × AH} (hf : fX8_shortestCycle  a0 x1 z h = some o) (hv : (∃ v, o.1 = .inl v)) : J g MX8_shortestCycleR (jV g (xoI o.1, o.2.1, o.2.2) rmX8_shortestCycleR.cells rmX8_shortestCycleR.slots) 0 [some (.ref a0), some (.int x1)] [] z h 0 0 := by
  unfold fX8_shortestCycle at hf
  refine J_aload_n dX8_shortestCycle_0 rfl rfl ?_
  obtain ⟨k1, hf⟩ := gds hf
  obtain ⟨b2, rb2, hf⟩ := rfs hf
  refine G_8_0 dX8_shortestCycle_1 tk_247 k1 rb2 ?_
  refine J_iload_n dX8_shortestCycle_4 rfl rfl ?_
  obtain ⟨k3, hf⟩ := gds hf
  obtain ⟨vo4, zo4, ho4h, ho4, hf⟩ := rfs3 hf
  refine CV1i dX8_shortestCycle_5 (mX0_has hst ho4) tk_429 iX0_has k3 (by decide) rfl ⟨by decide, by decide⟩ ⟨by decide, by decide⟩ (Nat.le_of_ble_eq_true rfl) ?_
  obtain ⟨vo5, zo5, ho5h, ho5, hf⟩ := rfs3 hf
  rcases xrs hf with ⟨v6, ev6, hf⟩ | ⟨x7, ev6, hf⟩
  · refine XS1v dX8_shortestCycle_8 (by have h9 := mX8_needThingR hst ho5 ⟨_, ev6⟩; rw [ev6] at h9; exact h9) tk_434 iX8_needThing ⟨by decide, by decide⟩ ⟨by decide, by decide⟩ (Nat.le_of_ble_eq_true rfl) ?_
    refine J_aload_n dX8_shortestCycle_11 rfl rfl ?_
    obtain ⟨k8, hf⟩ := gds hf
    obtain ⟨b9, rb9, hf⟩ := rfs hf
    refine G_8_3 dX8_shortestCycle_12 tk_250 k8 rb9 ?_
    refine J_aload_n dX8_shortestCycle_15 rfl rfl ?_
    obtain ⟨b10, rb10, hf⟩ := rfs hf
    refine G_8_0 dX8_shortestCycle_16 tk_247 k8 rb10 ?_
    obtain ⟨k11, hf⟩ := gds hf
    obtain ⟨zo12, ho12h, ho12, hf⟩ := rfs2 hf
    refine CV1v dX8_shortestCycle_19 (mX7_read hst ho12) tk_292 iX7_read k11 (by decide) rfl ⟨by decide, by decide⟩ ⟨by decide, by decide⟩ (Nat.le_of_ble_eq_true rfl) ?_
    refine J_aload_n dX8_shortestCycle_22 rfl rfl ?_
    obtain ⟨k13, hf⟩ := gds hf
    obtain ⟨b14, rb14, hf⟩ := rfs hf
    refine G_8_3 dX8_shortestCycle_23 tk_250 k13 rb14 ?_
    refine J_iload_n dX8_shortestCycle_26 rfl rfl ?_
    obtain ⟨k15, hf⟩ := gds hf
    obtain ⟨vo16, zo16, ho16h, ho16, hf⟩ := rfs3 hf
    refine CV1i dX8_shortestCycle_27 (mX7_shortestRing hst ho16) tk_864 iX7_shortestRing k15 (by decide) rfl ⟨by decide, by decide⟩ ⟨by decide, by decide⟩ (Nat.le_of_ble_eq_true rfl) ?_
    cases hf
    exact jN_V (J_iretN dX8_shortestCycle_30 rfl (by decide) (by decide))
  · cases hf
    obtain ⟨_, hv⟩ := hv; cases hv
theorem mX8_shortestCycleR {g : JG} (hst : (jl g).stackTraces = false) {a0 : Nat} {x1 : Int32} {z : Nat} {h : AH} {o : (Int32 ⊕ String) × Nat × AH} (hf : fX8_shortestCycle a0 x1 z h = some o) (hv : (∃ v, o.1 = .inl v)) : jMetX g yX8_shortestCycle (wj yX8_shortestCycle cX8_shortestCycle 2 (some .int)) rmX8_shortestCycleR [.ref a0, .int x1] z h (xoI o.1, o.2.1, o.2.2) :=
  jMetX_mk (by decide) (Nat.le_of_ble_eq_true rfl) [some (.ref a0), some (.int x1)] rfl (wfX8_shortestCycleR hst hf hv)
theorem wfX8_shortestCycleT {g : JG} (hst : (jl g).stackTraces = false)   {a0 : Nat} {x1 : Int32} {z : Nat} {h : AH} {o : (Int32 ⊕ String) × Nat × AH} (hf : fX8_shortestCycle  a0 x1 z h = some o) (hv : (∃ v, o.1 = .inr v)) : J g MX8_shortestCycleT (jV g (xoI o.1, o.2.1, o.2.2) rmX8_shortestCycleT.cells rmX8_shortestCycleT.slots) 0 [some (.ref a0), some (.int x1)] [] z h 0 0 := by
  unfold fX8_shortestCycle at hf
  refine J_aload_n dX8_shortestCycle_0 rfl rfl ?_
  obtain ⟨k1, hf⟩ := gds hf
  obtain ⟨b2, rb2, hf⟩ := rfs hf
  refine G_8_0 dX8_shortestCycle_1 tk_247 k1 rb2 ?_
  refine J_iload_n dX8_shortestCycle_4 rfl rfl ?_
  obtain ⟨k3, hf⟩ := gds hf
  obtain ⟨vo4, zo4, ho4h, ho4, hf⟩ := rfs3 hf
  refine CV1i dX8_shortestCycle_5 (mX0_has hst ho4) tk_429 iX0_has k3 (by decide) rfl ⟨by decide, by decide⟩ ⟨by decide, by decide⟩ (Nat.le_of_ble_eq_true rfl) ?_
  obtain ⟨vo5, zo5, ho5h, ho5, hf⟩ := rfs3 hf
  rcases xrs hf with ⟨v6, ev6, hf⟩ | ⟨x7, ev6, hf⟩
  · refine XS1v dX8_shortestCycle_8 (by have h9 := mX8_needThingR hst ho5 ⟨_, ev6⟩; rw [ev6] at h9; exact h9) tk_434 iX8_needThing ⟨by decide, by decide⟩ ⟨by decide, by decide⟩ (Nat.le_of_ble_eq_true rfl) ?_
    refine J_aload_n dX8_shortestCycle_11 rfl rfl ?_
    obtain ⟨k8, hf⟩ := gds hf
    obtain ⟨b9, rb9, hf⟩ := rfs hf
    refine G_8_3 dX8_shortestCycle_12 tk_250 k8 rb9 ?_
    refine J_aload_n dX8_shortestCycle_15 rfl rfl ?_
    obtain ⟨b10, rb10, hf⟩ := rfs hf
    refine G_8_0 dX8_shortestCycle_16 tk_247 k8 rb10 ?_
    obtain ⟨k11, hf⟩ := gds hf
    obtain ⟨zo12, ho12h, ho12, hf⟩ := rfs2 hf
    refine CV1v dX8_shortestCycle_19 (mX7_read hst ho12) tk_292 iX7_read k11 (by decide) rfl ⟨by decide, by decide⟩ ⟨by decide, by decide⟩ (Nat.le_of_ble_eq_true rfl) ?_
    refine J_aload_n dX8_shortestCycle_22 rfl rfl ?_
    obtain ⟨k13, hf⟩ := gds hf
    obtain ⟨b14, rb14, hf⟩ := rfs hf
    refine G_8_3 dX8_shortestCycle_23 tk_250 k13 rb14 ?_
    refine J_iload_n dX8_shortestCycle_26 rfl rfl ?_
    obtain ⟨k15, hf⟩ := gds hf
    obtain ⟨vo16, zo16, ho16h, ho16, hf⟩ := rfs3 hf
    refine CV1i dX8_shortestCycle_27 (mX7_shortestRing hst ho16) tk_864 iX7_shortestRing k15 (by decide) rfl ⟨by decide, by decide⟩ ⟨by decide, by decide⟩ (Nat.le_of_ble_eq_true rfl) ?_
    cases hf
    obtain ⟨_, hv⟩ := hv; cases hv
  · cases hf
    exact XS1t dX8_shortestCycle_8 (by have h9 := mX8_needThingT hst ho5 ⟨_, ev6⟩; rw [ev6] at h9; exact h9) tk_434 iX8_needThing ⟨by decide, by decide⟩ ⟨by decide, by decide⟩ (Nat.le_of_ble_eq_true rfl) rfl (by decide) (by decide)
theorem mX8_shortestCycleT {g : JG} (hst : (jl g).stackTraces = false) {a0 : Nat} {x1 : Int32} {z : Nat} {h : AH} {o : (Int32 ⊕ String) × Nat × AH} (hf : fX8_shortestCycle a0 x1 z h = some o) (hv : (∃ v, o.1 = .inr v)) : jMetX g yX8_shortestCycle (wj yX8_shortestCycle cX8_shortestCycle 2 (some .int)) rmX8_shortestCycleT [.ref a0, .int x1] z h (xoI o.1, o.2.1, o.2.2) :=
  jMetX_mk (by decide) (Nat.le_of_ble_eq_true rfl) [some (.ref a0), some (.int x1)] rfl (wfX8_shortestCycleT hst hf hv)
def fX8_cycles  (a0 : Nat) (z : Nat) (h : AH) : Option (Int32 × Nat × AH) :=
  gd (kd h a0 = 9) (Option.bind (rv h a0 3) (fun b2 => Option.bind (rv h a0 0) (fun b3 => gd (kd h b2 = 8) (bd2 (fX7_read b2 b3 z h) (fun zo5 ho5h => gd (kd ho5h a0 = 9) (Option.bind (rv ho5h a0 3) (fun b7 => gd (kd ho5h b7 = 8) (bd3 (fX7_countRings b7 zo5 ho5h) (fun vo9 zo9 ho9h => some (vo9, zo9, ho9h))))))))))
theorem wfX8_cycles {g : JG} (hst : (jl g).stackTraces = false)   {a0 : Nat} {z : Nat} {h : AH} {o : Int32 × Nat × AH} (hf : fX8_cycles  a0 z h = some o) : J g MX8_cycles (jN g (some (.int o.1), o.2.1, o.2.2) rmX8_cycles.cells rmX8_cycles.slots) 0 [some (.ref a0)] [] z h 0 0 := by
  unfold fX8_cycles at hf
  refine J_aload_n dX8_cycles_0 rfl rfl ?_
  obtain ⟨k1, hf⟩ := gds hf
  obtain ⟨b2, rb2, hf⟩ := rfs hf
  refine G_8_3 dX8_cycles_1 tk_250 k1 rb2 ?_
  refine J_aload_n dX8_cycles_4 rfl rfl ?_
  obtain ⟨b3, rb3, hf⟩ := rfs hf
  refine G_8_0 dX8_cycles_5 tk_247 k1 rb3 ?_
  obtain ⟨k4, hf⟩ := gds hf
  obtain ⟨zo5, ho5h, ho5, hf⟩ := rfs2 hf
  refine CV1v dX8_cycles_8 (mX7_read hst ho5) tk_292 iX7_read k4 (by decide) rfl ⟨by decide, by decide⟩ ⟨by decide, by decide⟩ (Nat.le_of_ble_eq_true rfl) ?_
  refine J_aload_n dX8_cycles_11 rfl rfl ?_
  obtain ⟨k6, hf⟩ := gds hf
  obtain ⟨b7, rb7, hf⟩ := rfs hf
  refine G_8_3 dX8_cycles_12 tk_250 k6 rb7 ?_
  obtain ⟨k8, hf⟩ := gds hf
  obtain ⟨vo9, zo9, ho9h, ho9, hf⟩ := rfs3 hf
  refine CV0i dX8_cycles_15 (mX7_countRings hst ho9) tk_323 iX7_countRings k8 (by decide) rfl ⟨by decide, by decide⟩ ⟨by decide, by decide⟩ (Nat.le_of_ble_eq_true rfl) ?_
  cases hf
  exact J_iretN dX8_cycles_18 rfl (by decide) (by decide)
theorem mX8_cycles {g : JG} (hst : (jl g).stackTraces = false) {a0 : Nat} {z : Nat} {h : AH} {o : Int32 × Nat × AH} (hf : fX8_cycles a0 z h = some o) : jMet g yX8_cycles (wj yX8_cycles cX8_cycles 1 (some .int)) rmX8_cycles [.ref a0] z h (some (.int o.1), o.2.1, o.2.2) :=
  jMet_mk (by decide) (Nat.le_of_ble_eq_true rfl) [some (.ref a0)] rfl (wfX8_cycles hst hf)
def fX8_bestVictims  (a0 : Nat) (z : Nat) (h : AH) : Option (Int32 × Nat × AH) :=
  gd (kd h a0 = 9) (Option.bind (rv h a0 3) (fun b2 => Option.bind (rv h a0 0) (fun b3 => gd (kd h b2 = 8) (bd2 (fX7_read b2 b3 z h) (fun zo5 ho5h => gd (kd ho5h a0 = 9) (Option.bind (rv ho5h a0 3) (fun b7 => Option.bind (rv ho5h a0 0) (fun b8 => gd (kd ho5h b8 = 1) (Option.bind (rv ho5h b8 2) (fun b10 => gd (kd ho5h b7 = 8) (bd3 (fX7_leastVictims b7 b10 zo5 ho5h) (fun vo12 zo12 ho12h => some (vo12, zo12, ho12h)))))))))))))
theorem wfX8_bestVictims {g : JG} (hst : (jl g).stackTraces = false)   {a0 : Nat} {z : Nat} {h : AH} {o : Int32 × Nat × AH} (hf : fX8_bestVictims  a0 z h = some o) : J g MX8_bestVictims (jN g (some (.int o.1), o.2.1, o.2.2) rmX8_bestVictims.cells rmX8_bestVictims.slots) 0 [some (.ref a0)] [] z h 0 0 := by
  unfold fX8_bestVictims at hf
  refine J_aload_n dX8_bestVictims_0 rfl rfl ?_
  obtain ⟨k1, hf⟩ := gds hf
  obtain ⟨b2, rb2, hf⟩ := rfs hf
  refine G_8_3 dX8_bestVictims_1 tk_250 k1 rb2 ?_
  refine J_aload_n dX8_bestVictims_4 rfl rfl ?_
  obtain ⟨b3, rb3, hf⟩ := rfs hf
  refine G_8_0 dX8_bestVictims_5 tk_247 k1 rb3 ?_
  obtain ⟨k4, hf⟩ := gds hf
  obtain ⟨zo5, ho5h, ho5, hf⟩ := rfs2 hf
  refine CV1v dX8_bestVictims_8 (mX7_read hst ho5) tk_292 iX7_read k4 (by decide) rfl ⟨by decide, by decide⟩ ⟨by decide, by decide⟩ (Nat.le_of_ble_eq_true rfl) ?_
  refine J_aload_n dX8_bestVictims_11 rfl rfl ?_
  obtain ⟨k6, hf⟩ := gds hf
  obtain ⟨b7, rb7, hf⟩ := rfs hf
  refine G_8_3 dX8_bestVictims_12 tk_250 k6 rb7 ?_
  refine J_aload_n dX8_bestVictims_15 rfl rfl ?_
  obtain ⟨b8, rb8, hf⟩ := rfs hf
  refine G_8_0 dX8_bestVictims_16 tk_247 k6 rb8 ?_
  obtain ⟨k9, hf⟩ := gds hf
  obtain ⟨b10, rb10, hf⟩ := rfs hf
  refine G_0_2 dX8_bestVictims_19 tk_97 k9 rb10 ?_
  obtain ⟨k11, hf⟩ := gds hf
  obtain ⟨vo12, zo12, ho12h, ho12, hf⟩ := rfs3 hf
  refine CV1i dX8_bestVictims_22 (mX7_leastVictims hst ho12) tk_339 iX7_leastVictims k11 (by decide) rfl ⟨by decide, by decide⟩ ⟨by decide, by decide⟩ (Nat.le_of_ble_eq_true rfl) ?_
  cases hf
  exact J_iretN dX8_bestVictims_25 rfl (by decide) (by decide)
theorem mX8_bestVictims {g : JG} (hst : (jl g).stackTraces = false) {a0 : Nat} {z : Nat} {h : AH} {o : Int32 × Nat × AH} (hf : fX8_bestVictims a0 z h = some o) : jMet g yX8_bestVictims (wj yX8_bestVictims cX8_bestVictims 1 (some .int)) rmX8_bestVictims [.ref a0] z h (some (.int o.1), o.2.1, o.2.2) :=
  jMet_mk (by decide) (Nat.le_of_ble_eq_true rfl) [some (.ref a0)] rfl (wfX8_bestVictims hst hf)
def lX8_wouldEnd_15B  (q15 : Nat → Int32 → Int32 → Nat → AH → Option (Int32 × Nat × AH)) (a0 : Nat) (x1 : Int32) (x2 : Int32) (z : Nat) (h : AH) : Option (Int32 × Nat × AH) :=
  (if 10 ≤ x2 then (some (x1, z, h)) else (gd (kd h a0 = 9) (Option.bind (rv h a0 1) (fun b3 => gd (kd h b3 = 1) (bd3 (fX0_lowestRunning b3 z h) (fun vo5 zo5 ho5h => (if vo5 = (-1) then (some (x1, zo5, ho5h)) else (gd (kd ho5h a0 = 9) (Option.bind (rv ho5h a0 1) (fun b8 => gd (kd ho5h b8 = 1) (bd2 (fX0_dismiss b8 vo5 zo5 ho5h) (fun zo10 ho10h => gd (kd ho10h a0 = 9) (Option.bind (rv ho10h a0 1) (fun b12 => gd (kd ho10h b12 = 1) (bd3 (fX0_settle b12 zo10 ho10h) (fun vo14 zo14 ho14h => q15 a0 (x1 + 1) (x2 + 1) zo14 ho14h))))))))))))))))
def lX8_wouldEnd_15  : Nat → Nat → Int32 → Int32 → Nat → AH → Option (Int32 × Nat × AH)
  | 0 => fun _ _ _ _ _ => none
  | fuel + 1 => lX8_wouldEnd_15B  (lX8_wouldEnd_15  fuel)
def fX8_wouldEnd  (a0 : Nat) (z : Nat) (h : AH) : Option (Int32 × Nat × AH) :=
  gd (kd h a0 = 9) (Option.bind (rv h a0 1) (fun b2 => Option.bind (rv h a0 0) (fun b3 => gd (kd h b2 = 1) (bd2 (fX0_copyFrom b2 b3 z h) (fun zo5 ho5h => lX8_wouldEnd_15  fu a0 0 0 zo5 ho5h)))))
theorem wlX8_wouldEnd_15 {g : JG} (hst : (jl g).stackTraces = false)   : ∀ (fuel : Nat) (a0 : Nat) (x1 : Int32) (x2 : Int32) (z : Nat) (h : AH) (o : Int32 × Nat × AH), lX8_wouldEnd_15  fuel a0 x1 x2 z h = some o → J g MX8_wouldEnd (jN g (some (.int o.1), o.2.1, o.2.2) rmX8_wouldEnd.cells rmX8_wouldEnd.slots) 15 [some (.ref a0), some (.int x1), some (.int x2), none] [] z h 0 0 := by
  intro fuel
  induction fuel with
  | zero => intro a0 x1 x2 z h o hf; cases hf
  | succ fuel ih =>
    intro a0 x1 x2 z h o hf
    have hq15 := ih
    have hf : lX8_wouldEnd_15B  (lX8_wouldEnd_15  fuel) a0 x1 x2 z h = some o := hf
    generalize lX8_wouldEnd_15  fuel = q15 at hf hq15
    unfold lX8_wouldEnd_15B at hf
    refine J_iload_n dX8_wouldEnd_15 rfl rfl ?_
    refine J_bipush (v := 10) dX8_wouldEnd_16 (by decide) ?_
    rcases br hf with ⟨c1, hf⟩ | ⟨c1, hf⟩
    · refine J_icmp_ge (tgt := 61) dX8_wouldEnd_18 (by decide) (fun _ => ?_) (fun w => absurd c1 w)
      refine J_iload_n dX8_wouldEnd_61 rfl rfl ?_
      cases hf
      exact J_iretN dX8_wouldEnd_62 rfl (by decide) (by decide)
    · refine J_icmp_ge (tgt := 61) dX8_wouldEnd_18 (by decide) (fun w => absurd w c1) (fun _ => ?_)
      refine J_aload_n dX8_wouldEnd_21 rfl rfl ?_
      obtain ⟨k2, hf⟩ := gds hf
      obtain ⟨b3, rb3, hf⟩ := rfs hf
      refine G_8_1 dX8_wouldEnd_22 tk_248 k2 rb3 ?_
      obtain ⟨k4, hf⟩ := gds hf
      obtain ⟨vo5, zo5, ho5h, ho5, hf⟩ := rfs3 hf
      refine CV0i dX8_wouldEnd_25 (mX0_lowestRunning hst ho5) tk_378 iX0_lowestRunning k4 (by decide) rfl ⟨by decide, by decide⟩ ⟨by decide, by decide⟩ (Nat.le_of_ble_eq_true rfl) ?_
      refine S_istore_n_3 dX8_wouldEnd_28 rfl (by decide) ?_
      refine J_iload_n dX8_wouldEnd_29 rfl rfl ?_
      refine J_iconst (v := (-1)) dX8_wouldEnd_30 (by decide) ?_
      rcases br hf with ⟨c6, hf⟩ | ⟨c6, hf⟩
      · refine J_icmp_ne (tgt := 36) dX8_wouldEnd_31 (by decide) (fun w => absurd c6 w) (fun _ => ?_)
        refine J_iload_n dX8_wouldEnd_34 rfl rfl ?_
        cases hf
        exact J_iretN dX8_wouldEnd_35 rfl (by decide) (by decide)
      · refine J_icmp_ne (tgt := 36) dX8_wouldEnd_31 (by decide) (fun _ => ?_) (fun w => absurd w c6)
        refine J_aload_n dX8_wouldEnd_36 rfl rfl ?_
        obtain ⟨k7, hf⟩ := gds hf
        obtain ⟨b8, rb8, hf⟩ := rfs hf
        refine G_8_1 dX8_wouldEnd_37 tk_248 k7 rb8 ?_
        refine J_iload_n dX8_wouldEnd_40 rfl rfl ?_
        obtain ⟨k9, hf⟩ := gds hf
        obtain ⟨zo10, ho10h, ho10, hf⟩ := rfs2 hf
        refine CV1v dX8_wouldEnd_41 (mX0_dismiss hst ho10) tk_382 iX0_dismiss k9 (by decide) rfl ⟨by decide, by decide⟩ ⟨by decide, by decide⟩ (Nat.le_of_ble_eq_true rfl) ?_
        refine J_aload_n dX8_wouldEnd_44 rfl rfl ?_
        obtain ⟨k11, hf⟩ := gds hf
        obtain ⟨b12, rb12, hf⟩ := rfs hf
        refine G_8_1 dX8_wouldEnd_45 tk_248 k11 rb12 ?_
        obtain ⟨k13, hf⟩ := gds hf
        obtain ⟨vo14, zo14, ho14h, ho14, hf⟩ := rfs3 hf
        refine CV0i dX8_wouldEnd_48 (mX0_settle hst ho14) tk_390 iX0_settle k13 (by decide) rfl ⟨by decide, by decide⟩ ⟨by decide, by decide⟩ (Nat.le_of_ble_eq_true rfl) ?_
        refine J_pop dX8_wouldEnd_51 rfl ?_
        refine S_iinc_1 (v := x1 + 1) dX8_wouldEnd_52 (congrArg (fun w => x1 + w) (by decide)) rfl (by decide) ?_
        refine S_iinc_2 (v := x2 + 1) dX8_wouldEnd_55 (congrArg (fun w => x2 + w) (by decide)) rfl (by decide) ?_
        refine J_goto (tgt := 15) dX8_wouldEnd_58 (by decide) ?_
        refine J.sub (jsub_s (jsub_s (jsub_s (jsub_n (jsub_nil _))))) ?_
        exact hq15 _ _ _ _ _ _ hf
theorem wfX8_wouldEnd {g : JG} (hst : (jl g).stackTraces = false)   {a0 : Nat} {z : Nat} {h : AH} {o : Int32 × Nat × AH} (hf : fX8_wouldEnd  a0 z h = some o) : J g MX8_wouldEnd (jN g (some (.int o.1), o.2.1, o.2.2) rmX8_wouldEnd.cells rmX8_wouldEnd.slots) 0 [some (.ref a0), none, none, none] [] z h 0 0 := by
  unfold fX8_wouldEnd at hf
  refine J_aload_n dX8_wouldEnd_0 rfl rfl ?_
  obtain ⟨k1, hf⟩ := gds hf
  obtain ⟨b2, rb2, hf⟩ := rfs hf
  refine G_8_1 dX8_wouldEnd_1 tk_248 k1 rb2 ?_
  refine J_aload_n dX8_wouldEnd_4 rfl rfl ?_
  obtain ⟨b3, rb3, hf⟩ := rfs hf
  refine G_8_0 dX8_wouldEnd_5 tk_247 k1 rb3 ?_
  obtain ⟨k4, hf⟩ := gds hf
  obtain ⟨zo5, ho5h, ho5, hf⟩ := rfs2 hf
  refine CV1v dX8_wouldEnd_8 (mX0_copyFrom hst ho5) tk_361 iX0_copyFrom k4 (by decide) rfl ⟨by decide, by decide⟩ ⟨by decide, by decide⟩ (Nat.le_of_ble_eq_true rfl) ?_
  refine J_iconst (v := 0) dX8_wouldEnd_11 (by decide) ?_
  refine S_istore_n_1 dX8_wouldEnd_12 rfl (by decide) ?_
  refine J_iconst (v := 0) dX8_wouldEnd_13 (by decide) ?_
  refine S_istore_n_2 dX8_wouldEnd_14 rfl (by decide) ?_
  refine J.sub (jsub_s (jsub_s (jsub_s (jsub_n (jsub_nil _))))) ?_
  exact wlX8_wouldEnd_15 hst   _ _ _ _ _ _ _ hf
theorem mX8_wouldEnd {g : JG} (hst : (jl g).stackTraces = false) {a0 : Nat} {z : Nat} {h : AH} {o : Int32 × Nat × AH} (hf : fX8_wouldEnd a0 z h = some o) : jMet g yX8_wouldEnd (wj yX8_wouldEnd cX8_wouldEnd 4 (some .int)) rmX8_wouldEnd [.ref a0] z h (some (.int o.1), o.2.1, o.2.2) :=
  jMet_mk (by decide) (Nat.le_of_ble_eq_true rfl) [some (.ref a0), none, none, none] rfl (wfX8_wouldEnd hst hf)
def bX8_type_28  (a0 : Nat) (x1 : Int32) (s0 : Int32) (z : Nat) (h : AH) : Option ((Int32 ⊕ String) × Nat × AH) :=
  bd3 (fX8_needState s0 z h) (fun vo1 zo1 ho1h => xr vo1 (fun v2 => gd (kd ho1h a0 = 9) (Option.bind (rv ho1h a0 6) (fun b5 => gd (kd ho1h b5 = 6) (bd3 (fX5_append b5 x1 zo1 ho1h) (fun vo7 zo7 ho7h => some (.inl vo7, zo7, ho7h)))))) (fun x3 => some (.inr x3, zo1, ho1h)))
def fX8_type  (a0 : Nat) (x1 : Int32) (z : Nat) (h : AH) : Option ((Int32 ⊕ String) × Nat × AH) :=
  bd3 (fX8_isWithin x1 32 126 z h) (fun vo1 zo1 ho1h => bd3 (fX8_needValue vo1 zo1 ho1h) (fun vo2 zo2 ho2h => xr vo2 (fun v3 => gd (kd ho2h a0 = 9) (Option.bind (rv ho2h a0 6) (fun b6 => gd (kd ho2h b6 = 6) ((if 120 ≤ (iv ho2h b6 1) then (bX8_type_28  a0 x1 0 zo2 ho2h) else (bX8_type_28  a0 x1 1 zo2 ho2h)))))) (fun x4 => some (.inr x4, zo2, ho2h))))
theorem wbX8_type_28R {g : JG} (hst : (jl g).stackTraces = false)   {a0 : Nat} {x1 : Int32} {s0 : Int32} {z : Nat} {h : AH} {o : (Int32 ⊕ String) × Nat × AH} (hf : bX8_type_28  a0 x1 s0 z h = some o) (hv : (∃ v, o.1 = .inl v)) : J g MX8_typeR (jV g (xoI o.1, o.2.1, o.2.2) rmX8_typeR.cells rmX8_typeR.slots) 28 [some (.ref a0), some (.int x1)] [.int s0] z h 0 0 := by
  unfold bX8_type_28 at hf
  obtain ⟨vo1, zo1, ho1h, ho1, hf⟩ := rfs3 hf
  rcases xrs hf with ⟨v2, ev2, hf⟩ | ⟨x3, ev2, hf⟩
  · refine XS1v dX8_type_28 (by have h9 := mX8_needStateR hst ho1 ⟨_, ev2⟩; rw [ev2] at h9; exact h9) tk_553 iX8_needState ⟨by decide, by decide⟩ ⟨by decide, by decide⟩ (Nat.le_of_ble_eq_true rfl) ?_
    refine J_aload_n dX8_type_31 rfl rfl ?_
    obtain ⟨k4, hf⟩ := gds hf
    obtain ⟨b5, rb5, hf⟩ := rfs hf
    refine G_8_6 dX8_type_32 tk_253 k4 rb5 ?_
    refine J_iload_n dX8_type_35 rfl rfl ?_
    obtain ⟨k6, hf⟩ := gds hf
    obtain ⟨vo7, zo7, ho7h, ho7, hf⟩ := rfs3 hf
    refine CV1i dX8_type_36 (mX5_append hst ho7) tk_882 iX5_append k6 (by decide) rfl ⟨by decide, by decide⟩ ⟨by decide, by decide⟩ (Nat.le_of_ble_eq_true rfl) ?_
    cases hf
    exact jN_V (J_iretN dX8_type_39 rfl (by decide) (by decide))
  · cases hf
    obtain ⟨_, hv⟩ := hv; cases hv
theorem wfX8_typeR {g : JG} (hst : (jl g).stackTraces = false)   {a0 : Nat} {x1 : Int32} {z : Nat} {h : AH} {o : (Int32 ⊕ String) × Nat × AH} (hf : fX8_type  a0 x1 z h = some o) (hv : (∃ v, o.1 = .inl v)) : J g MX8_typeR (jV g (xoI o.1, o.2.1, o.2.2) rmX8_typeR.cells rmX8_typeR.slots) 0 [some (.ref a0), some (.int x1)] [] z h 0 0 := by
  unfold fX8_type at hf
  refine J_iload_n dX8_type_0 rfl rfl ?_
  refine J_bipush (v := 32) dX8_type_1 (by decide) ?_
  refine J_bipush (v := 126) dX8_type_3 (by decide) ?_
  obtain ⟨vo1, zo1, ho1h, ho1, hf⟩ := rfs3 hf
  refine CS3i (host := "") dX8_type_5 (mX8_isWithin hst ho1) tk_281 iX8_isWithin ⟨by decide, by decide⟩ ⟨by decide, by decide⟩ (Nat.le_of_ble_eq_true rfl) ?_
  obtain ⟨vo2, zo2, ho2h, ho2, hf⟩ := rfs3 hf
  rcases xrs hf with ⟨v3, ev3, hf⟩ | ⟨x4, ev3, hf⟩
  · refine XS1v dX8_type_8 (by have h9 := mX8_needValueR hst ho2 ⟨_, ev3⟩; rw [ev3] at h9; exact h9) tk_505 iX8_needValue ⟨by decide, by decide⟩ ⟨by decide, by decide⟩ (Nat.le_of_ble_eq_true rfl) ?_
    refine J_aload_n dX8_type_11 rfl rfl ?_
    obtain ⟨k5, hf⟩ := gds hf
    obtain ⟨b6, rb6, hf⟩ := rfs hf
    refine G_8_6 dX8_type_12 tk_253 k5 rb6 ?_
    obtain ⟨k7, hf⟩ := gds hf
    refine G_5_1 dX8_type_15 tk_240 k7 ?_
    refine J_bipush (v := 120) dX8_type_18 (by decide) ?_
    rcases br hf with ⟨c8, hf⟩ | ⟨c8, hf⟩
    · refine J_icmp_ge (tgt := 27) dX8_type_20 (by decide) (fun _ => ?_) (fun w => absurd c8 w)
      refine J_iconst (v := 0) dX8_type_27 (by decide) ?_
      refine J.sub (jsub_s (jsub_s (jsub_nil _))) ?_
      refine J.widen (k' := 0) (n' := 0) (by decide) (by decide) ?_
      exact wbX8_type_28R hst   hf hv
    · refine J_icmp_ge (tgt := 27) dX8_type_20 (by decide) (fun w => absurd w c8) (fun _ => ?_)
      refine J_iconst (v := 1) dX8_type_23 (by decide) ?_
      refine J_goto (tgt := 28) dX8_type_24 (by decide) ?_
      refine J.sub (jsub_s (jsub_s (jsub_nil _))) ?_
      refine J.widen (k' := 0) (n' := 0) (by decide) (by decide) ?_
      exact wbX8_type_28R hst   hf hv
  · cases hf
    obtain ⟨_, hv⟩ := hv; cases hv
theorem mX8_typeR {g : JG} (hst : (jl g).stackTraces = false) {a0 : Nat} {x1 : Int32} {z : Nat} {h : AH} {o : (Int32 ⊕ String) × Nat × AH} (hf : fX8_type a0 x1 z h = some o) (hv : (∃ v, o.1 = .inl v)) : jMetX g yX8_type (wj yX8_type cX8_type 2 (some .int)) rmX8_typeR [.ref a0, .int x1] z h (xoI o.1, o.2.1, o.2.2) :=
  jMetX_mk (by decide) (Nat.le_of_ble_eq_true rfl) [some (.ref a0), some (.int x1)] rfl (wfX8_typeR hst hf hv)
theorem wbX8_type_28T {g : JG} (hst : (jl g).stackTraces = false)   {a0 : Nat} {x1 : Int32} {s0 : Int32} {z : Nat} {h : AH} {o : (Int32 ⊕ String) × Nat × AH} (hf : bX8_type_28  a0 x1 s0 z h = some o) (hv : (∃ v, o.1 = .inr v)) : J g MX8_typeT (jV g (xoI o.1, o.2.1, o.2.2) rmX8_typeT.cells rmX8_typeT.slots) 28 [some (.ref a0), some (.int x1)] [.int s0] z h 0 0 := by
  unfold bX8_type_28 at hf
  obtain ⟨vo1, zo1, ho1h, ho1, hf⟩ := rfs3 hf
  rcases xrs hf with ⟨v2, ev2, hf⟩ | ⟨x3, ev2, hf⟩
  · refine XS1v dX8_type_28 (by have h9 := mX8_needStateR hst ho1 ⟨_, ev2⟩; rw [ev2] at h9; exact h9) tk_553 iX8_needState ⟨by decide, by decide⟩ ⟨by decide, by decide⟩ (Nat.le_of_ble_eq_true rfl) ?_
    refine J_aload_n dX8_type_31 rfl rfl ?_
    obtain ⟨k4, hf⟩ := gds hf
    obtain ⟨b5, rb5, hf⟩ := rfs hf
    refine G_8_6 dX8_type_32 tk_253 k4 rb5 ?_
    refine J_iload_n dX8_type_35 rfl rfl ?_
    obtain ⟨k6, hf⟩ := gds hf
    obtain ⟨vo7, zo7, ho7h, ho7, hf⟩ := rfs3 hf
    refine CV1i dX8_type_36 (mX5_append hst ho7) tk_882 iX5_append k6 (by decide) rfl ⟨by decide, by decide⟩ ⟨by decide, by decide⟩ (Nat.le_of_ble_eq_true rfl) ?_
    cases hf
    obtain ⟨_, hv⟩ := hv; cases hv
  · cases hf
    exact XS1t dX8_type_28 (by have h9 := mX8_needStateT hst ho1 ⟨_, ev2⟩; rw [ev2] at h9; exact h9) tk_553 iX8_needState ⟨by decide, by decide⟩ ⟨by decide, by decide⟩ (Nat.le_of_ble_eq_true rfl) rfl (by decide) (by decide)
theorem wfX8_typeT {g : JG} (hst : (jl g).stackTraces = false)   {a0 : Nat} {x1 : Int32} {z : Nat} {h : AH} {o : (Int32 ⊕ String) × Nat × AH} (hf : fX8_type  a0 x1 z h = some o) (hv : (∃ v, o.1 = .inr v)) : J g MX8_typeT (jV g (xoI o.1, o.2.1, o.2.2) rmX8_typeT.cells rmX8_typeT.slots) 0 [some (.ref a0), some (.int x1)] [] z h 0 0 := by
  unfold fX8_type at hf
  refine J_iload_n dX8_type_0 rfl rfl ?_
  refine J_bipush (v := 32) dX8_type_1 (by decide) ?_
  refine J_bipush (v := 126) dX8_type_3 (by decide) ?_
  obtain ⟨vo1, zo1, ho1h, ho1, hf⟩ := rfs3 hf
  refine CS3i (host := "") dX8_type_5 (mX8_isWithin hst ho1) tk_281 iX8_isWithin ⟨by decide, by decide⟩ ⟨by decide, by decide⟩ (Nat.le_of_ble_eq_true rfl) ?_
  obtain ⟨vo2, zo2, ho2h, ho2, hf⟩ := rfs3 hf
  rcases xrs hf with ⟨v3, ev3, hf⟩ | ⟨x4, ev3, hf⟩
  · refine XS1v dX8_type_8 (by have h9 := mX8_needValueR hst ho2 ⟨_, ev3⟩; rw [ev3] at h9; exact h9) tk_505 iX8_needValue ⟨by decide, by decide⟩ ⟨by decide, by decide⟩ (Nat.le_of_ble_eq_true rfl) ?_
    refine J_aload_n dX8_type_11 rfl rfl ?_
    obtain ⟨k5, hf⟩ := gds hf
    obtain ⟨b6, rb6, hf⟩ := rfs hf
    refine G_8_6 dX8_type_12 tk_253 k5 rb6 ?_
    obtain ⟨k7, hf⟩ := gds hf
    refine G_5_1 dX8_type_15 tk_240 k7 ?_
    refine J_bipush (v := 120) dX8_type_18 (by decide) ?_
    rcases br hf with ⟨c8, hf⟩ | ⟨c8, hf⟩
    · refine J_icmp_ge (tgt := 27) dX8_type_20 (by decide) (fun _ => ?_) (fun w => absurd c8 w)
      refine J_iconst (v := 0) dX8_type_27 (by decide) ?_
      refine J.sub (jsub_s (jsub_s (jsub_nil _))) ?_
      refine J.widen (k' := 0) (n' := 0) (by decide) (by decide) ?_
      exact wbX8_type_28T hst   hf hv
    · refine J_icmp_ge (tgt := 27) dX8_type_20 (by decide) (fun w => absurd w c8) (fun _ => ?_)
      refine J_iconst (v := 1) dX8_type_23 (by decide) ?_
      refine J_goto (tgt := 28) dX8_type_24 (by decide) ?_
      refine J.sub (jsub_s (jsub_s (jsub_nil _))) ?_
      refine J.widen (k' := 0) (n' := 0) (by decide) (by decide) ?_
      exact wbX8_type_28T hst   hf hv
  · cases hf
    exact XS1t dX8_type_8 (by have h9 := mX8_needValueT hst ho2 ⟨_, ev3⟩; rw [ev3] at h9; exact h9) tk_505 iX8_needValue ⟨by decide, by decide⟩ ⟨by decide, by decide⟩ (Nat.le_of_ble_eq_true rfl) rfl (by decide) (by decide)
theorem mX8_typeT {g : JG} (hst : (jl g).stackTraces = false) {a0 : Nat} {x1 : Int32} {z : Nat} {h : AH} {o : (Int32 ⊕ String) × Nat × AH} (hf : fX8_type a0 x1 z h = some o) (hv : (∃ v, o.1 = .inr v)) : jMetX g yX8_type (wj yX8_type cX8_type 2 (some .int)) rmX8_typeT [.ref a0, .int x1] z h (xoI o.1, o.2.1, o.2.2) :=
  jMetX_mk (by decide) (Nat.le_of_ble_eq_true rfl) [some (.ref a0), some (.int x1)] rfl (wfX8_typeT hst hf hv)
def fX8_clearText  (a0 : Nat) (z : Nat) (h : AH) : Option (Int32 × Nat × AH) :=
  gd (kd h a0 = 9) (Option.bind (rv h a0 6) (fun b2 => gd (kd h b2 = 6) (bl ((iv h b2 1)) (fun v4 => Option.bind (rv h a0 6) (fun b5 => gd (kd h b5 = 6) (bl (wI h b5 1 0) (fun h7 => some (v4, z, h7))))))))
theorem wfX8_clearText {g : JG} (hst : (jl g).stackTraces = false)   {a0 : Nat} {z : Nat} {h : AH} {o : Int32 × Nat × AH} (hf : fX8_clearText  a0 z h = some o) : J g MX8_clearText (jN g (some (.int o.1), o.2.1, o.2.2) rmX8_clearText.cells rmX8_clearText.slots) 0 [some (.ref a0), none] [] z h 0 0 := by
  unfold fX8_clearText at hf
  refine J_aload_n dX8_clearText_0 rfl rfl ?_
  obtain ⟨k1, hf⟩ := gds hf
  obtain ⟨b2, rb2, hf⟩ := rfs hf
  refine G_8_6 dX8_clearText_1 tk_253 k1 rb2 ?_
  obtain ⟨k3, hf⟩ := gds hf
  refine G_5_1 dX8_clearText_4 tk_240 k3 ?_
  obtain ⟨v4, ev4, hf⟩ := bls hf
  refine J_i ev4 ?_
  refine S_istore_n_1 dX8_clearText_7 rfl (by decide) ?_
  refine J_aload_n dX8_clearText_8 rfl rfl ?_
  obtain ⟨b5, rb5, hf⟩ := rfs hf
  refine G_8_6 dX8_clearText_9 tk_253 k1 rb5 ?_
  refine J_iconst (v := 0) dX8_clearText_12 (by decide) ?_
  obtain ⟨k6, hf⟩ := gds hf
  refine P_5_1 dX8_clearText_13 tk_240 k6 ?_
  obtain ⟨h7, eh7, hf⟩ := bls hf
  refine J_h eh7 ?_
  refine J_iload_n dX8_clearText_16 rfl rfl ?_
  cases hf
  exact J_iretN dX8_clearText_17 rfl (by decide) (by decide)
theorem mX8_clearText {g : JG} (hst : (jl g).stackTraces = false) {a0 : Nat} {z : Nat} {h : AH} {o : Int32 × Nat × AH} (hf : fX8_clearText a0 z h = some o) : jMet g yX8_clearText (wj yX8_clearText cX8_clearText 2 (some .int)) rmX8_clearText [.ref a0] z h (some (.int o.1), o.2.1, o.2.2) :=
  jMet_mk (by decide) (Nat.le_of_ble_eq_true rfl) [some (.ref a0), none] rfl (wfX8_clearText hst hf)
def fX8_fault  (a0 : Nat) (z : Nat) (h : AH) : Option (Int32 × Nat × AH) :=
  gd (kd h a0 = 9) (Option.bind (rv h a0 6) (fun b2 => gd (kd h b2 = 6) (bd3 (fX5_firstFault b2 z h) (fun vo4 zo4 ho4h => some (vo4, zo4, ho4h)))))
theorem wfX8_fault {g : JG} (hst : (jl g).stackTraces = false)   {a0 : Nat} {z : Nat} {h : AH} {o : Int32 × Nat × AH} (hf : fX8_fault  a0 z h = some o) : J g MX8_fault (jN g (some (.int o.1), o.2.1, o.2.2) rmX8_fault.cells rmX8_fault.slots) 0 [some (.ref a0)] [] z h 0 0 := by
  unfold fX8_fault at hf
  refine J_aload_n dX8_fault_0 rfl rfl ?_
  obtain ⟨k1, hf⟩ := gds hf
  obtain ⟨b2, rb2, hf⟩ := rfs hf
  refine G_8_6 dX8_fault_1 tk_253 k1 rb2 ?_
  obtain ⟨k3, hf⟩ := gds hf
  obtain ⟨vo4, zo4, ho4h, ho4, hf⟩ := rfs3 hf
  refine CV0i dX8_fault_4 (mX5_firstFault hst ho4) tk_410 iX5_firstFault k3 (by decide) rfl ⟨by decide, by decide⟩ ⟨by decide, by decide⟩ (Nat.le_of_ble_eq_true rfl) ?_
  cases hf
  exact J_iretN dX8_fault_7 rfl (by decide) (by decide)
theorem mX8_fault {g : JG} (hst : (jl g).stackTraces = false) {a0 : Nat} {z : Nat} {h : AH} {o : Int32 × Nat × AH} (hf : fX8_fault a0 z h = some o) : jMet g yX8_fault (wj yX8_fault cX8_fault 1 (some .int)) rmX8_fault [.ref a0] z h (some (.int o.1), o.2.1, o.2.2) :=
  jMet_mk (by decide) (Nat.le_of_ble_eq_true rfl) [some (.ref a0)] rfl (wfX8_fault hst hf)
def fX8_isAllowed  (a0 : Nat) (x1 : Int32) (x2 : Int32) (x3 : Int32) (z : Nat) (h : AH) : Option (Int32 × Nat × AH) :=
  (if x1 = 97 then (gd (kd h a0 = 9) (Option.bind (rv h a0 0) (fun b3 => gd (kd h b3 = 1) (bd3 (fX0_has b3 x3 z h) (fun vo5 zo5 ho5h => (if vo5 = 0 then (some (0, zo5, ho5h)) else (gd (kd ho5h a0 = 9) (Option.bind (rv ho5h a0 0) (fun b8 => gd (kd ho5h b8 = 1) (bd3 (fX0_isIn b8 x3 2 zo5 ho5h) (fun vo10 zo10 ho10h => (if vo10 = 0 then (some (1, zo10, ho10h)) else (some (0, zo10, ho10h)))))))))))))) else (if x1 = 98 then (gd (kd h a0 = 9) (Option.bind (rv h a0 0) (fun b14 => gd (kd h b14 = 1) (bd3 (fX0_isIn b14 x3 2 z h) (fun vo16 zo16 ho16h => gd (vo16 = 0 ∨ vo16 = 1) (some (vo16, zo16, ho16h))))))) else (if x1 = 99 then (some (0, z, h)) else (if x1 = 100 then (bd3 (fX8_isWithin x3 1 99 z h) (fun vo19 zo19 ho19h => gd (vo19 = 0 ∨ vo19 = 1) (some (vo19, zo19, ho19h)))) else (if x1 = 101 then (some (0, z, h)) else (if x1 = 102 then (gd (kd h a0 = 9) (Option.bind (rv h a0 0) (fun b23 => gd (kd h b23 = 1) (bd3 (fX0_isIn b23 x3 0 z h) (fun vo25 zo25 ho25h => gd (vo25 = 0 ∨ vo25 = 1) (some (vo25, zo25, ho25h))))))) else (if x1 = 103 then (some (0, z, h)) else (if x1 = 104 then (some (0, z, h)) else (if x1 = 105 then (some (0, z, h)) else (if x1 = 106 then (some (0, z, h)) else (if x1 = 107 then (some (0, z, h)) else (if x1 = 108 then (gd (kd h a0 = 9) (Option.bind (rv h a0 0) (fun b33 => gd (kd h b33 = 1) (bd3 (fX0_holds b33 x2 x3 z h) (fun vo35 zo35 ho35h => gd (vo35 = 0 ∨ vo35 = 1) (some (vo35, zo35, ho35h))))))) else (if x1 = 109 then (some (0, z, h)) else (if x1 = 110 then (some (0, z, h)) else (if x1 = 111 then (some (0, z, h)) else (if x1 = 112 then (gd (kd h a0 = 9) (Option.bind (rv h a0 0) (fun b41 => gd (kd h b41 = 1) (bd3 (fX0_isIn b41 x3 1 z h) (fun vo43 zo43 ho43h => gd (vo43 = 0 ∨ vo43 = 1) (some (vo43, zo43, ho43h))))))) else (if x1 = 113 then (gd (kd h a0 = 9) (Option.bind (rv h a0 0) (fun b46 => gd (kd h b46 = 1) (bd3 (fX0_isIn b46 x2 0 z h) (fun vo48 zo48 ho48h => (if vo48 = 0 then (some (0, zo48, ho48h)) else (gd (kd ho48h a0 = 9) (Option.bind (rv ho48h a0 0) (fun b51 => gd (kd ho48h b51 = 1) (Option.bind (rv ho48h b51 0) (fun b53 => gd (kd ho48h b53 = 3) (bd3 (fX2_has b53 x3 zo48 ho48h) (fun vo55 zo55 ho55h => (if vo55 = 0 then (some (0, zo55, ho55h)) else (some (1, zo55, ho55h)))))))))))))))) else (if x1 = 114 then (some (0, z, h)) else (if x1 = 115 then (some (0, z, h)) else (if x1 = 116 then (bd3 (fX8_isWithin x3 1 99 z h) (fun vo60 zo60 ho60h => (if vo60 = 0 then (some (0, zo60, ho60h)) else (gd (kd ho60h a0 = 9) (Option.bind (rv ho60h a0 0) (fun b63 => gd (kd ho60h b63 = 1) (bd3 (fX0_freeNumber b63 zo60 ho60h) (fun vo65 zo65 ho65h => (if vo65 = (-1) then (some (0, zo65, ho65h)) else (some (1, zo65, ho65h))))))))))) else (some (0, z, h))))))))))))))))))))))
theorem wfX8_isAllowed {g : JG} (hst : (jl g).stackTraces = false)   {a0 : Nat} {x1 : Int32} {x2 : Int32} {x3 : Int32} {z : Nat} {h : AH} {o : Int32 × Nat × AH} (hf : fX8_isAllowed  a0 x1 x2 x3 z h = some o) : J g MX8_isAllowed (jN g (some (.int o.1), o.2.1, o.2.2) rmX8_isAllowed.cells rmX8_isAllowed.slots) 0 [some (.ref a0), some (.int x1), some (.int x2), some (.int x3)] [] z h 0 0 := by
  unfold fX8_isAllowed at hf
  refine J_iload_n dX8_isAllowed_0 rfl rfl ?_
  rcases br hf with ⟨c1, hf⟩ | ⟨c1, hf⟩
  · refine J_tableC (off := 174) (tgt := 175) c1 dX8_isAllowed_1 (by decide) (by decide) (by decide) (by decide) ?_
    refine J_aload_n dX8_isAllowed_175 rfl rfl ?_
    obtain ⟨k2, hf⟩ := gds hf
    obtain ⟨b3, rb3, hf⟩ := rfs hf
    refine G_8_0 dX8_isAllowed_176 tk_247 k2 rb3 ?_
    refine J_iload_n dX8_isAllowed_179 rfl rfl ?_
    obtain ⟨k4, hf⟩ := gds hf
    obtain ⟨vo5, zo5, ho5h, ho5, hf⟩ := rfs3 hf
    refine CV1i dX8_isAllowed_180 (mX0_has hst ho5) tk_429 iX0_has k4 (by decide) rfl ⟨by decide, by decide⟩ ⟨by decide, by decide⟩ (Nat.le_of_ble_eq_true rfl) ?_
    rcases br hf with ⟨c6, hf⟩ | ⟨c6, hf⟩
    · refine J_if_eq (tgt := 202) dX8_isAllowed_183 (by decide) (fun _ => ?_) (fun w => absurd c6 w)
      refine J_iconst (v := 0) dX8_isAllowed_202 (by decide) ?_
      cases hf
      exact J_zretN dX8_isAllowed_203 rfl (Or.inl rfl) (by decide) (by decide)
    · refine J_if_eq (tgt := 202) dX8_isAllowed_183 (by decide) (fun w => absurd w c6) (fun _ => ?_)
      refine J_aload_n dX8_isAllowed_186 rfl rfl ?_
      obtain ⟨k7, hf⟩ := gds hf
      obtain ⟨b8, rb8, hf⟩ := rfs hf
      refine G_8_0 dX8_isAllowed_187 tk_247 k7 rb8 ?_
      refine J_iload_n dX8_isAllowed_190 rfl rfl ?_
      refine J_iconst (v := 2) dX8_isAllowed_191 (by decide) ?_
      obtain ⟨k9, hf⟩ := gds hf
      obtain ⟨vo10, zo10, ho10h, ho10, hf⟩ := rfs3 hf
      refine CV2i dX8_isAllowed_192 (mX0_isIn hst ho10) tk_638 iX0_isIn k9 (by decide) rfl ⟨by decide, by decide⟩ ⟨by decide, by decide⟩ (Nat.le_of_ble_eq_true rfl) ?_
      rcases br hf with ⟨c11, hf⟩ | ⟨c11, hf⟩
      · refine J_if_ne (tgt := 202) dX8_isAllowed_195 (by decide) (fun w => absurd c11 w) (fun _ => ?_)
        refine J_iconst (v := 1) dX8_isAllowed_198 (by decide) ?_
        refine J_goto (tgt := 203) dX8_isAllowed_199 (by decide) ?_
        cases hf
        exact J_zretN dX8_isAllowed_203 rfl (Or.inr rfl) (by decide) (by decide)
      · refine J_if_ne (tgt := 202) dX8_isAllowed_195 (by decide) (fun _ => ?_) (fun w => absurd w c11)
        refine J_iconst (v := 0) dX8_isAllowed_202 (by decide) ?_
        cases hf
        exact J_zretN dX8_isAllowed_203 rfl (Or.inl rfl) (by decide) (by decide)
  · skip
    rcases br hf with ⟨c12, hf⟩ | ⟨c12, hf⟩
    · refine J_tableC (off := 203) (tgt := 204) c12 dX8_isAllowed_1 (by decide) (by decide) (by decide) (by decide) ?_
      refine J_aload_n dX8_isAllowed_204 rfl rfl ?_
      obtain ⟨k13, hf⟩ := gds hf
      obtain ⟨b14, rb14, hf⟩ := rfs hf
      refine G_8_0 dX8_isAllowed_205 tk_247 k13 rb14 ?_
      refine J_iload_n dX8_isAllowed_208 rfl rfl ?_
      refine J_iconst (v := 2) dX8_isAllowed_209 (by decide) ?_
      obtain ⟨k15, hf⟩ := gds hf
      obtain ⟨vo16, zo16, ho16h, ho16, hf⟩ := rfs3 hf
      refine CV2i dX8_isAllowed_210 (mX0_isIn hst ho16) tk_638 iX0_isIn k15 (by decide) rfl ⟨by decide, by decide⟩ ⟨by decide, by decide⟩ (Nat.le_of_ble_eq_true rfl) ?_
      obtain ⟨z9, hf⟩ := gds hf
      cases hf
      exact J_zretN dX8_isAllowed_213 rfl z9 (by decide) (by decide)
    · skip
      rcases br hf with ⟨c17, hf⟩ | ⟨c17, hf⟩
      · refine J_tableC (off := 231) (tgt := 232) c17 dX8_isAllowed_1 (by decide) (by decide) (by decide) (by decide) ?_
        refine J_iconst (v := 0) dX8_isAllowed_232 (by decide) ?_
        cases hf
        exact J_zretN dX8_isAllowed_233 rfl (Or.inl rfl) (by decide) (by decide)
      · skip
        rcases br hf with ⟨c18, hf⟩ | ⟨c18, hf⟩
        · refine J_tableC (off := 223) (tgt := 224) c18 dX8_isAllowed_1 (by decide) (by decide) (by decide) (by decide) ?_
          refine J_iload_n dX8_isAllowed_224 rfl rfl ?_
          refine J_iconst (v := 1) dX8_isAllowed_225 (by decide) ?_
          refine J_bipush (v := 99) dX8_isAllowed_226 (by decide) ?_
          obtain ⟨vo19, zo19, ho19h, ho19, hf⟩ := rfs3 hf
          refine CS3i (host := "") dX8_isAllowed_228 (mX8_isWithin hst ho19) tk_281 iX8_isWithin ⟨by decide, by decide⟩ ⟨by decide, by decide⟩ (Nat.le_of_ble_eq_true rfl) ?_
          obtain ⟨z9, hf⟩ := gds hf
          cases hf
          exact J_zretN dX8_isAllowed_231 rfl z9 (by decide) (by decide)
        · skip
          rcases br hf with ⟨c20, hf⟩ | ⟨c20, hf⟩
          · refine J_tableC (off := 231) (tgt := 232) c20 dX8_isAllowed_1 (by decide) (by decide) (by decide) (by decide) ?_
            refine J_iconst (v := 0) dX8_isAllowed_232 (by decide) ?_
            cases hf
            exact J_zretN dX8_isAllowed_233 rfl (Or.inl rfl) (by decide) (by decide)
          · skip
            rcases br hf with ⟨c21, hf⟩ | ⟨c21, hf⟩
            · refine J_tableC (off := 164) (tgt := 165) c21 dX8_isAllowed_1 (by decide) (by decide) (by decide) (by decide) ?_
              refine J_aload_n dX8_isAllowed_165 rfl rfl ?_
              obtain ⟨k22, hf⟩ := gds hf
              obtain ⟨b23, rb23, hf⟩ := rfs hf
              refine G_8_0 dX8_isAllowed_166 tk_247 k22 rb23 ?_
              refine J_iload_n dX8_isAllowed_169 rfl rfl ?_
              refine J_iconst (v := 0) dX8_isAllowed_170 (by decide) ?_
              obtain ⟨k24, hf⟩ := gds hf
              obtain ⟨vo25, zo25, ho25h, ho25, hf⟩ := rfs3 hf
              refine CV2i dX8_isAllowed_171 (mX0_isIn hst ho25) tk_638 iX0_isIn k24 (by decide) rfl ⟨by decide, by decide⟩ ⟨by decide, by decide⟩ (Nat.le_of_ble_eq_true rfl) ?_
              obtain ⟨z9, hf⟩ := gds hf
              cases hf
              exact J_zretN dX8_isAllowed_174 rfl z9 (by decide) (by decide)
            · skip
              rcases br hf with ⟨c26, hf⟩ | ⟨c26, hf⟩
              · refine J_tableC (off := 231) (tgt := 232) c26 dX8_isAllowed_1 (by decide) (by decide) (by decide) (by decide) ?_
                refine J_iconst (v := 0) dX8_isAllowed_232 (by decide) ?_
                cases hf
                exact J_zretN dX8_isAllowed_233 rfl (Or.inl rfl) (by decide) (by decide)
              · skip
                rcases br hf with ⟨c27, hf⟩ | ⟨c27, hf⟩
                · refine J_tableC (off := 231) (tgt := 232) c27 dX8_isAllowed_1 (by decide) (by decide) (by decide) (by decide) ?_
                  refine J_iconst (v := 0) dX8_isAllowed_232 (by decide) ?_
                  cases hf
                  exact J_zretN dX8_isAllowed_233 rfl (Or.inl rfl) (by decide) (by decide)
                · skip
                  rcases br hf with ⟨c28, hf⟩ | ⟨c28, hf⟩
                  · refine J_tableC (off := 231) (tgt := 232) c28 dX8_isAllowed_1 (by decide) (by decide) (by decide) (by decide) ?_
                    refine J_iconst (v := 0) dX8_isAllowed_232 (by decide) ?_
                    cases hf
                    exact J_zretN dX8_isAllowed_233 rfl (Or.inl rfl) (by decide) (by decide)
                  · skip
                    rcases br hf with ⟨c29, hf⟩ | ⟨c29, hf⟩
                    · refine J_tableC (off := 231) (tgt := 232) c29 dX8_isAllowed_1 (by decide) (by decide) (by decide) (by decide) ?_
                      refine J_iconst (v := 0) dX8_isAllowed_232 (by decide) ?_
                      cases hf
                      exact J_zretN dX8_isAllowed_233 rfl (Or.inl rfl) (by decide) (by decide)
                    · skip
                      rcases br hf with ⟨c30, hf⟩ | ⟨c30, hf⟩
                      · refine J_tableC (off := 231) (tgt := 232) c30 dX8_isAllowed_1 (by decide) (by decide) (by decide) (by decide) ?_
                        refine J_iconst (v := 0) dX8_isAllowed_232 (by decide) ?_
                        cases hf
                        exact J_zretN dX8_isAllowed_233 rfl (Or.inl rfl) (by decide) (by decide)
                      · skip
                        rcases br hf with ⟨c31, hf⟩ | ⟨c31, hf⟩
                        · refine J_tableC (off := 154) (tgt := 155) c31 dX8_isAllowed_1 (by decide) (by decide) (by decide) (by decide) ?_
                          refine J_aload_n dX8_isAllowed_155 rfl rfl ?_
                          obtain ⟨k32, hf⟩ := gds hf
                          obtain ⟨b33, rb33, hf⟩ := rfs hf
                          refine G_8_0 dX8_isAllowed_156 tk_247 k32 rb33 ?_
                          refine J_iload_n dX8_isAllowed_159 rfl rfl ?_
                          refine J_iload_n dX8_isAllowed_160 rfl rfl ?_
                          obtain ⟨k34, hf⟩ := gds hf
                          obtain ⟨vo35, zo35, ho35h, ho35, hf⟩ := rfs3 hf
                          refine CV2i dX8_isAllowed_161 (mX0_holds hst ho35) tk_684 iX0_holds k34 (by decide) rfl ⟨by decide, by decide⟩ ⟨by decide, by decide⟩ (Nat.le_of_ble_eq_true rfl) ?_
                          obtain ⟨z9, hf⟩ := gds hf
                          cases hf
                          exact J_zretN dX8_isAllowed_164 rfl z9 (by decide) (by decide)
                        · skip
                          rcases br hf with ⟨c36, hf⟩ | ⟨c36, hf⟩
                          · refine J_tableC (off := 231) (tgt := 232) c36 dX8_isAllowed_1 (by decide) (by decide) (by decide) (by decide) ?_
                            refine J_iconst (v := 0) dX8_isAllowed_232 (by decide) ?_
                            cases hf
                            exact J_zretN dX8_isAllowed_233 rfl (Or.inl rfl) (by decide) (by decide)
                          · skip
                            rcases br hf with ⟨c37, hf⟩ | ⟨c37, hf⟩
                            · refine J_tableC (off := 231) (tgt := 232) c37 dX8_isAllowed_1 (by decide) (by decide) (by decide) (by decide) ?_
                              refine J_iconst (v := 0) dX8_isAllowed_232 (by decide) ?_
                              cases hf
                              exact J_zretN dX8_isAllowed_233 rfl (Or.inl rfl) (by decide) (by decide)
                            · skip
                              rcases br hf with ⟨c38, hf⟩ | ⟨c38, hf⟩
                              · refine J_tableC (off := 231) (tgt := 232) c38 dX8_isAllowed_1 (by decide) (by decide) (by decide) (by decide) ?_
                                refine J_iconst (v := 0) dX8_isAllowed_232 (by decide) ?_
                                cases hf
                                exact J_zretN dX8_isAllowed_233 rfl (Or.inl rfl) (by decide) (by decide)
                              · skip
                                rcases br hf with ⟨c39, hf⟩ | ⟨c39, hf⟩
                                · refine J_tableC (off := 213) (tgt := 214) c39 dX8_isAllowed_1 (by decide) (by decide) (by decide) (by decide) ?_
                                  refine J_aload_n dX8_isAllowed_214 rfl rfl ?_
                                  obtain ⟨k40, hf⟩ := gds hf
                                  obtain ⟨b41, rb41, hf⟩ := rfs hf
                                  refine G_8_0 dX8_isAllowed_215 tk_247 k40 rb41 ?_
                                  refine J_iload_n dX8_isAllowed_218 rfl rfl ?_
                                  refine J_iconst (v := 1) dX8_isAllowed_219 (by decide) ?_
                                  obtain ⟨k42, hf⟩ := gds hf
                                  obtain ⟨vo43, zo43, ho43h, ho43, hf⟩ := rfs3 hf
                                  refine CV2i dX8_isAllowed_220 (mX0_isIn hst ho43) tk_638 iX0_isIn k42 (by decide) rfl ⟨by decide, by decide⟩ ⟨by decide, by decide⟩ (Nat.le_of_ble_eq_true rfl) ?_
                                  obtain ⟨z9, hf⟩ := gds hf
                                  cases hf
                                  exact J_zretN dX8_isAllowed_223 rfl z9 (by decide) (by decide)
                                · skip
                                  rcases br hf with ⟨c44, hf⟩ | ⟨c44, hf⟩
                                  · refine J_tableC (off := 122) (tgt := 123) c44 dX8_isAllowed_1 (by decide) (by decide) (by decide) (by decide) ?_
                                    refine J_aload_n dX8_isAllowed_123 rfl rfl ?_
                                    obtain ⟨k45, hf⟩ := gds hf
                                    obtain ⟨b46, rb46, hf⟩ := rfs hf
                                    refine G_8_0 dX8_isAllowed_124 tk_247 k45 rb46 ?_
                                    refine J_iload_n dX8_isAllowed_127 rfl rfl ?_
                                    refine J_iconst (v := 0) dX8_isAllowed_128 (by decide) ?_
                                    obtain ⟨k47, hf⟩ := gds hf
                                    obtain ⟨vo48, zo48, ho48h, ho48, hf⟩ := rfs3 hf
                                    refine CV2i dX8_isAllowed_129 (mX0_isIn hst ho48) tk_638 iX0_isIn k47 (by decide) rfl ⟨by decide, by decide⟩ ⟨by decide, by decide⟩ (Nat.le_of_ble_eq_true rfl) ?_
                                    rcases br hf with ⟨c49, hf⟩ | ⟨c49, hf⟩
                                    · refine J_if_eq (tgt := 153) dX8_isAllowed_132 (by decide) (fun _ => ?_) (fun w => absurd c49 w)
                                      refine J_iconst (v := 0) dX8_isAllowed_153 (by decide) ?_
                                      cases hf
                                      exact J_zretN dX8_isAllowed_154 rfl (Or.inl rfl) (by decide) (by decide)
                                    · refine J_if_eq (tgt := 153) dX8_isAllowed_132 (by decide) (fun w => absurd w c49) (fun _ => ?_)
                                      refine J_aload_n dX8_isAllowed_135 rfl rfl ?_
                                      obtain ⟨k50, hf⟩ := gds hf
                                      obtain ⟨b51, rb51, hf⟩ := rfs hf
                                      refine G_8_0 dX8_isAllowed_136 tk_247 k50 rb51 ?_
                                      obtain ⟨k52, hf⟩ := gds hf
                                      obtain ⟨b53, rb53, hf⟩ := rfs hf
                                      refine G_0_0 dX8_isAllowed_139 tk_92 k52 rb53 ?_
                                      refine J_iload_n dX8_isAllowed_142 rfl rfl ?_
                                      obtain ⟨k54, hf⟩ := gds hf
                                      obtain ⟨vo55, zo55, ho55h, ho55, hf⟩ := rfs3 hf
                                      refine CV1i dX8_isAllowed_143 (mX2_has hst ho55) tk_552 iX2_has k54 (by decide) rfl ⟨by decide, by decide⟩ ⟨by decide, by decide⟩ (Nat.le_of_ble_eq_true rfl) ?_
                                      rcases br hf with ⟨c56, hf⟩ | ⟨c56, hf⟩
                                      · refine J_if_eq (tgt := 153) dX8_isAllowed_146 (by decide) (fun _ => ?_) (fun w => absurd c56 w)
                                        refine J_iconst (v := 0) dX8_isAllowed_153 (by decide) ?_
                                        cases hf
                                        exact J_zretN dX8_isAllowed_154 rfl (Or.inl rfl) (by decide) (by decide)
                                      · refine J_if_eq (tgt := 153) dX8_isAllowed_146 (by decide) (fun w => absurd w c56) (fun _ => ?_)
                                        refine J_iconst (v := 1) dX8_isAllowed_149 (by decide) ?_
                                        refine J_goto (tgt := 154) dX8_isAllowed_150 (by decide) ?_
                                        cases hf
                                        exact J_zretN dX8_isAllowed_154 rfl (Or.inr rfl) (by decide) (by decide)
                                  · skip
                                    rcases br hf with ⟨c57, hf⟩ | ⟨c57, hf⟩
                                    · refine J_tableC (off := 231) (tgt := 232) c57 dX8_isAllowed_1 (by decide) (by decide) (by decide) (by decide) ?_
                                      refine J_iconst (v := 0) dX8_isAllowed_232 (by decide) ?_
                                      cases hf
                                      exact J_zretN dX8_isAllowed_233 rfl (Or.inl rfl) (by decide) (by decide)
                                    · skip
                                      rcases br hf with ⟨c58, hf⟩ | ⟨c58, hf⟩
                                      · refine J_tableC (off := 231) (tgt := 232) c58 dX8_isAllowed_1 (by decide) (by decide) (by decide) (by decide) ?_
                                        refine J_iconst (v := 0) dX8_isAllowed_232 (by decide) ?_
                                        cases hf
                                        exact J_zretN dX8_isAllowed_233 rfl (Or.inl rfl) (by decide) (by decide)
                                      · skip
                                        rcases br hf with ⟨c59, hf⟩ | ⟨c59, hf⟩
                                        · refine J_tableC (off := 95) (tgt := 96) c59 dX8_isAllowed_1 (by decide) (by decide) (by decide) (by decide) ?_
                                          refine J_iload_n dX8_isAllowed_96 rfl rfl ?_
                                          refine J_iconst (v := 1) dX8_isAllowed_97 (by decide) ?_
                                          refine J_bipush (v := 99) dX8_isAllowed_98 (by decide) ?_
                                          obtain ⟨vo60, zo60, ho60h, ho60, hf⟩ := rfs3 hf
                                          refine CS3i (host := "") dX8_isAllowed_100 (mX8_isWithin hst ho60) tk_281 iX8_isWithin ⟨by decide, by decide⟩ ⟨by decide, by decide⟩ (Nat.le_of_ble_eq_true rfl) ?_
                                          rcases br hf with ⟨c61, hf⟩ | ⟨c61, hf⟩
                                          · refine J_if_eq (tgt := 121) dX8_isAllowed_103 (by decide) (fun _ => ?_) (fun w => absurd c61 w)
                                            refine J_iconst (v := 0) dX8_isAllowed_121 (by decide) ?_
                                            cases hf
                                            exact J_zretN dX8_isAllowed_122 rfl (Or.inl rfl) (by decide) (by decide)
                                          · refine J_if_eq (tgt := 121) dX8_isAllowed_103 (by decide) (fun w => absurd w c61) (fun _ => ?_)
                                            refine J_aload_n dX8_isAllowed_106 rfl rfl ?_
                                            obtain ⟨k62, hf⟩ := gds hf
                                            obtain ⟨b63, rb63, hf⟩ := rfs hf
                                            refine G_8_0 dX8_isAllowed_107 tk_247 k62 rb63 ?_
                                            obtain ⟨k64, hf⟩ := gds hf
                                            obtain ⟨vo65, zo65, ho65h, ho65, hf⟩ := rfs3 hf
                                            refine CV0i dX8_isAllowed_110 (mX0_freeNumber hst ho65) tk_621 iX0_freeNumber k64 (by decide) rfl ⟨by decide, by decide⟩ ⟨by decide, by decide⟩ (Nat.le_of_ble_eq_true rfl) ?_
                                            refine J_iconst (v := (-1)) dX8_isAllowed_113 (by decide) ?_
                                            rcases br hf with ⟨c66, hf⟩ | ⟨c66, hf⟩
                                            · refine J_icmp_eq (tgt := 121) dX8_isAllowed_114 (by decide) (fun _ => ?_) (fun w => absurd c66 w)
                                              refine J_iconst (v := 0) dX8_isAllowed_121 (by decide) ?_
                                              cases hf
                                              exact J_zretN dX8_isAllowed_122 rfl (Or.inl rfl) (by decide) (by decide)
                                            · refine J_icmp_eq (tgt := 121) dX8_isAllowed_114 (by decide) (fun w => absurd w c66) (fun _ => ?_)
                                              refine J_iconst (v := 1) dX8_isAllowed_117 (by decide) ?_
                                              refine J_goto (tgt := 122) dX8_isAllowed_118 (by decide) ?_
                                              cases hf
                                              exact J_zretN dX8_isAllowed_122 rfl (Or.inr rfl) (by decide) (by decide)
                                        · skip
                                          have tc1 := tn (i := 97) c1 (by decide)
                                          have tc12 := tn (i := 98) c12 (by decide)
                                          have tc17 := tn (i := 99) c17 (by decide)
                                          have tc18 := tn (i := 100) c18 (by decide)
                                          have tc20 := tn (i := 101) c20 (by decide)
                                          have tc21 := tn (i := 102) c21 (by decide)
                                          have tc26 := tn (i := 103) c26 (by decide)
                                          have tc27 := tn (i := 104) c27 (by decide)
                                          have tc28 := tn (i := 105) c28 (by decide)
                                          have tc29 := tn (i := 106) c29 (by decide)
                                          have tc30 := tn (i := 107) c30 (by decide)
                                          have tc31 := tn (i := 108) c31 (by decide)
                                          have tc36 := tn (i := 109) c36 (by decide)
                                          have tc37 := tn (i := 110) c37 (by decide)
                                          have tc38 := tn (i := 111) c38 (by decide)
                                          have tc39 := tn (i := 112) c39 (by decide)
                                          have tc44 := tn (i := 113) c44 (by decide)
                                          have tc57 := tn (i := 114) c57 (by decide)
                                          have tc58 := tn (i := 115) c58 (by decide)
                                          have tc59 := tn (i := 116) c59 (by decide)
                                          refine J_tableOut (tgt := 232) dX8_isAllowed_1 (by omega) (by decide) ?_
                                          refine J_iconst (v := 0) dX8_isAllowed_232 (by decide) ?_
                                          cases hf
                                          exact J_zretN dX8_isAllowed_233 rfl (Or.inl rfl) (by decide) (by decide)
theorem mX8_isAllowed {g : JG} (hst : (jl g).stackTraces = false) {a0 : Nat} {x1 : Int32} {x2 : Int32} {x3 : Int32} {z : Nat} {h : AH} {o : Int32 × Nat × AH} (hf : fX8_isAllowed a0 x1 x2 x3 z h = some o) : jMet g yX8_isAllowed (wj yX8_isAllowed cX8_isAllowed 4 (some .boolean)) rmX8_isAllowed [.ref a0, .int x1, .int x2, .int x3] z h (some (.int o.1), o.2.1, o.2.2) :=
  jMet_mk (by decide) (Nat.le_of_ble_eq_true rfl) [some (.ref a0), some (.int x1), some (.int x2), some (.int x3)] rfl (wfX8_isAllowed hst hf)
def fX8_carryOut  (a0 : Nat) (x1 : Int32) (x2 : Int32) (x3 : Int32) (z : Nat) (h : AH) : Option (Nat × AH) :=
  (if x1 = 97 then (gd (kd h a0 = 9) (Option.bind (rv h a0 4) (fun b3 => gd (kd h b3 = 2) (bd3 (fX1_kill b3 x3 z h) (fun vo5 zo5 ho5h => some (zo5, ho5h)))))) else (if x1 = 98 then (gd (kd h a0 = 9) (Option.bind (rv h a0 0) (fun b8 => gd (kd h b8 = 1) (bd3 (fX0_revive b8 x3 z h) (fun vo10 zo10 ho10h => some (zo10, ho10h)))))) else (if x1 = 99 then (some (z, h)) else (if x1 = 100 then (gd (kd h a0 = 9) (Option.bind (rv h a0 4) (fun b14 => gd (kd h b14 = 2) (bd3 (fX1_deliverUpTo b14 x3 z h) (fun vo16 zo16 ho16h => some (zo16, ho16h)))))) else (if x1 = 101 then (some (z, h)) else (if x1 = 102 then (gd (kd h a0 = 9) (Option.bind (rv h a0 4) (fun b20 => gd (kd h b20 = 2) (bd3 (fX1_end b20 x3 z h) (fun vo22 zo22 ho22h => some (zo22, ho22h)))))) else (if x1 = 103 then (some (z, h)) else (if x1 = 104 then (some (z, h)) else (if x1 = 105 then (some (z, h)) else (if x1 = 106 then (some (z, h)) else (if x1 = 107 then (some (z, h)) else (if x1 = 108 then (gd (kd h a0 = 9) (Option.bind (rv h a0 4) (fun b30 => gd (kd h b30 = 2) (bd3 (fX1_giveBack b30 x2 x3 z h) (fun vo32 zo32 ho32h => some (zo32, ho32h)))))) else (if x1 = 109 then (some (z, h)) else (if x1 = 110 then (some (z, h)) else (if x1 = 111 then (some (z, h)) else (if x1 = 112 then (gd (kd h a0 = 9) (Option.bind (rv h a0 4) (fun b38 => gd (kd h b38 = 2) (bd3 (fX1_startProbe b38 x3 z h) (fun vo40 zo40 ho40h => some (zo40, ho40h)))))) else (if x1 = 113 then (gd (kd h a0 = 9) (Option.bind (rv h a0 4) (fun b43 => gd (kd h b43 = 2) (bd3 (fX1_ask b43 x2 x3 z h) (fun vo45 zo45 ho45h => some (zo45, ho45h)))))) else (if x1 = 114 then (some (z, h)) else (if x1 = 115 then (some (z, h)) else (if x1 = 116 then (gd (kd h a0 = 9) (Option.bind (rv h a0 0) (fun b50 => gd (kd h b50 = 1) (bd3 (fX0_enroll b50 x3 z h) (fun vo52 zo52 ho52h => some (zo52, ho52h)))))) else (some (z, h))))))))))))))))))))))
theorem wfX8_carryOut {g : JG} (hst : (jl g).stackTraces = false)   {a0 : Nat} {x1 : Int32} {x2 : Int32} {x3 : Int32} {z : Nat} {h : AH} {o : Nat × AH} (hf : fX8_carryOut  a0 x1 x2 x3 z h = some o) : J g MX8_carryOut (jN g (none, o.1, o.2) rmX8_carryOut.cells rmX8_carryOut.slots) 0 [some (.ref a0), some (.int x1), some (.int x2), some (.int x3)] [] z h 0 0 := by
  unfold fX8_carryOut at hf
  refine J_iload_n dX8_carryOut_0 rfl rfl ?_
  rcases br hf with ⟨c1, hf⟩ | ⟨c1, hf⟩
  · refine J_tableC (off := 145) (tgt := 146) c1 dX8_carryOut_1 (by decide) (by decide) (by decide) (by decide) ?_
    refine J_aload_n dX8_carryOut_146 rfl rfl ?_
    obtain ⟨k2, hf⟩ := gds hf
    obtain ⟨b3, rb3, hf⟩ := rfs hf
    refine G_8_4 dX8_carryOut_147 tk_251 k2 rb3 ?_
    refine J_iload_n dX8_carryOut_150 rfl rfl ?_
    obtain ⟨k4, hf⟩ := gds hf
    obtain ⟨vo5, zo5, ho5h, ho5, hf⟩ := rfs3 hf
    refine CV1i dX8_carryOut_151 (mX1_kill hst ho5) tk_721 iX1_kill k4 (by decide) rfl ⟨by decide, by decide⟩ ⟨by decide, by decide⟩ (Nat.le_of_ble_eq_true rfl) ?_
    refine J_pop dX8_carryOut_154 rfl ?_
    refine J_goto (tgt := 194) dX8_carryOut_155 (by decide) ?_
    cases hf
    exact J_vretN dX8_carryOut_194 rfl (by decide) (by decide)
  · skip
    rcases br hf with ⟨c6, hf⟩ | ⟨c6, hf⟩
    · refine J_tableC (off := 157) (tgt := 158) c6 dX8_carryOut_1 (by decide) (by decide) (by decide) (by decide) ?_
      refine J_aload_n dX8_carryOut_158 rfl rfl ?_
      obtain ⟨k7, hf⟩ := gds hf
      obtain ⟨b8, rb8, hf⟩ := rfs hf
      refine G_8_0 dX8_carryOut_159 tk_247 k7 rb8 ?_
      refine J_iload_n dX8_carryOut_162 rfl rfl ?_
      obtain ⟨k9, hf⟩ := gds hf
      obtain ⟨vo10, zo10, ho10h, ho10, hf⟩ := rfs3 hf
      refine CV1i dX8_carryOut_163 (mX0_revive hst ho10) tk_732 iX0_revive k9 (by decide) rfl ⟨by decide, by decide⟩ ⟨by decide, by decide⟩ (Nat.le_of_ble_eq_true rfl) ?_
      refine J_pop dX8_carryOut_166 rfl ?_
      refine J_goto (tgt := 194) dX8_carryOut_167 (by decide) ?_
      cases hf
      exact J_vretN dX8_carryOut_194 rfl (by decide) (by decide)
    · skip
      rcases br hf with ⟨c11, hf⟩ | ⟨c11, hf⟩
      · refine J_tableC (off := 193) (tgt := 194) c11 dX8_carryOut_1 (by decide) (by decide) (by decide) (by decide) ?_
        cases hf
        exact J_vretN dX8_carryOut_194 rfl (by decide) (by decide)
      · skip
        rcases br hf with ⟨c12, hf⟩ | ⟨c12, hf⟩
        · refine J_tableC (off := 181) (tgt := 182) c12 dX8_carryOut_1 (by decide) (by decide) (by decide) (by decide) ?_
          refine J_aload_n dX8_carryOut_182 rfl rfl ?_
          obtain ⟨k13, hf⟩ := gds hf
          obtain ⟨b14, rb14, hf⟩ := rfs hf
          refine G_8_4 dX8_carryOut_183 tk_251 k13 rb14 ?_
          refine J_iload_n dX8_carryOut_186 rfl rfl ?_
          obtain ⟨k15, hf⟩ := gds hf
          obtain ⟨vo16, zo16, ho16h, ho16, hf⟩ := rfs3 hf
          refine CV1i dX8_carryOut_187 (mX1_deliverUpTo hst ho16) tk_800 iX1_deliverUpTo k15 (by decide) rfl ⟨by decide, by decide⟩ ⟨by decide, by decide⟩ (Nat.le_of_ble_eq_true rfl) ?_
          refine J_pop dX8_carryOut_190 rfl ?_
          refine J_goto (tgt := 194) dX8_carryOut_191 (by decide) ?_
          cases hf
          exact J_vretN dX8_carryOut_194 rfl (by decide) (by decide)
        · skip
          rcases br hf with ⟨c17, hf⟩ | ⟨c17, hf⟩
          · refine J_tableC (off := 193) (tgt := 194) c17 dX8_carryOut_1 (by decide) (by decide) (by decide) (by decide) ?_
            cases hf
            exact J_vretN dX8_carryOut_194 rfl (by decide) (by decide)
          · skip
            rcases br hf with ⟨c18, hf⟩ | ⟨c18, hf⟩
            · refine J_tableC (off := 133) (tgt := 134) c18 dX8_carryOut_1 (by decide) (by decide) (by decide) (by decide) ?_
              refine J_aload_n dX8_carryOut_134 rfl rfl ?_
              obtain ⟨k19, hf⟩ := gds hf
              obtain ⟨b20, rb20, hf⟩ := rfs hf
              refine G_8_4 dX8_carryOut_135 tk_251 k19 rb20 ?_
              refine J_iload_n dX8_carryOut_138 rfl rfl ?_
              obtain ⟨k21, hf⟩ := gds hf
              obtain ⟨vo22, zo22, ho22h, ho22, hf⟩ := rfs3 hf
              refine CV1i dX8_carryOut_139 (mX1_end hst ho22) tk_709 iX1_end k21 (by decide) rfl ⟨by decide, by decide⟩ ⟨by decide, by decide⟩ (Nat.le_of_ble_eq_true rfl) ?_
              refine J_pop dX8_carryOut_142 rfl ?_
              refine J_goto (tgt := 194) dX8_carryOut_143 (by decide) ?_
              cases hf
              exact J_vretN dX8_carryOut_194 rfl (by decide) (by decide)
            · skip
              rcases br hf with ⟨c23, hf⟩ | ⟨c23, hf⟩
              · refine J_tableC (off := 193) (tgt := 194) c23 dX8_carryOut_1 (by decide) (by decide) (by decide) (by decide) ?_
                cases hf
                exact J_vretN dX8_carryOut_194 rfl (by decide) (by decide)
              · skip
                rcases br hf with ⟨c24, hf⟩ | ⟨c24, hf⟩
                · refine J_tableC (off := 193) (tgt := 194) c24 dX8_carryOut_1 (by decide) (by decide) (by decide) (by decide) ?_
                  cases hf
                  exact J_vretN dX8_carryOut_194 rfl (by decide) (by decide)
                · skip
                  rcases br hf with ⟨c25, hf⟩ | ⟨c25, hf⟩
                  · refine J_tableC (off := 193) (tgt := 194) c25 dX8_carryOut_1 (by decide) (by decide) (by decide) (by decide) ?_
                    cases hf
                    exact J_vretN dX8_carryOut_194 rfl (by decide) (by decide)
                  · skip
                    rcases br hf with ⟨c26, hf⟩ | ⟨c26, hf⟩
                    · refine J_tableC (off := 193) (tgt := 194) c26 dX8_carryOut_1 (by decide) (by decide) (by decide) (by decide) ?_
                      cases hf
                      exact J_vretN dX8_carryOut_194 rfl (by decide) (by decide)
                    · skip
                      rcases br hf with ⟨c27, hf⟩ | ⟨c27, hf⟩
                      · refine J_tableC (off := 193) (tgt := 194) c27 dX8_carryOut_1 (by decide) (by decide) (by decide) (by decide) ?_
                        cases hf
                        exact J_vretN dX8_carryOut_194 rfl (by decide) (by decide)
                      · skip
                        rcases br hf with ⟨c28, hf⟩ | ⟨c28, hf⟩
                        · refine J_tableC (off := 120) (tgt := 121) c28 dX8_carryOut_1 (by decide) (by decide) (by decide) (by decide) ?_
                          refine J_aload_n dX8_carryOut_121 rfl rfl ?_
                          obtain ⟨k29, hf⟩ := gds hf
                          obtain ⟨b30, rb30, hf⟩ := rfs hf
                          refine G_8_4 dX8_carryOut_122 tk_251 k29 rb30 ?_
                          refine J_iload_n dX8_carryOut_125 rfl rfl ?_
                          refine J_iload_n dX8_carryOut_126 rfl rfl ?_
                          obtain ⟨k31, hf⟩ := gds hf
                          obtain ⟨vo32, zo32, ho32h, ho32, hf⟩ := rfs3 hf
                          refine CV2i dX8_carryOut_127 (mX1_giveBack hst ho32) tk_688 iX1_giveBack k31 (by decide) rfl ⟨by decide, by decide⟩ ⟨by decide, by decide⟩ (Nat.le_of_ble_eq_true rfl) ?_
                          refine J_pop dX8_carryOut_130 rfl ?_
                          refine J_goto (tgt := 194) dX8_carryOut_131 (by decide) ?_
                          cases hf
                          exact J_vretN dX8_carryOut_194 rfl (by decide) (by decide)
                        · skip
                          rcases br hf with ⟨c33, hf⟩ | ⟨c33, hf⟩
                          · refine J_tableC (off := 193) (tgt := 194) c33 dX8_carryOut_1 (by decide) (by decide) (by decide) (by decide) ?_
                            cases hf
                            exact J_vretN dX8_carryOut_194 rfl (by decide) (by decide)
                          · skip
                            rcases br hf with ⟨c34, hf⟩ | ⟨c34, hf⟩
                            · refine J_tableC (off := 193) (tgt := 194) c34 dX8_carryOut_1 (by decide) (by decide) (by decide) (by decide) ?_
                              cases hf
                              exact J_vretN dX8_carryOut_194 rfl (by decide) (by decide)
                            · skip
                              rcases br hf with ⟨c35, hf⟩ | ⟨c35, hf⟩
                              · refine J_tableC (off := 193) (tgt := 194) c35 dX8_carryOut_1 (by decide) (by decide) (by decide) (by decide) ?_
                                cases hf
                                exact J_vretN dX8_carryOut_194 rfl (by decide) (by decide)
                              · skip
                                rcases br hf with ⟨c36, hf⟩ | ⟨c36, hf⟩
                                · refine J_tableC (off := 169) (tgt := 170) c36 dX8_carryOut_1 (by decide) (by decide) (by decide) (by decide) ?_
                                  refine J_aload_n dX8_carryOut_170 rfl rfl ?_
                                  obtain ⟨k37, hf⟩ := gds hf
                                  obtain ⟨b38, rb38, hf⟩ := rfs hf
                                  refine G_8_4 dX8_carryOut_171 tk_251 k37 rb38 ?_
                                  refine J_iload_n dX8_carryOut_174 rfl rfl ?_
                                  obtain ⟨k39, hf⟩ := gds hf
                                  obtain ⟨vo40, zo40, ho40h, ho40, hf⟩ := rfs3 hf
                                  refine CV1i dX8_carryOut_175 (mX1_startProbe hst ho40) tk_776 iX1_startProbe k39 (by decide) rfl ⟨by decide, by decide⟩ ⟨by decide, by decide⟩ (Nat.le_of_ble_eq_true rfl) ?_
                                  refine J_pop dX8_carryOut_178 rfl ?_
                                  refine J_goto (tgt := 194) dX8_carryOut_179 (by decide) ?_
                                  cases hf
                                  exact J_vretN dX8_carryOut_194 rfl (by decide) (by decide)
                                · skip
                                  rcases br hf with ⟨c41, hf⟩ | ⟨c41, hf⟩
                                  · refine J_tableC (off := 107) (tgt := 108) c41 dX8_carryOut_1 (by decide) (by decide) (by decide) (by decide) ?_
                                    refine J_aload_n dX8_carryOut_108 rfl rfl ?_
                                    obtain ⟨k42, hf⟩ := gds hf
                                    obtain ⟨b43, rb43, hf⟩ := rfs hf
                                    refine G_8_4 dX8_carryOut_109 tk_251 k42 rb43 ?_
                                    refine J_iload_n dX8_carryOut_112 rfl rfl ?_
                                    refine J_iload_n dX8_carryOut_113 rfl rfl ?_
                                    obtain ⟨k44, hf⟩ := gds hf
                                    obtain ⟨vo45, zo45, ho45h, ho45, hf⟩ := rfs3 hf
                                    refine CV2i dX8_carryOut_114 (mX1_ask hst ho45) tk_639 iX1_ask k44 (by decide) rfl ⟨by decide, by decide⟩ ⟨by decide, by decide⟩ (Nat.le_of_ble_eq_true rfl) ?_
                                    refine J_pop dX8_carryOut_117 rfl ?_
                                    refine J_goto (tgt := 194) dX8_carryOut_118 (by decide) ?_
                                    cases hf
                                    exact J_vretN dX8_carryOut_194 rfl (by decide) (by decide)
                                  · skip
                                    rcases br hf with ⟨c46, hf⟩ | ⟨c46, hf⟩
                                    · refine J_tableC (off := 193) (tgt := 194) c46 dX8_carryOut_1 (by decide) (by decide) (by decide) (by decide) ?_
                                      cases hf
                                      exact J_vretN dX8_carryOut_194 rfl (by decide) (by decide)
                                    · skip
                                      rcases br hf with ⟨c47, hf⟩ | ⟨c47, hf⟩
                                      · refine J_tableC (off := 193) (tgt := 194) c47 dX8_carryOut_1 (by decide) (by decide) (by decide) (by decide) ?_
                                        cases hf
                                        exact J_vretN dX8_carryOut_194 rfl (by decide) (by decide)
                                      · skip
                                        rcases br hf with ⟨c48, hf⟩ | ⟨c48, hf⟩
                                        · refine J_tableC (off := 95) (tgt := 96) c48 dX8_carryOut_1 (by decide) (by decide) (by decide) (by decide) ?_
                                          refine J_aload_n dX8_carryOut_96 rfl rfl ?_
                                          obtain ⟨k49, hf⟩ := gds hf
                                          obtain ⟨b50, rb50, hf⟩ := rfs hf
                                          refine G_8_0 dX8_carryOut_97 tk_247 k49 rb50 ?_
                                          refine J_iload_n dX8_carryOut_100 rfl rfl ?_
                                          obtain ⟨k51, hf⟩ := gds hf
                                          obtain ⟨vo52, zo52, ho52h, ho52, hf⟩ := rfs3 hf
                                          refine CV1i dX8_carryOut_101 (mX0_enroll hst ho52) tk_626 iX0_enroll k51 (by decide) rfl ⟨by decide, by decide⟩ ⟨by decide, by decide⟩ (Nat.le_of_ble_eq_true rfl) ?_
                                          refine J_pop dX8_carryOut_104 rfl ?_
                                          refine J_goto (tgt := 194) dX8_carryOut_105 (by decide) ?_
                                          cases hf
                                          exact J_vretN dX8_carryOut_194 rfl (by decide) (by decide)
                                        · skip
                                          have tc1 := tn (i := 97) c1 (by decide)
                                          have tc6 := tn (i := 98) c6 (by decide)
                                          have tc11 := tn (i := 99) c11 (by decide)
                                          have tc12 := tn (i := 100) c12 (by decide)
                                          have tc17 := tn (i := 101) c17 (by decide)
                                          have tc18 := tn (i := 102) c18 (by decide)
                                          have tc23 := tn (i := 103) c23 (by decide)
                                          have tc24 := tn (i := 104) c24 (by decide)
                                          have tc25 := tn (i := 105) c25 (by decide)
                                          have tc26 := tn (i := 106) c26 (by decide)
                                          have tc27 := tn (i := 107) c27 (by decide)
                                          have tc28 := tn (i := 108) c28 (by decide)
                                          have tc33 := tn (i := 109) c33 (by decide)
                                          have tc34 := tn (i := 110) c34 (by decide)
                                          have tc35 := tn (i := 111) c35 (by decide)
                                          have tc36 := tn (i := 112) c36 (by decide)
                                          have tc41 := tn (i := 113) c41 (by decide)
                                          have tc46 := tn (i := 114) c46 (by decide)
                                          have tc47 := tn (i := 115) c47 (by decide)
                                          have tc48 := tn (i := 116) c48 (by decide)
                                          refine J_tableOut (tgt := 194) dX8_carryOut_1 (by omega) (by decide) ?_
                                          cases hf
                                          exact J_vretN dX8_carryOut_194 rfl (by decide) (by decide)
theorem mX8_carryOut {g : JG} (hst : (jl g).stackTraces = false) {a0 : Nat} {x1 : Int32} {x2 : Int32} {x3 : Int32} {z : Nat} {h : AH} {o : Nat × AH} (hf : fX8_carryOut a0 x1 x2 x3 z h = some o) : jMet g yX8_carryOut (wj yX8_carryOut cX8_carryOut 4 none) rmX8_carryOut [.ref a0, .int x1, .int x2, .int x3] z h (none, o.1, o.2) :=
  jMet_mk (by decide) (Nat.le_of_ble_eq_true rfl) [some (.ref a0), some (.int x1), some (.int x2), some (.int x3)] rfl (wfX8_carryOut hst hf)
def bX8_run_151 (q42 : Nat → Int32 → Int32 → Int32 → Int32 → Int32 → Nat → AH → Option ((Int32 ⊕ String) × Nat × AH)) (a0 : Nat) (x1 : Int32) (x2 : Int32) (x3 : Int32) (x4 : Int32) (x5 : Int32) (z : Nat) (h : AH) : Option ((Int32 ⊕ String) × Nat × AH) :=
  q42 a0 x1 x2 x3 x4 (x5 + 1) z h
def lX8_run_42B  (q42 : Nat → Int32 → Int32 → Int32 → Int32 → Int32 → Nat → AH → Option ((Int32 ⊕ String) × Nat × AH)) (a0 : Nat) (x1 : Int32) (x2 : Int32) (x3 : Int32) (x4 : Int32) (x5 : Int32) (z : Nat) (h : AH) : Option ((Int32 ⊕ String) × Nat × AH) :=
  gd (kd h a0 = 9) (Option.bind (rv h a0 6) (fun b2 => gd (kd h b2 = 6) ((if (iv h b2 1) ≤ x5 then (some (.inl x1, z, h)) else ((if 120 ≤ x5 then (some (.inl x1, z, h)) else (Option.bind (rv h a0 6) (fun b6 => gd (kd h b6 = 6) (Option.bind (rv h b6 0) (fun b8 => gd (kd h b8 = 12) (gd (¬ ((x5 : Int32) < 0 ∨ ln h b8 ≤ Int32.toNatClampNeg x5)) (bl ((iv h b8 (Int32.toNatClampNeg x5))) (fun v11 => (if v11 = 59 then (bd3 (fX8_isAllowed a0 x2 x3 x4 z h) (fun vo17 zo17 ho17h => (if vo17 = 0 then (bX8_run_151 q42 a0 x1 x2 x3 x4 x5 zo17 ho17h) else (gd (kd ho17h a0 = 9) (bd2 (fX8_carryOut a0 x2 x3 x4 zo17 ho17h) (fun zo20 ho20h => bX8_run_151 q42 a0 (x1 + 1) x2 x3 x4 x5 zo20 ho20h)))))) else ((if v11 = 44 then (bX8_run_151 q42 a0 x1 x2 x4 0 x5 z h) else (bd3 (fX8_isDigit v11 z h) (fun vo14 zo14 ho14h => (if vo14 = 0 then (bX8_run_151 q42 a0 x1 v11 x3 0 x5 zo14 ho14h) else (bl ((((x4 * 10) + v11) - 48)) (fun v16 => bX8_run_151 q42 a0 x1 x2 x3 v16 x5 zo14 ho14h)))))))))))))))))))))
def lX8_run_42  : Nat → Nat → Int32 → Int32 → Int32 → Int32 → Int32 → Nat → AH → Option ((Int32 ⊕ String) × Nat × AH)
  | 0 => fun _ _ _ _ _ _ _ _ => none
  | fuel + 1 => lX8_run_42B  (lX8_run_42  fuel)
def bX8_run_16  (a0 : Nat) (s0 : Int32) (z : Nat) (h : AH) : Option ((Int32 ⊕ String) × Nat × AH) :=
  bd3 (fX8_needValue s0 z h) (fun vo1 zo1 ho1h => xr vo1 (fun v2 => gd (kd ho1h a0 = 9) (Option.bind (rv ho1h a0 5) (fun b5 => Option.bind (rv ho1h a0 0) (fun b6 => gd (kd ho1h b5 = 4) (bd2 (fX3_keep b5 b6 zo1 ho1h) (fun zo8 ho8h => lX8_run_42  fu a0 0 0 0 0 0 zo8 ho8h)))))) (fun x3 => some (.inr x3, zo1, ho1h)))
def fX8_run  (a0 : Nat) (z : Nat) (h : AH) : Option ((Int32 ⊕ String) × Nat × AH) :=
  gd (kd h a0 = 9) (Option.bind (rv h a0 6) (fun b2 => gd (kd h b2 = 6) (bd3 (fX5_firstFault b2 z h) (fun vo4 zo4 ho4h => (if vo4 = (-1) then (bX8_run_16  a0 1 zo4 ho4h) else (bX8_run_16  a0 0 zo4 ho4h))))))
theorem wbX8_run_151R {g : JG} (hst : (jl g).stackTraces = false) (q42 : Nat → Int32 → Int32 → Int32 → Int32 → Int32 → Nat → AH → Option ((Int32 ⊕ String) × Nat × AH)) (hq42 : ∀ (a0 : Nat) (x1 : Int32) (x2 : Int32) (x3 : Int32) (x4 : Int32) (x5 : Int32) (z : Nat) (h : AH) (o : (Int32 ⊕ String) × Nat × AH), q42 a0 x1 x2 x3 x4 x5 z h = some o → (∃ v, o.1 = .inl v) → J g MX8_runR (jV g (xoI o.1, o.2.1, o.2.2) rmX8_runR.cells rmX8_runR.slots) 42 [some (.ref a0), some (.int x1), some (.int x2), some (.int x3), some (.int x4), some (.int x5), none] [] z h 16 292) {a0 : Nat} {x1 : Int32} {x2 : Int32} {x3 : Int32} {x4 : Int32} {x5 : Int32} {z : Nat} {h : AH} {o : (Int32 ⊕ String) × Nat × AH} (hf : bX8_run_151 q42 a0 x1 x2 x3 x4 x5 z h = some o) (hv : (∃ v, o.1 = .inl v)) : J g MX8_runR (jV g (xoI o.1, o.2.1, o.2.2) rmX8_runR.cells rmX8_runR.slots) 151 [some (.ref a0), some (.int x1), some (.int x2), some (.int x3), some (.int x4), some (.int x5), none] [] z h 16 292 := by
  unfold bX8_run_151 at hf
  refine S_iinc_5 (v := x5 + 1) dX8_run_151 (congrArg (fun w => x5 + w) (by decide)) rfl (by decide) ?_
  refine J_goto (tgt := 42) dX8_run_154 (by decide) ?_
  refine J.sub (jsub_s (jsub_s (jsub_s (jsub_s (jsub_s (jsub_s (jsub_n (jsub_nil _)))))))) ?_
  refine J.widen (k' := 16) (n' := 292) (by decide) (by decide) ?_
  exact hq42 _ _ _ _ _ _ _ _ _ hf hv
theorem wlX8_run_42R {g : JG} (hst : (jl g).stackTraces = false)   : ∀ (fuel : Nat) (a0 : Nat) (x1 : Int32) (x2 : Int32) (x3 : Int32) (x4 : Int32) (x5 : Int32) (z : Nat) (h : AH) (o : (Int32 ⊕ String) × Nat × AH), lX8_run_42  fuel a0 x1 x2 x3 x4 x5 z h = some o → (∃ v, o.1 = .inl v) → J g MX8_runR (jV g (xoI o.1, o.2.1, o.2.2) rmX8_runR.cells rmX8_runR.slots) 42 [some (.ref a0), some (.int x1), some (.int x2), some (.int x3), some (.int x4), some (.int x5), none] [] z h 16 292 := by
  intro fuel
  induction fuel with
  | zero => intro a0 x1 x2 x3 x4 x5 z h o hf; cases hf
  | succ fuel ih =>
    intro a0 x1 x2 x3 x4 x5 z h o hf hv
    have hq42 := ih
    have hf : lX8_run_42B  (lX8_run_42  fuel) a0 x1 x2 x3 x4 x5 z h = some o := hf
    generalize lX8_run_42  fuel = q42 at hf hq42
    unfold lX8_run_42B at hf
    refine J_iload dX8_run_42 rfl ?_
    refine J_aload_n dX8_run_44 rfl rfl ?_
    obtain ⟨k1, hf⟩ := gds hf
    obtain ⟨b2, rb2, hf⟩ := rfs hf
    refine G_8_6 dX8_run_45 tk_253 k1 rb2 ?_
    obtain ⟨k3, hf⟩ := gds hf
    refine G_5_1 dX8_run_48 tk_240 k3 ?_
    rcases br hf with ⟨c4, hf⟩ | ⟨c4, hf⟩
    · refine J_icmp_ge (tgt := 157) dX8_run_51 (by decide) (fun _ => ?_) (fun w => absurd c4 w)
      refine J_iload_n dX8_run_157 rfl rfl ?_
      cases hf
      exact jN_V (J_iretN dX8_run_158 rfl (by decide) (by decide))
    · refine J_icmp_ge (tgt := 157) dX8_run_51 (by decide) (fun w => absurd w c4) (fun _ => ?_)
      refine J_iload dX8_run_54 rfl ?_
      refine J_bipush (v := 120) dX8_run_56 (by decide) ?_
      rcases br hf with ⟨c5, hf⟩ | ⟨c5, hf⟩
      · refine J_icmp_ge (tgt := 157) dX8_run_58 (by decide) (fun _ => ?_) (fun w => absurd c5 w)
        refine J_iload_n dX8_run_157 rfl rfl ?_
        cases hf
        exact jN_V (J_iretN dX8_run_158 rfl (by decide) (by decide))
      · refine J_icmp_ge (tgt := 157) dX8_run_58 (by decide) (fun w => absurd w c5) (fun _ => ?_)
        refine J_aload_n dX8_run_61 rfl rfl ?_
        obtain ⟨b6, rb6, hf⟩ := rfs hf
        refine G_8_6 dX8_run_62 tk_253 k1 rb6 ?_
        obtain ⟨k7, hf⟩ := gds hf
        obtain ⟨b8, rb8, hf⟩ := rfs hf
        refine G_5_0 dX8_run_65 tk_238 k7 rb8 ?_
        refine J_iload dX8_run_68 rfl ?_
        obtain ⟨k9, hf⟩ := gds hf
        obtain ⟨n10, hf⟩ := gds hf
        refine J_caload dX8_run_70 k9 n10 ?_
        obtain ⟨v11, ev11, hf⟩ := bls hf
        refine J_i ev11 ?_
        refine S_istore_6 dX8_run_71 rfl (by decide) ?_
        refine J_iload dX8_run_73 rfl ?_
        refine J_bipush (v := 59) dX8_run_75 (by decide) ?_
        rcases br hf with ⟨c12, hf⟩ | ⟨c12, hf⟩
        · refine J_icmp_ne (tgt := 105) dX8_run_77 (by decide) (fun w => absurd c12 w) (fun _ => ?_)
          refine J_aload_n dX8_run_80 rfl rfl ?_
          refine J_iload_n dX8_run_81 rfl rfl ?_
          refine J_iload_n dX8_run_82 rfl rfl ?_
          refine J_iload dX8_run_83 rfl ?_
          obtain ⟨vo17, zo17, ho17h, ho17, hf⟩ := rfs3 hf
          refine CV3i dX8_run_85 (mX8_isAllowed hst ho17) tk_893 iX8_isAllowed k1 (by decide) rfl ⟨by decide, by decide⟩ ⟨by decide, by decide⟩ (Nat.le_of_ble_eq_true rfl) ?_
          rcases br hf with ⟨c18, hf⟩ | ⟨c18, hf⟩
          · refine J_if_eq (tgt := 151) dX8_run_88 (by decide) (fun _ => ?_) (fun w => absurd c18 w)
            refine J.sub (jsub_s (jsub_s (jsub_s (jsub_s (jsub_s (jsub_s (jsub_n (jsub_nil _)))))))) ?_
            refine J.widen (k' := 16) (n' := 292) (by decide) (by decide) ?_
            exact wbX8_run_151R hst _ hq42 hf hv
          · refine J_if_eq (tgt := 151) dX8_run_88 (by decide) (fun w => absurd w c18) (fun _ => ?_)
            refine J_aload_n dX8_run_91 rfl rfl ?_
            refine J_iload_n dX8_run_92 rfl rfl ?_
            refine J_iload_n dX8_run_93 rfl rfl ?_
            refine J_iload dX8_run_94 rfl ?_
            obtain ⟨k19, hf⟩ := gds hf
            obtain ⟨zo20, ho20h, ho20, hf⟩ := rfs2 hf
            refine CV3v dX8_run_96 (mX8_carryOut hst ho20) tk_897 iX8_carryOut k19 (by decide) rfl ⟨by decide, by decide⟩ ⟨by decide, by decide⟩ (Nat.le_of_ble_eq_true rfl) ?_
            refine S_iinc_1 (v := x1 + 1) dX8_run_99 (congrArg (fun w => x1 + w) (by decide)) rfl (by decide) ?_
            refine J_goto (tgt := 151) dX8_run_102 (by decide) ?_
            refine J.sub (jsub_s (jsub_s (jsub_s (jsub_s (jsub_s (jsub_s (jsub_n (jsub_nil _)))))))) ?_
            refine J.widen (k' := 16) (n' := 292) (by decide) (by decide) ?_
            exact wbX8_run_151R hst _ hq42 hf hv
        · refine J_icmp_ne (tgt := 105) dX8_run_77 (by decide) (fun _ => ?_) (fun w => absurd w c12)
          refine J_iload dX8_run_105 rfl ?_
          refine J_bipush (v := 44) dX8_run_107 (by decide) ?_
          rcases br hf with ⟨c13, hf⟩ | ⟨c13, hf⟩
          · refine J_icmp_ne (tgt := 121) dX8_run_109 (by decide) (fun w => absurd c13 w) (fun _ => ?_)
            refine J_iload dX8_run_112 rfl ?_
            refine S_istore_n_3 dX8_run_114 rfl (by decide) ?_
            refine J_iconst (v := 0) dX8_run_115 (by decide) ?_
            refine S_istore_4 dX8_run_116 rfl (by decide) ?_
            refine J_goto (tgt := 151) dX8_run_118 (by decide) ?_
            refine J.sub (jsub_s (jsub_s (jsub_s (jsub_s (jsub_s (jsub_s (jsub_n (jsub_nil _)))))))) ?_
            refine J.widen (k' := 16) (n' := 292) (by decide) (by decide) ?_
            exact wbX8_run_151R hst _ hq42 hf hv
          · refine J_icmp_ne (tgt := 121) dX8_run_109 (by decide) (fun _ => ?_) (fun w => absurd w c13)
            refine J_iload dX8_run_121 rfl ?_
            obtain ⟨vo14, zo14, ho14h, ho14, hf⟩ := rfs3 hf
            refine CS1i (host := "") dX8_run_123 (mX8_isDigit hst ho14) tk_901 iX8_isDigit ⟨by decide, by decide⟩ ⟨by decide, by decide⟩ (Nat.le_of_ble_eq_true rfl) ?_
            rcases br hf with ⟨c15, hf⟩ | ⟨c15, hf⟩
            · refine J_if_eq (tgt := 145) dX8_run_126 (by decide) (fun _ => ?_) (fun w => absurd c15 w)
              refine J_iload dX8_run_145 rfl ?_
              refine S_istore_n_2 dX8_run_147 rfl (by decide) ?_
              refine J_iconst (v := 0) dX8_run_148 (by decide) ?_
              refine S_istore_4 dX8_run_149 rfl (by decide) ?_
              refine J.sub (jsub_s (jsub_s (jsub_s (jsub_s (jsub_s (jsub_s (jsub_n (jsub_nil _)))))))) ?_
              refine J.widen (k' := 16) (n' := 292) (by decide) (by decide) ?_
              exact wbX8_run_151R hst _ hq42 hf hv
            · refine J_if_eq (tgt := 145) dX8_run_126 (by decide) (fun w => absurd w c15) (fun _ => ?_)
              refine J_iload dX8_run_129 rfl ?_
              refine J_bipush (v := 10) dX8_run_131 (by decide) ?_
              refine J_imul dX8_run_133 ?_
              refine J_iload dX8_run_134 rfl ?_
              refine J_iadd dX8_run_136 ?_
              refine J_bipush (v := 48) dX8_run_137 (by decide) ?_
              refine J_isub dX8_run_139 ?_
              obtain ⟨v16, ev16, hf⟩ := bls hf
              refine J_i ev16 ?_
              refine S_istore_4 dX8_run_140 rfl (by decide) ?_
              refine J_goto (tgt := 151) dX8_run_142 (by decide) ?_
              refine J.sub (jsub_s (jsub_s (jsub_s (jsub_s (jsub_s (jsub_s (jsub_n (jsub_nil _)))))))) ?_
              refine J.widen (k' := 16) (n' := 292) (by decide) (by decide) ?_
              exact wbX8_run_151R hst _ hq42 hf hv
theorem wbX8_run_16R {g : JG} (hst : (jl g).stackTraces = false)   {a0 : Nat} {s0 : Int32} {z : Nat} {h : AH} {o : (Int32 ⊕ String) × Nat × AH} (hf : bX8_run_16  a0 s0 z h = some o) (hv : (∃ v, o.1 = .inl v)) : J g MX8_runR (jV g (xoI o.1, o.2.1, o.2.2) rmX8_runR.cells rmX8_runR.slots) 16 [some (.ref a0), none, none, none, none, none, none] [.int s0] z h 0 0 := by
  unfold bX8_run_16 at hf
  obtain ⟨vo1, zo1, ho1h, ho1, hf⟩ := rfs3 hf
  rcases xrs hf with ⟨v2, ev2, hf⟩ | ⟨x3, ev2, hf⟩
  · refine XS1v dX8_run_16 (by have h9 := mX8_needValueR hst ho1 ⟨_, ev2⟩; rw [ev2] at h9; exact h9) tk_505 iX8_needValue ⟨by decide, by decide⟩ ⟨by decide, by decide⟩ (Nat.le_of_ble_eq_true rfl) ?_
    refine J_aload_n dX8_run_19 rfl rfl ?_
    obtain ⟨k4, hf⟩ := gds hf
    obtain ⟨b5, rb5, hf⟩ := rfs hf
    refine G_8_5 dX8_run_20 tk_252 k4 rb5 ?_
    refine J_aload_n dX8_run_23 rfl rfl ?_
    obtain ⟨b6, rb6, hf⟩ := rfs hf
    refine G_8_0 dX8_run_24 tk_247 k4 rb6 ?_
    obtain ⟨k7, hf⟩ := gds hf
    obtain ⟨zo8, ho8h, ho8, hf⟩ := rfs2 hf
    refine CV1v dX8_run_27 (mX3_keep hst ho8) tk_572 iX3_keep k7 (by decide) rfl ⟨by decide, by decide⟩ ⟨by decide, by decide⟩ (Nat.le_of_ble_eq_true rfl) ?_
    refine J_iconst (v := 0) dX8_run_30 (by decide) ?_
    refine S_istore_n_1 dX8_run_31 rfl (by decide) ?_
    refine J_iconst (v := 0) dX8_run_32 (by decide) ?_
    refine S_istore_n_2 dX8_run_33 rfl (by decide) ?_
    refine J_iconst (v := 0) dX8_run_34 (by decide) ?_
    refine S_istore_n_3 dX8_run_35 rfl (by decide) ?_
    refine J_iconst (v := 0) dX8_run_36 (by decide) ?_
    refine S_istore_4 dX8_run_37 rfl (by decide) ?_
    refine J_iconst (v := 0) dX8_run_39 (by decide) ?_
    refine S_istore_5 dX8_run_40 rfl (by decide) ?_
    refine J.sub (jsub_s (jsub_s (jsub_s (jsub_s (jsub_s (jsub_s (jsub_n (jsub_nil _)))))))) ?_
    refine J.widen (k' := 16) (n' := 292) (by decide) (by decide) ?_
    exact wlX8_run_42R hst   _ _ _ _ _ _ _ _ _ _ hf hv
  · cases hf
    obtain ⟨_, hv⟩ := hv; cases hv
theorem wfX8_runR {g : JG} (hst : (jl g).stackTraces = false)   {a0 : Nat} {z : Nat} {h : AH} {o : (Int32 ⊕ String) × Nat × AH} (hf : fX8_run  a0 z h = some o) (hv : (∃ v, o.1 = .inl v)) : J g MX8_runR (jV g (xoI o.1, o.2.1, o.2.2) rmX8_runR.cells rmX8_runR.slots) 0 [some (.ref a0), none, none, none, none, none, none] [] z h 0 0 := by
  unfold fX8_run at hf
  refine J_aload_n dX8_run_0 rfl rfl ?_
  obtain ⟨k1, hf⟩ := gds hf
  obtain ⟨b2, rb2, hf⟩ := rfs hf
  refine G_8_6 dX8_run_1 tk_253 k1 rb2 ?_
  obtain ⟨k3, hf⟩ := gds hf
  obtain ⟨vo4, zo4, ho4h, ho4, hf⟩ := rfs3 hf
  refine CV0i dX8_run_4 (mX5_firstFault hst ho4) tk_410 iX5_firstFault k3 (by decide) rfl ⟨by decide, by decide⟩ ⟨by decide, by decide⟩ (Nat.le_of_ble_eq_true rfl) ?_
  refine J_iconst (v := (-1)) dX8_run_7 (by decide) ?_
  rcases br hf with ⟨c5, hf⟩ | ⟨c5, hf⟩
  · refine J_icmp_ne (tgt := 15) dX8_run_8 (by decide) (fun w => absurd c5 w) (fun _ => ?_)
    refine J_iconst (v := 1) dX8_run_11 (by decide) ?_
    refine J_goto (tgt := 16) dX8_run_12 (by decide) ?_
    refine J.sub (jsub_s (jsub_n (jsub_n (jsub_n (jsub_n (jsub_n (jsub_n (jsub_nil _)))))))) ?_
    refine J.widen (k' := 0) (n' := 0) (by decide) (by decide) ?_
    exact wbX8_run_16R hst   hf hv
  · refine J_icmp_ne (tgt := 15) dX8_run_8 (by decide) (fun _ => ?_) (fun w => absurd w c5)
    refine J_iconst (v := 0) dX8_run_15 (by decide) ?_
    refine J.sub (jsub_s (jsub_n (jsub_n (jsub_n (jsub_n (jsub_n (jsub_n (jsub_nil _)))))))) ?_
    refine J.widen (k' := 0) (n' := 0) (by decide) (by decide) ?_
    exact wbX8_run_16R hst   hf hv
theorem mX8_runR {g : JG} (hst : (jl g).stackTraces = false) {a0 : Nat} {z : Nat} {h : AH} {o : (Int32 ⊕ String) × Nat × AH} (hf : fX8_run a0 z h = some o) (hv : (∃ v, o.1 = .inl v)) : jMetX g yX8_run (wj yX8_run cX8_run 7 (some .int)) rmX8_runR [.ref a0] z h (xoI o.1, o.2.1, o.2.2) :=
  jMetX_mk (by decide) (Nat.le_of_ble_eq_true rfl) [some (.ref a0), none, none, none, none, none, none] rfl (wfX8_runR hst hf hv)
theorem wbX8_run_151T {g : JG} (hst : (jl g).stackTraces = false) (q42 : Nat → Int32 → Int32 → Int32 → Int32 → Int32 → Nat → AH → Option ((Int32 ⊕ String) × Nat × AH)) (hq42 : ∀ (a0 : Nat) (x1 : Int32) (x2 : Int32) (x3 : Int32) (x4 : Int32) (x5 : Int32) (z : Nat) (h : AH) (o : (Int32 ⊕ String) × Nat × AH), q42 a0 x1 x2 x3 x4 x5 z h = some o → (∃ v, o.1 = .inr v) → J g MX8_runT (jV g (xoI o.1, o.2.1, o.2.2) rmX8_runT.cells rmX8_runT.slots) 42 [some (.ref a0), some (.int x1), some (.int x2), some (.int x3), some (.int x4), some (.int x5), none] [] z h 16 292) {a0 : Nat} {x1 : Int32} {x2 : Int32} {x3 : Int32} {x4 : Int32} {x5 : Int32} {z : Nat} {h : AH} {o : (Int32 ⊕ String) × Nat × AH} (hf : bX8_run_151 q42 a0 x1 x2 x3 x4 x5 z h = some o) (hv : (∃ v, o.1 = .inr v)) : J g MX8_runT (jV g (xoI o.1, o.2.1, o.2.2) rmX8_runT.cells rmX8_runT.slots) 151 [some (.ref a0), some (.int x1), some (.int x2), some (.int x3), some (.int x4), some (.int x5), none] [] z h 16 292 := by
  unfold bX8_run_151 at hf
  refine S_iinc_5 (v := x5 + 1) dX8_run_151 (congrArg (fun w => x5 + w) (by decide)) rfl (by decide) ?_
  refine J_goto (tgt := 42) dX8_run_154 (by decide) ?_
  refine J.sub (jsub_s (jsub_s (jsub_s (jsub_s (jsub_s (jsub_s (jsub_n (jsub_nil _)))))))) ?_
  refine J.widen (k' := 16) (n' := 292) (by decide) (by decide) ?_
  exact hq42 _ _ _ _ _ _ _ _ _ hf hv
theorem wlX8_run_42T {g : JG} (hst : (jl g).stackTraces = false)   : ∀ (fuel : Nat) (a0 : Nat) (x1 : Int32) (x2 : Int32) (x3 : Int32) (x4 : Int32) (x5 : Int32) (z : Nat) (h : AH) (o : (Int32 ⊕ String) × Nat × AH), lX8_run_42  fuel a0 x1 x2 x3 x4 x5 z h = some o → (∃ v, o.1 = .inr v) → J g MX8_runT (jV g (xoI o.1, o.2.1, o.2.2) rmX8_runT.cells rmX8_runT.slots) 42 [some (.ref a0), some (.int x1), some (.int x2), some (.int x3), some (.int x4), some (.int x5), none] [] z h 16 292 := by
  intro fuel
  induction fuel with
  | zero => intro a0 x1 x2 x3 x4 x5 z h o hf; cases hf
  | succ fuel ih =>
    intro a0 x1 x2 x3 x4 x5 z h o hf hv
    have hq42 := ih
    have hf : lX8_run_42B  (lX8_run_42  fuel) a0 x1 x2 x3 x4 x5 z h = some o := hf
    generalize lX8_run_42  fuel = q42 at hf hq42
    unfold lX8_run_42B at hf
    refine J_iload dX8_run_42 rfl ?_
    refine J_aload_n dX8_run_44 rfl rfl ?_
    obtain ⟨k1, hf⟩ := gds hf
    obtain ⟨b2, rb2, hf⟩ := rfs hf
    refine G_8_6 dX8_run_45 tk_253 k1 rb2 ?_
    obtain ⟨k3, hf⟩ := gds hf
    refine G_5_1 dX8_run_48 tk_240 k3 ?_
    rcases br hf with ⟨c4, hf⟩ | ⟨c4, hf⟩
    · refine J_icmp_ge (tgt := 157) dX8_run_51 (by decide) (fun _ => ?_) (fun w => absurd c4 w)
      refine J_iload_n dX8_run_157 rfl rfl ?_
      cases hf
      obtain ⟨_, hv⟩ := hv; cases hv
    · refine J_icmp_ge (tgt := 157) dX8_run_51 (by decide) (fun w => absurd w c4) (fun _ => ?_)
      refine J_iload dX8_run_54 rfl ?_
      refine J_bipush (v := 120) dX8_run_56 (by decide) ?_
      rcases br hf with ⟨c5, hf⟩ | ⟨c5, hf⟩
      · refine J_icmp_ge (tgt := 157) dX8_run_58 (by decide) (fun _ => ?_) (fun w => absurd c5 w)
        refine J_iload_n dX8_run_157 rfl rfl ?_
        cases hf
        obtain ⟨_, hv⟩ := hv; cases hv
      · refine J_icmp_ge (tgt := 157) dX8_run_58 (by decide) (fun w => absurd w c5) (fun _ => ?_)
        refine J_aload_n dX8_run_61 rfl rfl ?_
        obtain ⟨b6, rb6, hf⟩ := rfs hf
        refine G_8_6 dX8_run_62 tk_253 k1 rb6 ?_
        obtain ⟨k7, hf⟩ := gds hf
        obtain ⟨b8, rb8, hf⟩ := rfs hf
        refine G_5_0 dX8_run_65 tk_238 k7 rb8 ?_
        refine J_iload dX8_run_68 rfl ?_
        obtain ⟨k9, hf⟩ := gds hf
        obtain ⟨n10, hf⟩ := gds hf
        refine J_caload dX8_run_70 k9 n10 ?_
        obtain ⟨v11, ev11, hf⟩ := bls hf
        refine J_i ev11 ?_
        refine S_istore_6 dX8_run_71 rfl (by decide) ?_
        refine J_iload dX8_run_73 rfl ?_
        refine J_bipush (v := 59) dX8_run_75 (by decide) ?_
        rcases br hf with ⟨c12, hf⟩ | ⟨c12, hf⟩
        · refine J_icmp_ne (tgt := 105) dX8_run_77 (by decide) (fun w => absurd c12 w) (fun _ => ?_)
          refine J_aload_n dX8_run_80 rfl rfl ?_
          refine J_iload_n dX8_run_81 rfl rfl ?_
          refine J_iload_n dX8_run_82 rfl rfl ?_
          refine J_iload dX8_run_83 rfl ?_
          obtain ⟨vo17, zo17, ho17h, ho17, hf⟩ := rfs3 hf
          refine CV3i dX8_run_85 (mX8_isAllowed hst ho17) tk_893 iX8_isAllowed k1 (by decide) rfl ⟨by decide, by decide⟩ ⟨by decide, by decide⟩ (Nat.le_of_ble_eq_true rfl) ?_
          rcases br hf with ⟨c18, hf⟩ | ⟨c18, hf⟩
          · refine J_if_eq (tgt := 151) dX8_run_88 (by decide) (fun _ => ?_) (fun w => absurd c18 w)
            refine J.sub (jsub_s (jsub_s (jsub_s (jsub_s (jsub_s (jsub_s (jsub_n (jsub_nil _)))))))) ?_
            refine J.widen (k' := 16) (n' := 292) (by decide) (by decide) ?_
            exact wbX8_run_151T hst _ hq42 hf hv
          · refine J_if_eq (tgt := 151) dX8_run_88 (by decide) (fun w => absurd w c18) (fun _ => ?_)
            refine J_aload_n dX8_run_91 rfl rfl ?_
            refine J_iload_n dX8_run_92 rfl rfl ?_
            refine J_iload_n dX8_run_93 rfl rfl ?_
            refine J_iload dX8_run_94 rfl ?_
            obtain ⟨k19, hf⟩ := gds hf
            obtain ⟨zo20, ho20h, ho20, hf⟩ := rfs2 hf
            refine CV3v dX8_run_96 (mX8_carryOut hst ho20) tk_897 iX8_carryOut k19 (by decide) rfl ⟨by decide, by decide⟩ ⟨by decide, by decide⟩ (Nat.le_of_ble_eq_true rfl) ?_
            refine S_iinc_1 (v := x1 + 1) dX8_run_99 (congrArg (fun w => x1 + w) (by decide)) rfl (by decide) ?_
            refine J_goto (tgt := 151) dX8_run_102 (by decide) ?_
            refine J.sub (jsub_s (jsub_s (jsub_s (jsub_s (jsub_s (jsub_s (jsub_n (jsub_nil _)))))))) ?_
            refine J.widen (k' := 16) (n' := 292) (by decide) (by decide) ?_
            exact wbX8_run_151T hst _ hq42 hf hv
        · refine J_icmp_ne (tgt := 105) dX8_run_77 (by decide) (fun _ => ?_) (fun w => absurd w c12)
          refine J_iload dX8_run_105 rfl ?_
          refine J_bipush (v := 44) dX8_run_107 (by decide) ?_
          rcases br hf with ⟨c13, hf⟩ | ⟨c13, hf⟩
          · refine J_icmp_ne (tgt := 121) dX8_run_109 (by decide) (fun w => absurd c13 w) (fun _ => ?_)
            refine J_iload dX8_run_112 rfl ?_
            refine S_istore_n_3 dX8_run_114 rfl (by decide) ?_
            refine J_iconst (v := 0) dX8_run_115 (by decide) ?_
            refine S_istore_4 dX8_run_116 rfl (by decide) ?_
            refine J_goto (tgt := 151) dX8_run_118 (by decide) ?_
            refine J.sub (jsub_s (jsub_s (jsub_s (jsub_s (jsub_s (jsub_s (jsub_n (jsub_nil _)))))))) ?_
            refine J.widen (k' := 16) (n' := 292) (by decide) (by decide) ?_
            exact wbX8_run_151T hst _ hq42 hf hv
          · refine J_icmp_ne (tgt := 121) dX8_run_109 (by decide) (fun _ => ?_) (fun w => absurd w c13)
            refine J_iload dX8_run_121 rfl ?_
            obtain ⟨vo14, zo14, ho14h, ho14, hf⟩ := rfs3 hf
            refine CS1i (host := "") dX8_run_123 (mX8_isDigit hst ho14) tk_901 iX8_isDigit ⟨by decide, by decide⟩ ⟨by decide, by decide⟩ (Nat.le_of_ble_eq_true rfl) ?_
            rcases br hf with ⟨c15, hf⟩ | ⟨c15, hf⟩
            · refine J_if_eq (tgt := 145) dX8_run_126 (by decide) (fun _ => ?_) (fun w => absurd c15 w)
              refine J_iload dX8_run_145 rfl ?_
              refine S_istore_n_2 dX8_run_147 rfl (by decide) ?_
              refine J_iconst (v := 0) dX8_run_148 (by decide) ?_
              refine S_istore_4 dX8_run_149 rfl (by decide) ?_
              refine J.sub (jsub_s (jsub_s (jsub_s (jsub_s (jsub_s (jsub_s (jsub_n (jsub_nil _)))))))) ?_
              refine J.widen (k' := 16) (n' := 292) (by decide) (by decide) ?_
              exact wbX8_run_151T hst _ hq42 hf hv
            · refine J_if_eq (tgt := 145) dX8_run_126 (by decide) (fun w => absurd w c15) (fun _ => ?_)
              refine J_iload dX8_run_129 rfl ?_
              refine J_bipush (v := 10) dX8_run_131 (by decide) ?_
              refine J_imul dX8_run_133 ?_
              refine J_iload dX8_run_134 rfl ?_
              refine J_iadd dX8_run_136 ?_
              refine J_bipush (v := 48) dX8_run_137 (by decide) ?_
              refine J_isub dX8_run_139 ?_
              obtain ⟨v16, ev16, hf⟩ := bls hf
              refine J_i ev16 ?_
              refine S_istore_4 dX8_run_140 rfl (by decide) ?_
              refine J_goto (tgt := 151) dX8_run_142 (by decide) ?_
              refine J.sub (jsub_s (jsub_s (jsub_s (jsub_s (jsub_s (jsub_s (jsub_n (jsub_nil _)))))))) ?_
              refine J.widen (k' := 16) (n' := 292) (by decide) (by decide) ?_
              exact wbX8_run_151T hst _ hq42 hf hv
theorem wbX8_run_16T {g : JG} (hst : (jl g).stackTraces = false)   {a0 : Nat} {s0 : Int32} {z : Nat} {h : AH} {o : (Int32 ⊕ String) × Nat × AH} (hf : bX8_run_16  a0 s0 z h = some o) (hv : (∃ v, o.1 = .inr v)) : J g MX8_runT (jV g (xoI o.1, o.2.1, o.2.2) rmX8_runT.cells rmX8_runT.slots) 16 [some (.ref a0), none, none, none, none, none, none] [.int s0] z h 0 0 := by
  unfold bX8_run_16 at hf
  obtain ⟨vo1, zo1, ho1h, ho1, hf⟩ := rfs3 hf
  rcases xrs hf with ⟨v2, ev2, hf⟩ | ⟨x3, ev2, hf⟩
  · refine XS1v dX8_run_16 (by have h9 := mX8_needValueR hst ho1 ⟨_, ev2⟩; rw [ev2] at h9; exact h9) tk_505 iX8_needValue ⟨by decide, by decide⟩ ⟨by decide, by decide⟩ (Nat.le_of_ble_eq_true rfl) ?_
    refine J_aload_n dX8_run_19 rfl rfl ?_
    obtain ⟨k4, hf⟩ := gds hf
    obtain ⟨b5, rb5, hf⟩ := rfs hf
    refine G_8_5 dX8_run_20 tk_252 k4 rb5 ?_
    refine J_aload_n dX8_run_23 rfl rfl ?_
    obtain ⟨b6, rb6, hf⟩ := rfs hf
    refine G_8_0 dX8_run_24 tk_247 k4 rb6 ?_
    obtain ⟨k7, hf⟩ := gds hf
    obtain ⟨zo8, ho8h, ho8, hf⟩ := rfs2 hf
    refine CV1v dX8_run_27 (mX3_keep hst ho8) tk_572 iX3_keep k7 (by decide) rfl ⟨by decide, by decide⟩ ⟨by decide, by decide⟩ (Nat.le_of_ble_eq_true rfl) ?_
    refine J_iconst (v := 0) dX8_run_30 (by decide) ?_
    refine S_istore_n_1 dX8_run_31 rfl (by decide) ?_
    refine J_iconst (v := 0) dX8_run_32 (by decide) ?_
    refine S_istore_n_2 dX8_run_33 rfl (by decide) ?_
    refine J_iconst (v := 0) dX8_run_34 (by decide) ?_
    refine S_istore_n_3 dX8_run_35 rfl (by decide) ?_
    refine J_iconst (v := 0) dX8_run_36 (by decide) ?_
    refine S_istore_4 dX8_run_37 rfl (by decide) ?_
    refine J_iconst (v := 0) dX8_run_39 (by decide) ?_
    refine S_istore_5 dX8_run_40 rfl (by decide) ?_
    refine J.sub (jsub_s (jsub_s (jsub_s (jsub_s (jsub_s (jsub_s (jsub_n (jsub_nil _)))))))) ?_
    refine J.widen (k' := 16) (n' := 292) (by decide) (by decide) ?_
    exact wlX8_run_42T hst   _ _ _ _ _ _ _ _ _ _ hf hv
  · cases hf
    exact XS1t dX8_run_16 (by have h9 := mX8_needValueT hst ho1 ⟨_, ev2⟩; rw [ev2] at h9; exact h9) tk_505 iX8_needValue ⟨by decide, by decide⟩ ⟨by decide, by decide⟩ (Nat.le_of_ble_eq_true rfl) rfl (by decide) (by decide)
theorem wfX8_runT {g : JG} (hst : (jl g).stackTraces = false)   {a0 : Nat} {z : Nat} {h : AH} {o : (Int32 ⊕ String) × Nat × AH} (hf : fX8_run  a0 z h = some o) (hv : (∃ v, o.1 = .inr v)) : J g MX8_runT (jV g (xoI o.1, o.2.1, o.2.2) rmX8_runT.cells rmX8_runT.slots) 0 [some (.ref a0), none, none, none, none, none, none] [] z h 0 0 := by
  unfold fX8_run at hf
  refine J_aload_n dX8_run_0 rfl rfl ?_
  obtain ⟨k1, hf⟩ := gds hf
  obtain ⟨b2, rb2, hf⟩ := rfs hf
  refine G_8_6 dX8_run_1 tk_253 k1 rb2 ?_
  obtain ⟨k3, hf⟩ := gds hf
  obtain ⟨vo4, zo4, ho4h, ho4, hf⟩ := rfs3 hf
  refine CV0i dX8_run_4 (mX5_firstFault hst ho4) tk_410 iX5_firstFault k3 (by decide) rfl ⟨by decide, by decide⟩ ⟨by decide, by decide⟩ (Nat.le_of_ble_eq_true rfl) ?_
  refine J_iconst (v := (-1)) dX8_run_7 (by decide) ?_
  rcases br hf with ⟨c5, hf⟩ | ⟨c5, hf⟩
  · refine J_icmp_ne (tgt := 15) dX8_run_8 (by decide) (fun w => absurd c5 w) (fun _ => ?_)
    refine J_iconst (v := 1) dX8_run_11 (by decide) ?_
    refine J_goto (tgt := 16) dX8_run_12 (by decide) ?_
    refine J.sub (jsub_s (jsub_n (jsub_n (jsub_n (jsub_n (jsub_n (jsub_n (jsub_nil _)))))))) ?_
    refine J.widen (k' := 0) (n' := 0) (by decide) (by decide) ?_
    exact wbX8_run_16T hst   hf hv
  · refine J_icmp_ne (tgt := 15) dX8_run_8 (by decide) (fun _ => ?_) (fun w => absurd w c5)
    refine J_iconst (v := 0) dX8_run_15 (by decide) ?_
    refine J.sub (jsub_s (jsub_n (jsub_n (jsub_n (jsub_n (jsub_n (jsub_n (jsub_nil _)))))))) ?_
    refine J.widen (k' := 0) (n' := 0) (by decide) (by decide) ?_
    exact wbX8_run_16T hst   hf hv
theorem mX8_runT {g : JG} (hst : (jl g).stackTraces = false) {a0 : Nat} {z : Nat} {h : AH} {o : (Int32 ⊕ String) × Nat × AH} (hf : fX8_run a0 z h = some o) (hv : (∃ v, o.1 = .inr v)) : jMetX g yX8_run (wj yX8_run cX8_run 7 (some .int)) rmX8_runT [.ref a0] z h (xoI o.1, o.2.1, o.2.2) :=
  jMetX_mk (by decide) (Nat.le_of_ble_eq_true rfl) [some (.ref a0), none, none, none, none, none, none] rfl (wfX8_runT hst hf hv)
def bX8_undo_15  (a0 : Nat) (s0 : Int32) (z : Nat) (h : AH) : Option ((Int32 ⊕ String) × Nat × AH) :=
  bd3 (fX8_needState s0 z h) (fun vo1 zo1 ho1h => xr vo1 (fun v2 => gd (kd ho1h a0 = 9) (Option.bind (rv ho1h a0 5) (fun b5 => Option.bind (rv ho1h a0 0) (fun b6 => gd (kd ho1h b5 = 4) (bd2 (fX3_bringBack b5 b6 zo1 ho1h) (fun zo8 ho8h => gd (kd ho8h a0 = 9) (Option.bind (rv ho8h a0 5) (fun b10 => gd (kd ho8h b10 = 4) (some (.inl (iv ho8h b10 1), zo8, ho8h)))))))))) (fun x3 => some (.inr x3, zo1, ho1h)))
def fX8_undo  (a0 : Nat) (z : Nat) (h : AH) : Option ((Int32 ⊕ String) × Nat × AH) :=
  gd (kd h a0 = 9) (Option.bind (rv h a0 5) (fun b2 => gd (kd h b2 = 4) ((if (iv h b2 1) ≤ 0 then (bX8_undo_15  a0 0 z h) else (bX8_undo_15  a0 1 z h)))))
theorem wbX8_undo_15R {g : JG} (hst : (jl g).stackTraces = false)   {a0 : Nat} {s0 : Int32} {z : Nat} {h : AH} {o : (Int32 ⊕ String) × Nat × AH} (hf : bX8_undo_15  a0 s0 z h = some o) (hv : (∃ v, o.1 = .inl v)) : J g MX8_undoR (jV g (xoI o.1, o.2.1, o.2.2) rmX8_undoR.cells rmX8_undoR.slots) 15 [some (.ref a0)] [.int s0] z h 0 0 := by
  unfold bX8_undo_15 at hf
  obtain ⟨vo1, zo1, ho1h, ho1, hf⟩ := rfs3 hf
  rcases xrs hf with ⟨v2, ev2, hf⟩ | ⟨x3, ev2, hf⟩
  · refine XS1v dX8_undo_15 (by have h9 := mX8_needStateR hst ho1 ⟨_, ev2⟩; rw [ev2] at h9; exact h9) tk_553 iX8_needState ⟨by decide, by decide⟩ ⟨by decide, by decide⟩ (Nat.le_of_ble_eq_true rfl) ?_
    refine J_aload_n dX8_undo_18 rfl rfl ?_
    obtain ⟨k4, hf⟩ := gds hf
    obtain ⟨b5, rb5, hf⟩ := rfs hf
    refine G_8_5 dX8_undo_19 tk_252 k4 rb5 ?_
    refine J_aload_n dX8_undo_22 rfl rfl ?_
    obtain ⟨b6, rb6, hf⟩ := rfs hf
    refine G_8_0 dX8_undo_23 tk_247 k4 rb6 ?_
    obtain ⟨k7, hf⟩ := gds hf
    obtain ⟨zo8, ho8h, ho8, hf⟩ := rfs2 hf
    refine CV1v dX8_undo_26 (mX3_bringBack hst ho8) tk_909 iX3_bringBack k7 (by decide) rfl ⟨by decide, by decide⟩ ⟨by decide, by decide⟩ (Nat.le_of_ble_eq_true rfl) ?_
    refine J_aload_n dX8_undo_29 rfl rfl ?_
    obtain ⟨k9, hf⟩ := gds hf
    obtain ⟨b10, rb10, hf⟩ := rfs hf
    refine G_8_5 dX8_undo_30 tk_252 k9 rb10 ?_
    obtain ⟨k11, hf⟩ := gds hf
    refine G_3_1 dX8_undo_33 tk_225 k11 ?_
    cases hf
    exact jN_V (J_iretN dX8_undo_36 rfl (by decide) (by decide))
  · cases hf
    obtain ⟨_, hv⟩ := hv; cases hv
theorem wfX8_undoR {g : JG} (hst : (jl g).stackTraces = false)   {a0 : Nat} {z : Nat} {h : AH} {o : (Int32 ⊕ String) × Nat × AH} (hf : fX8_undo  a0 z h = some o) (hv : (∃ v, o.1 = .inl v)) : J g MX8_undoR (jV g (xoI o.1, o.2.1, o.2.2) rmX8_undoR.cells rmX8_undoR.slots) 0 [some (.ref a0)] [] z h 0 0 := by
  unfold fX8_undo at hf
  refine J_aload_n dX8_undo_0 rfl rfl ?_
  obtain ⟨k1, hf⟩ := gds hf
  obtain ⟨b2, rb2, hf⟩ := rfs hf
  refine G_8_5 dX8_undo_1 tk_252 k1 rb2 ?_
  obtain ⟨k3, hf⟩ := gds hf
  refine G_3_1 dX8_undo_4 tk_225 k3 ?_
  rcases br hf with ⟨c4, hf⟩ | ⟨c4, hf⟩
  · refine J_if_le (tgt := 14) dX8_undo_7 (by decide) (fun _ => ?_) (fun w => absurd c4 w)
    refine J_iconst (v := 0) dX8_undo_14 (by decide) ?_
    refine J.sub (jsub_s (jsub_nil _)) ?_
    refine J.widen (k' := 0) (n' := 0) (by decide) (by decide) ?_
    exact wbX8_undo_15R hst   hf hv
  · refine J_if_le (tgt := 14) dX8_undo_7 (by decide) (fun w => absurd w c4) (fun _ => ?_)
    refine J_iconst (v := 1) dX8_undo_10 (by decide) ?_
    refine J_goto (tgt := 15) dX8_undo_11 (by decide) ?_
    refine J.sub (jsub_s (jsub_nil _)) ?_
    refine J.widen (k' := 0) (n' := 0) (by decide) (by decide) ?_
    exact wbX8_undo_15R hst   hf hv
theorem mX8_undoR {g : JG} (hst : (jl g).stackTraces = false) {a0 : Nat} {z : Nat} {h : AH} {o : (Int32 ⊕ String) × Nat × AH} (hf : fX8_undo a0 z h = some o) (hv : (∃ v, o.1 = .inl v)) : jMetX g yX8_undo (wj yX8_undo cX8_undo 1 (some .int)) rmX8_undoR [.ref a0] z h (xoI o.1, o.2.1, o.2.2) :=
  jMetX_mk (by decide) (Nat.le_of_ble_eq_true rfl) [some (.ref a0)] rfl (wfX8_undoR hst hf hv)
theorem wbX8_undo_15T {g : JG} (hst : (jl g).stackTraces = false)   {a0 : Nat} {s0 : Int32} {z : Nat} {h : AH} {o : (Int32 ⊕ String) × Nat × AH} (hf : bX8_undo_15  a0 s0 z h = some o) (hv : (∃ v, o.1 = .inr v)) : J g MX8_undoT (jV g (xoI o.1, o.2.1, o.2.2) rmX8_undoT.cells rmX8_undoT.slots) 15 [some (.ref a0)] [.int s0] z h 0 0 := by
  unfold bX8_undo_15 at hf
  obtain ⟨vo1, zo1, ho1h, ho1, hf⟩ := rfs3 hf
  rcases xrs hf with ⟨v2, ev2, hf⟩ | ⟨x3, ev2, hf⟩
  · refine XS1v dX8_undo_15 (by have h9 := mX8_needStateR hst ho1 ⟨_, ev2⟩; rw [ev2] at h9; exact h9) tk_553 iX8_needState ⟨by decide, by decide⟩ ⟨by decide, by decide⟩ (Nat.le_of_ble_eq_true rfl) ?_
    refine J_aload_n dX8_undo_18 rfl rfl ?_
    obtain ⟨k4, hf⟩ := gds hf
    obtain ⟨b5, rb5, hf⟩ := rfs hf
    refine G_8_5 dX8_undo_19 tk_252 k4 rb5 ?_
    refine J_aload_n dX8_undo_22 rfl rfl ?_
    obtain ⟨b6, rb6, hf⟩ := rfs hf
    refine G_8_0 dX8_undo_23 tk_247 k4 rb6 ?_
    obtain ⟨k7, hf⟩ := gds hf
    obtain ⟨zo8, ho8h, ho8, hf⟩ := rfs2 hf
    refine CV1v dX8_undo_26 (mX3_bringBack hst ho8) tk_909 iX3_bringBack k7 (by decide) rfl ⟨by decide, by decide⟩ ⟨by decide, by decide⟩ (Nat.le_of_ble_eq_true rfl) ?_
    refine J_aload_n dX8_undo_29 rfl rfl ?_
    obtain ⟨k9, hf⟩ := gds hf
    obtain ⟨b10, rb10, hf⟩ := rfs hf
    refine G_8_5 dX8_undo_30 tk_252 k9 rb10 ?_
    obtain ⟨k11, hf⟩ := gds hf
    refine G_3_1 dX8_undo_33 tk_225 k11 ?_
    cases hf
    obtain ⟨_, hv⟩ := hv; cases hv
  · cases hf
    exact XS1t dX8_undo_15 (by have h9 := mX8_needStateT hst ho1 ⟨_, ev2⟩; rw [ev2] at h9; exact h9) tk_553 iX8_needState ⟨by decide, by decide⟩ ⟨by decide, by decide⟩ (Nat.le_of_ble_eq_true rfl) rfl (by decide) (by decide)
theorem wfX8_undoT {g : JG} (hst : (jl g).stackTraces = false)   {a0 : Nat} {z : Nat} {h : AH} {o : (Int32 ⊕ String) × Nat × AH} (hf : fX8_undo  a0 z h = some o) (hv : (∃ v, o.1 = .inr v)) : J g MX8_undoT (jV g (xoI o.1, o.2.1, o.2.2) rmX8_undoT.cells rmX8_undoT.slots) 0 [some (.ref a0)] [] z h 0 0 := by
  unfold fX8_undo at hf
  refine J_aload_n dX8_undo_0 rfl rfl ?_
  obtain ⟨k1, hf⟩ := gds hf
  obtain ⟨b2, rb2, hf⟩ := rfs hf
  refine G_8_5 dX8_undo_1 tk_252 k1 rb2 ?_
  obtain ⟨k3, hf⟩ := gds hf
  refine G_3_1 dX8_undo_4 tk_225 k3 ?_
  rcases br hf with ⟨c4, hf⟩ | ⟨c4, hf⟩
  · refine J_if_le (tgt := 14) dX8_undo_7 (by decide) (fun _ => ?_) (fun w => absurd c4 w)
    refine J_iconst (v := 0) dX8_undo_14 (by decide) ?_
    refine J.sub (jsub_s (jsub_nil _)) ?_
    refine J.widen (k' := 0) (n' := 0) (by decide) (by decide) ?_
    exact wbX8_undo_15T hst   hf hv
  · refine J_if_le (tgt := 14) dX8_undo_7 (by decide) (fun w => absurd w c4) (fun _ => ?_)
    refine J_iconst (v := 1) dX8_undo_10 (by decide) ?_
    refine J_goto (tgt := 15) dX8_undo_11 (by decide) ?_
    refine J.sub (jsub_s (jsub_nil _)) ?_
    refine J.widen (k' := 0) (n' := 0) (by decide) (by decide) ?_
    exact wbX8_undo_15T hst   hf hv
theorem mX8_undoT {g : JG} (hst : (jl g).stackTraces = false) {a0 : Nat} {z : Nat} {h : AH} {o : (Int32 ⊕ String) × Nat × AH} (hf : fX8_undo a0 z h = some o) (hv : (∃ v, o.1 = .inr v)) : jMetX g yX8_undo (wj yX8_undo cX8_undo 1 (some .int)) rmX8_undoT [.ref a0] z h (xoI o.1, o.2.1, o.2.2) :=
  jMetX_mk (by decide) (Nat.le_of_ble_eq_true rfl) [some (.ref a0)] rfl (wfX8_undoT hst hf hv)
def bX8_checksum_244  (a0 : Nat) (y1 : Int64) (z : Nat) (h : AH) : Option ((Int64 ⊕ String) × Nat × AH) :=
  gd (kd h a0 = 9) (Option.bind (rv h a0 3) (fun b2 => Option.bind (rv h a0 0) (fun b3 => gd (kd h b2 = 8) (bd2 (fX7_read b2 b3 z h) (fun zo5 ho5h => gd (kd ho5h a0 = 9) (Option.bind (rv ho5h a0 3) (fun b7 => gd (kd ho5h b7 = 8) (bd3 (fX8_mix y1 (Int32.toInt64 (iv ho5h b7 2)) zo5 ho5h) (fun vo9 zo9 ho9h => gd (kd ho9h a0 = 9) (Option.bind (rv ho9h a0 3) (fun b11 => gd (kd ho9h b11 = 8) (bd3 (fX7_leadingToRings b11 zo9 ho9h) (fun vo13 zo13 ho13h => bd3 (fX8_mix vo9 (Int32.toInt64 vo13) zo13 ho13h) (fun vo14 zo14 ho14h => gd (kd ho14h a0 = 9) (Option.bind (rv ho14h a0 6) (fun b16 => gd (kd ho14h b16 = 6) (bd3 (fX8_mix vo14 (Int32.toInt64 (iv ho14h b16 1)) zo14 ho14h) (fun vo18 zo18 ho18h => gd (kd ho18h a0 = 9) (Option.bind (rv ho18h a0 5) (fun b20 => gd (kd ho18h b20 = 4) (bd3 (fX8_mix vo18 (Int32.toInt64 (iv ho18h b20 1)) zo18 ho18h) (fun vo22 zo22 ho22h => some (.inl vo22, zo22, ho22h)))))))))))))))))))))))
def lX8_checksum_207B (q184 : Nat → Int64 → Int32 → Nat → AH → Option ((Int64 ⊕ String) × Nat × AH)) (q207 : Nat → Int64 → Int32 → Int32 → Nat → AH → Option ((Int64 ⊕ String) × Nat × AH)) (a0 : Nat) (y1 : Int64) (x3 : Int32) (x4 : Int32) (z : Nat) (h : AH) : Option ((Int64 ⊕ String) × Nat × AH) :=
  (if 4 < x4 then (q184 a0 y1 (x3 + 1) z h) else (gd (kd h a0 = 9) (Option.bind (rv h a0 0) (fun b3 => gd (kd h b3 = 1) (Option.bind (rv h b3 1) (fun b5 => gd (kd h b5 = 5) (bd3 (fX4_property b5 x3 x4 z h) (fun vo7 zo7 ho7h => bd3 (fX8_mix y1 (Int32.toInt64 vo7) zo7 ho7h) (fun vo8 zo8 ho8h => q207 a0 vo8 x3 (x4 + 1) zo8 ho8h)))))))))
def lX8_checksum_207 (q184 : Nat → Int64 → Int32 → Nat → AH → Option ((Int64 ⊕ String) × Nat × AH)) : Nat → Nat → Int64 → Int32 → Int32 → Nat → AH → Option ((Int64 ⊕ String) × Nat × AH)
  | 0 => fun _ _ _ _ _ _ => none
  | fuel + 1 => lX8_checksum_207B q184 (lX8_checksum_207 q184 fuel)
def lX8_checksum_184B  (q184 : Nat → Int64 → Int32 → Nat → AH → Option ((Int64 ⊕ String) × Nat × AH)) (a0 : Nat) (y1 : Int64) (x3 : Int32) (z : Nat) (h : AH) : Option ((Int64 ⊕ String) × Nat × AH) :=
  gd (kd h a0 = 9) (Option.bind (rv h a0 0) (fun b2 => gd (kd h b2 = 1) (Option.bind (rv h b2 1) (fun b4 => gd (kd h b4 = 5) ((if (iv h b4 5) ≤ x3 then (bX8_checksum_244  a0 y1 z h) else ((if 40 ≤ x3 then (bX8_checksum_244  a0 y1 z h) else (lX8_checksum_207 q184 fu a0 y1 x3 0 z h)))))))))
def lX8_checksum_184  : Nat → Nat → Int64 → Int32 → Nat → AH → Option ((Int64 ⊕ String) × Nat × AH)
  | 0 => fun _ _ _ _ _ => none
  | fuel + 1 => lX8_checksum_184B  (lX8_checksum_184  fuel)
def bX8_checksum_125 (q79 : Nat → Int64 → Int32 → Nat → AH → Option ((Int64 ⊕ String) × Nat × AH)) (a0 : Nat) (y1 : Int64) (x3 : Int32) (z : Nat) (h : AH) : Option ((Int64 ⊕ String) × Nat × AH) :=
  q79 a0 y1 (x3 + 1) z h
def lX8_checksum_88B (q79 : Nat → Int64 → Int32 → Nat → AH → Option ((Int64 ⊕ String) × Nat × AH)) (q88 : Nat → Int64 → Int32 → Int32 → Nat → AH → Option ((Int64 ⊕ String) × Nat × AH)) (a0 : Nat) (y1 : Int64) (x3 : Int32) (x4 : Int32) (z : Nat) (h : AH) : Option ((Int64 ⊕ String) × Nat × AH) :=
  (if 6 < x4 then (bX8_checksum_125 q79 a0 y1 x3 z h) else (gd (kd h a0 = 9) (Option.bind (rv h a0 0) (fun b3 => gd (kd h b3 = 1) (bd3 (fX0_has b3 x3 z h) (fun vo5 zo5 ho5h => (if vo5 = 0 then (bX8_checksum_125 q79 a0 y1 x3 zo5 ho5h) else (gd (kd ho5h a0 = 9) (bd3 (fX8_task a0 x3 x4 zo5 ho5h) (fun vo8 zo8 ho8h => xr vo8 (fun v9 => bd3 (fX8_mix y1 (Int32.toInt64 v9) zo8 ho8h) (fun vo11 zo11 ho11h => q88 a0 vo11 x3 (x4 + 1) zo11 ho11h)) (fun x10 => some (.inr x10, zo8, ho8h))))))))))))
def lX8_checksum_88 (q79 : Nat → Int64 → Int32 → Nat → AH → Option ((Int64 ⊕ String) × Nat × AH)) : Nat → Nat → Int64 → Int32 → Int32 → Nat → AH → Option ((Int64 ⊕ String) × Nat × AH)
  | 0 => fun _ _ _ _ _ _ => none
  | fuel + 1 => lX8_checksum_88B q79 (lX8_checksum_88 q79 fuel)
def lX8_checksum_79B  (q79 : Nat → Int64 → Int32 → Nat → AH → Option ((Int64 ⊕ String) × Nat × AH)) (a0 : Nat) (y1 : Int64) (x3 : Int32) (z : Nat) (h : AH) : Option ((Int64 ⊕ String) × Nat × AH) :=
  (if 10 ≤ x3 then (gd (kd h a0 = 9) (Option.bind (rv h a0 0) (fun b3 => gd (kd h b3 = 1) (bd3 (fX8_mix y1 (Int32.toInt64 (iv h b3 10)) z h) (fun vo5 zo5 ho5h => gd (kd ho5h a0 = 9) (Option.bind (rv ho5h a0 0) (fun b7 => gd (kd ho5h b7 = 1) (bd3 (fX8_mix vo5 (Int32.toInt64 (iv ho5h b7 11)) zo5 ho5h) (fun vo9 zo9 ho9h => gd (kd ho9h a0 = 9) (Option.bind (rv ho9h a0 0) (fun b11 => gd (kd ho9h b11 = 1) (bd3 (fX8_mix vo9 (Int32.toInt64 (iv ho9h b11 12)) zo9 ho9h) (fun vo13 zo13 ho13h => gd (kd ho13h a0 = 9) (Option.bind (rv ho13h a0 0) (fun b15 => gd (kd ho13h b15 = 1) (Option.bind (rv ho13h b15 1) (fun b17 => gd (kd ho13h b17 = 5) (bd3 (fX8_mix vo13 (Int32.toInt64 (iv ho13h b17 5)) zo13 ho13h) (fun vo19 zo19 ho19h => lX8_checksum_184  fu a0 vo19 0 zo19 ho19h))))))))))))))))))) else (lX8_checksum_88 q79 fu a0 y1 x3 0 z h))
def lX8_checksum_79  : Nat → Nat → Int64 → Int32 → Nat → AH → Option ((Int64 ⊕ String) × Nat × AH)
  | 0 => fun _ _ _ _ _ => none
  | fuel + 1 => lX8_checksum_79B  (lX8_checksum_79  fuel)
def bX8_checksum_64  (a0 : Nat) (y1 : Int64) (z : Nat) (h : AH) : Option ((Int64 ⊕ String) × Nat × AH) :=
  gd (kd h a0 = 9) (Option.bind (rv h a0 0) (fun b2 => gd (kd h b2 = 1) (bd3 (fX8_mix y1 (Int32.toInt64 (iv h b2 9)) z h) (fun vo4 zo4 ho4h => lX8_checksum_79  fu a0 vo4 0 zo4 ho4h))))
def lX8_checksum_20B  (q20 : Nat → Int64 → Int32 → Nat → AH → Option ((Int64 ⊕ String) × Nat × AH)) (a0 : Nat) (y1 : Int64) (x3 : Int32) (z : Nat) (h : AH) : Option ((Int64 ⊕ String) × Nat × AH) :=
  gd (kd h a0 = 9) (Option.bind (rv h a0 0) (fun b2 => gd (kd h b2 = 1) (Option.bind (rv h b2 0) (fun b4 => gd (kd h b4 = 3) ((if (iv h b4 3) ≤ x3 then (bX8_checksum_64  a0 y1 z h) else ((if 16 ≤ x3 then (bX8_checksum_64  a0 y1 z h) else (Option.bind (rv h a0 0) (fun b8 => gd (kd h b8 = 1) (Option.bind (rv h b8 0) (fun b10 => gd (kd h b10 = 3) (Option.bind (rv h b10 0) (fun b12 => gd (kd h b12 = 13) (gd (¬ ((x3 : Int32) < 0 ∨ ln h b12 ≤ Int32.toNatClampNeg x3)) (bd3 (fX8_mix y1 (Int32.toInt64 (iv h b12 (Int32.toNatClampNeg x3))) z h) (fun vo15 zo15 ho15h => q20 a0 vo15 (x3 + 1) zo15 ho15h)))))))))))))))))
def lX8_checksum_20  : Nat → Nat → Int64 → Int32 → Nat → AH → Option ((Int64 ⊕ String) × Nat × AH)
  | 0 => fun _ _ _ _ _ => none
  | fuel + 1 => lX8_checksum_20B  (lX8_checksum_20  fuel)
def fX8_checksum  (a0 : Nat) (z : Nat) (h : AH) : Option ((Int64 ⊕ String) × Nat × AH) :=
  gd (kd h a0 = 9) (Option.bind (rv h a0 0) (fun b2 => gd (kd h b2 = 1) (Option.bind (rv h b2 0) (fun b4 => gd (kd h b4 = 3) (bd3 (fX8_mix 18547 (Int32.toInt64 (iv h b4 3)) z h) (fun vo6 zo6 ho6h => lX8_checksum_20  fu a0 vo6 0 zo6 ho6h))))))
theorem wbX8_checksum_244R {g : JG} (hst : (jl g).stackTraces = false)   {a0 : Nat} {y1 : Int64} {z : Nat} {h : AH} {o : (Int64 ⊕ String) × Nat × AH} (hf : bX8_checksum_244  a0 y1 z h = some o) (hv : (∃ v, o.1 = .inl v)) : J g MX8_checksumR (jV g (xoJ o.1, o.2.1, o.2.2) rmX8_checksumR.cells rmX8_checksumR.slots) 244 [some (.ref a0), some (.long y1), none, none, none] [] z h 0 0 := by
  unfold bX8_checksum_244 at hf
  refine J_aload_n dX8_checksum_244 rfl rfl ?_
  obtain ⟨k1, hf⟩ := gds hf
  obtain ⟨b2, rb2, hf⟩ := rfs hf
  refine G_8_3 dX8_checksum_245 tk_250 k1 rb2 ?_
  refine J_aload_n dX8_checksum_248 rfl rfl ?_
  obtain ⟨b3, rb3, hf⟩ := rfs hf
  refine G_8_0 dX8_checksum_249 tk_247 k1 rb3 ?_
  obtain ⟨k4, hf⟩ := gds hf
  obtain ⟨zo5, ho5h, ho5, hf⟩ := rfs2 hf
  refine CV1v dX8_checksum_252 (mX7_read hst ho5) tk_292 iX7_read k4 (by decide) rfl ⟨by decide, by decide⟩ ⟨by decide, by decide⟩ (Nat.le_of_ble_eq_true rfl) ?_
  refine J_lload_n dX8_checksum_255 rfl rfl ?_
  refine J_aload_n dX8_checksum_256 rfl rfl ?_
  obtain ⟨k6, hf⟩ := gds hf
  obtain ⟨b7, rb7, hf⟩ := rfs hf
  refine G_8_3 dX8_checksum_257 tk_250 k6 rb7 ?_
  obtain ⟨k8, hf⟩ := gds hf
  refine G_7_2 dX8_checksum_260 tk_188 k8 ?_
  refine J_i2l dX8_checksum_263 ?_
  obtain ⟨vo9, zo9, ho9h, ho9, hf⟩ := rfs3 hf
  refine CS2l (host := "") dX8_checksum_264 (mX8_mix hst ho9) tk_425 iX8_mix ⟨by decide, by decide⟩ ⟨by decide, by decide⟩ (Nat.le_of_ble_eq_true rfl) ?_
  refine J_aload_n dX8_checksum_267 rfl rfl ?_
  obtain ⟨k10, hf⟩ := gds hf
  obtain ⟨b11, rb11, hf⟩ := rfs hf
  refine G_8_3 dX8_checksum_268 tk_250 k10 rb11 ?_
  obtain ⟨k12, hf⟩ := gds hf
  obtain ⟨vo13, zo13, ho13h, ho13, hf⟩ := rfs3 hf
  refine CV0i dX8_checksum_271 (mX7_leadingToRings hst ho13) tk_315 iX7_leadingToRings k12 (by decide) rfl ⟨by decide, by decide⟩ ⟨by decide, by decide⟩ (Nat.le_of_ble_eq_true rfl) ?_
  refine J_i2l dX8_checksum_274 ?_
  obtain ⟨vo14, zo14, ho14h, ho14, hf⟩ := rfs3 hf
  refine CS2l (host := "") dX8_checksum_275 (mX8_mix hst ho14) tk_425 iX8_mix ⟨by decide, by decide⟩ ⟨by decide, by decide⟩ (Nat.le_of_ble_eq_true rfl) ?_
  refine S_lstore_n_1 dX8_checksum_278 rfl (by decide) ?_
  refine J_lload_n dX8_checksum_279 rfl rfl ?_
  refine J_aload_n dX8_checksum_280 rfl rfl ?_
  obtain ⟨k15, hf⟩ := gds hf
  obtain ⟨b16, rb16, hf⟩ := rfs hf
  refine G_8_6 dX8_checksum_281 tk_253 k15 rb16 ?_
  obtain ⟨k17, hf⟩ := gds hf
  refine G_5_1 dX8_checksum_284 tk_240 k17 ?_
  refine J_i2l dX8_checksum_287 ?_
  obtain ⟨vo18, zo18, ho18h, ho18, hf⟩ := rfs3 hf
  refine CS2l (host := "") dX8_checksum_288 (mX8_mix hst ho18) tk_425 iX8_mix ⟨by decide, by decide⟩ ⟨by decide, by decide⟩ (Nat.le_of_ble_eq_true rfl) ?_
  refine J_aload_n dX8_checksum_291 rfl rfl ?_
  obtain ⟨k19, hf⟩ := gds hf
  obtain ⟨b20, rb20, hf⟩ := rfs hf
  refine G_8_5 dX8_checksum_292 tk_252 k19 rb20 ?_
  obtain ⟨k21, hf⟩ := gds hf
  refine G_3_1 dX8_checksum_295 tk_225 k21 ?_
  refine J_i2l dX8_checksum_298 ?_
  obtain ⟨vo22, zo22, ho22h, ho22, hf⟩ := rfs3 hf
  refine CS2l (host := "") dX8_checksum_299 (mX8_mix hst ho22) tk_425 iX8_mix ⟨by decide, by decide⟩ ⟨by decide, by decide⟩ (Nat.le_of_ble_eq_true rfl) ?_
  cases hf
  exact jN_V (J_lretN dX8_checksum_302 rfl (by decide) (by decide))
theorem wlX8_checksum_207R {g : JG} (hst : (jl g).stackTraces = false) (q184 : Nat → Int64 → Int32 → Nat → AH → Option ((Int64 ⊕ String) × Nat × AH)) (hq184 : ∀ (a0 : Nat) (y1 : Int64) (x3 : Int32) (z : Nat) (h : AH) (o : (Int64 ⊕ String) × Nat × AH), q184 a0 y1 x3 z h = some o → (∃ v, o.1 = .inl v) → J g MX8_checksumR (jV g (xoJ o.1, o.2.1, o.2.2) rmX8_checksumR.cells rmX8_checksumR.slots) 184 [some (.ref a0), some (.long y1), none, some (.int x3), none] [] z h 0 0) : ∀ (fuel : Nat) (a0 : Nat) (y1 : Int64) (x3 : Int32) (x4 : Int32) (z : Nat) (h : AH) (o : (Int64 ⊕ String) × Nat × AH), lX8_checksum_207 q184 fuel a0 y1 x3 x4 z h = some o → (∃ v, o.1 = .inl v) → J g MX8_checksumR (jV g (xoJ o.1, o.2.1, o.2.2) rmX8_checksumR.cells rmX8_checksumR.slots) 207 [some (.ref a0), some (.long y1), none, some (.int x3), some (.int x4)] [] z h 0 0 := by
  intro fuel
  induction fuel with
  | zero => intro a0 y1 x3 x4 z h o hf; cases hf
  | succ fuel ih =>
    intro a0 y1 x3 x4 z h o hf hv
    have hq207 := ih
    have hf : lX8_checksum_207B q184 (lX8_checksum_207 q184 fuel) a0 y1 x3 x4 z h = some o := hf
    generalize lX8_checksum_207 q184 fuel = q207 at hf hq207
    unfold lX8_checksum_207B at hf
    refine J_iload dX8_checksum_207 rfl ?_
    refine J_iconst (v := 4) dX8_checksum_209 (by decide) ?_
    rcases br hf with ⟨c1, hf⟩ | ⟨c1, hf⟩
    · refine J_icmp_gt (tgt := 238) dX8_checksum_210 (by decide) (fun _ => ?_) (fun w => absurd c1 w)
      refine S_iinc_3 (v := x3 + 1) dX8_checksum_238 (congrArg (fun w => x3 + w) (by decide)) rfl (by decide) ?_
      refine J_goto (tgt := 184) dX8_checksum_241 (by decide) ?_
      refine J.sub (jsub_s (jsub_s (jsub_n (jsub_s (jsub_n (jsub_nil _)))))) ?_
      refine J.widen (k' := 0) (n' := 0) (by decide) (by decide) ?_
      exact hq184 _ _ _ _ _ _ hf hv
    · refine J_icmp_gt (tgt := 238) dX8_checksum_210 (by decide) (fun w => absurd w c1) (fun _ => ?_)
      refine J_lload_n dX8_checksum_213 rfl rfl ?_
      refine J_aload_n dX8_checksum_214 rfl rfl ?_
      obtain ⟨k2, hf⟩ := gds hf
      obtain ⟨b3, rb3, hf⟩ := rfs hf
      refine G_8_0 dX8_checksum_215 tk_247 k2 rb3 ?_
      obtain ⟨k4, hf⟩ := gds hf
      obtain ⟨b5, rb5, hf⟩ := rfs hf
      refine G_0_1 dX8_checksum_218 tk_95 k4 rb5 ?_
      refine J_iload_n dX8_checksum_221 rfl rfl ?_
      refine J_iload dX8_checksum_222 rfl ?_
      obtain ⟨k6, hf⟩ := gds hf
      obtain ⟨vo7, zo7, ho7h, ho7, hf⟩ := rfs3 hf
      refine CV2i dX8_checksum_224 (mX4_property hst ho7) tk_529 iX4_property k6 (by decide) rfl ⟨by decide, by decide⟩ ⟨by decide, by decide⟩ (Nat.le_of_ble_eq_true rfl) ?_
      refine J_i2l dX8_checksum_227 ?_
      obtain ⟨vo8, zo8, ho8h, ho8, hf⟩ := rfs3 hf
      refine CS2l (host := "") dX8_checksum_228 (mX8_mix hst ho8) tk_425 iX8_mix ⟨by decide, by decide⟩ ⟨by decide, by decide⟩ (Nat.le_of_ble_eq_true rfl) ?_
      refine S_lstore_n_1 dX8_checksum_231 rfl (by decide) ?_
      refine S_iinc_4 (v := x4 + 1) dX8_checksum_232 (congrArg (fun w => x4 + w) (by decide)) rfl (by decide) ?_
      refine J_goto (tgt := 207) dX8_checksum_235 (by decide) ?_
      refine J.sub (jsub_s (jsub_s (jsub_n (jsub_s (jsub_s (jsub_nil _)))))) ?_
      refine J.widen (k' := 0) (n' := 0) (by decide) (by decide) ?_
      exact hq207 _ _ _ _ _ _ _ hf hv
theorem wlX8_checksum_184R {g : JG} (hst : (jl g).stackTraces = false)   : ∀ (fuel : Nat) (a0 : Nat) (y1 : Int64) (x3 : Int32) (z : Nat) (h : AH) (o : (Int64 ⊕ String) × Nat × AH), lX8_checksum_184  fuel a0 y1 x3 z h = some o → (∃ v, o.1 = .inl v) → J g MX8_checksumR (jV g (xoJ o.1, o.2.1, o.2.2) rmX8_checksumR.cells rmX8_checksumR.slots) 184 [some (.ref a0), some (.long y1), none, some (.int x3), none] [] z h 0 0 := by
  intro fuel
  induction fuel with
  | zero => intro a0 y1 x3 z h o hf; cases hf
  | succ fuel ih =>
    intro a0 y1 x3 z h o hf hv
    have hq184 := ih
    have hf : lX8_checksum_184B  (lX8_checksum_184  fuel) a0 y1 x3 z h = some o := hf
    generalize lX8_checksum_184  fuel = q184 at hf hq184
    unfold lX8_checksum_184B at hf
    refine J_iload_n dX8_checksum_184 rfl rfl ?_
    refine J_aload_n dX8_checksum_185 rfl rfl ?_
    obtain ⟨k1, hf⟩ := gds hf
    obtain ⟨b2, rb2, hf⟩ := rfs hf
    refine G_8_0 dX8_checksum_186 tk_247 k1 rb2 ?_
    obtain ⟨k3, hf⟩ := gds hf
    obtain ⟨b4, rb4, hf⟩ := rfs hf
    refine G_0_1 dX8_checksum_189 tk_95 k3 rb4 ?_
    obtain ⟨k5, hf⟩ := gds hf
    refine G_4_5 dX8_checksum_192 tk_76 k5 ?_
    rcases br hf with ⟨c6, hf⟩ | ⟨c6, hf⟩
    · refine J_icmp_ge (tgt := 244) dX8_checksum_195 (by decide) (fun _ => ?_) (fun w => absurd c6 w)
      refine J.sub (jsub_s (jsub_s (jsub_n (jsub_n (jsub_n (jsub_nil _)))))) ?_
      refine J.widen (k' := 0) (n' := 0) (by decide) (by decide) ?_
      exact wbX8_checksum_244R hst   hf hv
    · refine J_icmp_ge (tgt := 244) dX8_checksum_195 (by decide) (fun w => absurd w c6) (fun _ => ?_)
      refine J_iload_n dX8_checksum_198 rfl rfl ?_
      refine J_bipush (v := 40) dX8_checksum_199 (by decide) ?_
      rcases br hf with ⟨c7, hf⟩ | ⟨c7, hf⟩
      · refine J_icmp_ge (tgt := 244) dX8_checksum_201 (by decide) (fun _ => ?_) (fun w => absurd c7 w)
        refine J.sub (jsub_s (jsub_s (jsub_n (jsub_n (jsub_n (jsub_nil _)))))) ?_
        refine J.widen (k' := 0) (n' := 0) (by decide) (by decide) ?_
        exact wbX8_checksum_244R hst   hf hv
      · refine J_icmp_ge (tgt := 244) dX8_checksum_201 (by decide) (fun w => absurd w c7) (fun _ => ?_)
        refine J_iconst (v := 0) dX8_checksum_204 (by decide) ?_
        refine S_istore_4 dX8_checksum_205 rfl (by decide) ?_
        refine J.sub (jsub_s (jsub_s (jsub_n (jsub_s (jsub_s (jsub_nil _)))))) ?_
        refine J.widen (k' := 0) (n' := 0) (by decide) (by decide) ?_
        exact wlX8_checksum_207R hst _ hq184 _ _ _ _ _ _ _ _ hf hv
theorem wbX8_checksum_125R {g : JG} (hst : (jl g).stackTraces = false) (q79 : Nat → Int64 → Int32 → Nat → AH → Option ((Int64 ⊕ String) × Nat × AH)) (hq79 : ∀ (a0 : Nat) (y1 : Int64) (x3 : Int32) (z : Nat) (h : AH) (o : (Int64 ⊕ String) × Nat × AH), q79 a0 y1 x3 z h = some o → (∃ v, o.1 = .inl v) → J g MX8_checksumR (jV g (xoJ o.1, o.2.1, o.2.2) rmX8_checksumR.cells rmX8_checksumR.slots) 79 [some (.ref a0), some (.long y1), none, some (.int x3), none] [] z h 0 0) {a0 : Nat} {y1 : Int64} {x3 : Int32} {z : Nat} {h : AH} {o : (Int64 ⊕ String) × Nat × AH} (hf : bX8_checksum_125 q79 a0 y1 x3 z h = some o) (hv : (∃ v, o.1 = .inl v)) : J g MX8_checksumR (jV g (xoJ o.1, o.2.1, o.2.2) rmX8_checksumR.cells rmX8_checksumR.slots) 125 [some (.ref a0), some (.long y1), none, some (.int x3), none] [] z h 0 0 := by
  unfold bX8_checksum_125 at hf
  refine S_iinc_3 (v := x3 + 1) dX8_checksum_125 (congrArg (fun w => x3 + w) (by decide)) rfl (by decide) ?_
  refine J_goto (tgt := 79) dX8_checksum_128 (by decide) ?_
  refine J.sub (jsub_s (jsub_s (jsub_n (jsub_s (jsub_n (jsub_nil _)))))) ?_
  refine J.widen (k' := 0) (n' := 0) (by decide) (by decide) ?_
  exact hq79 _ _ _ _ _ _ hf hv
theorem wlX8_checksum_88R {g : JG} (hst : (jl g).stackTraces = false) (q79 : Nat → Int64 → Int32 → Nat → AH → Option ((Int64 ⊕ String) × Nat × AH)) (hq79 : ∀ (a0 : Nat) (y1 : Int64) (x3 : Int32) (z : Nat) (h : AH) (o : (Int64 ⊕ String) × Nat × AH), q79 a0 y1 x3 z h = some o → (∃ v, o.1 = .inl v) → J g MX8_checksumR (jV g (xoJ o.1, o.2.1, o.2.2) rmX8_checksumR.cells rmX8_checksumR.slots) 79 [some (.ref a0), some (.long y1), none, some (.int x3), none] [] z h 0 0) : ∀ (fuel : Nat) (a0 : Nat) (y1 : Int64) (x3 : Int32) (x4 : Int32) (z : Nat) (h : AH) (o : (Int64 ⊕ String) × Nat × AH), lX8_checksum_88 q79 fuel a0 y1 x3 x4 z h = some o → (∃ v, o.1 = .inl v) → J g MX8_checksumR (jV g (xoJ o.1, o.2.1, o.2.2) rmX8_checksumR.cells rmX8_checksumR.slots) 88 [some (.ref a0), some (.long y1), none, some (.int x3), some (.int x4)] [] z h 0 0 := by
  intro fuel
  induction fuel with
  | zero => intro a0 y1 x3 x4 z h o hf; cases hf
  | succ fuel ih =>
    intro a0 y1 x3 x4 z h o hf hv
    have hq88 := ih
    have hf : lX8_checksum_88B q79 (lX8_checksum_88 q79 fuel) a0 y1 x3 x4 z h = some o := hf
    generalize lX8_checksum_88 q79 fuel = q88 at hf hq88
    unfold lX8_checksum_88B at hf
    refine J_iload dX8_checksum_88 rfl ?_
    refine J_bipush (v := 6) dX8_checksum_90 (by decide) ?_
    rcases br hf with ⟨c1, hf⟩ | ⟨c1, hf⟩
    · refine J_icmp_gt (tgt := 125) dX8_checksum_92 (by decide) (fun _ => ?_) (fun w => absurd c1 w)
      refine J.sub (jsub_s (jsub_s (jsub_n (jsub_s (jsub_n (jsub_nil _)))))) ?_
      refine J.widen (k' := 0) (n' := 0) (by decide) (by decide) ?_
      exact wbX8_checksum_125R hst _ hq79 hf hv
    · refine J_icmp_gt (tgt := 125) dX8_checksum_92 (by decide) (fun w => absurd w c1) (fun _ => ?_)
      refine J_aload_n dX8_checksum_95 rfl rfl ?_
      obtain ⟨k2, hf⟩ := gds hf
      obtain ⟨b3, rb3, hf⟩ := rfs hf
      refine G_8_0 dX8_checksum_96 tk_247 k2 rb3 ?_
      refine J_iload_n dX8_checksum_99 rfl rfl ?_
      obtain ⟨k4, hf⟩ := gds hf
      obtain ⟨vo5, zo5, ho5h, ho5, hf⟩ := rfs3 hf
      refine CV1i dX8_checksum_100 (mX0_has hst ho5) tk_429 iX0_has k4 (by decide) rfl ⟨by decide, by decide⟩ ⟨by decide, by decide⟩ (Nat.le_of_ble_eq_true rfl) ?_
      rcases br hf with ⟨c6, hf⟩ | ⟨c6, hf⟩
      · refine J_if_eq (tgt := 125) dX8_checksum_103 (by decide) (fun _ => ?_) (fun w => absurd c6 w)
        refine J.sub (jsub_s (jsub_s (jsub_n (jsub_s (jsub_n (jsub_nil _)))))) ?_
        refine J.widen (k' := 0) (n' := 0) (by decide) (by decide) ?_
        exact wbX8_checksum_125R hst _ hq79 hf hv
      · refine J_if_eq (tgt := 125) dX8_checksum_103 (by decide) (fun w => absurd w c6) (fun _ => ?_)
        refine J_lload_n dX8_checksum_106 rfl rfl ?_
        refine J_aload_n dX8_checksum_107 rfl rfl ?_
        refine J_iload_n dX8_checksum_108 rfl rfl ?_
        refine J_iload dX8_checksum_109 rfl ?_
        obtain ⟨k7, hf⟩ := gds hf
        obtain ⟨vo8, zo8, ho8h, ho8, hf⟩ := rfs3 hf
        rcases xrs hf with ⟨v9, ev9, hf⟩ | ⟨x10, ev9, hf⟩
        · refine XV2i dX8_checksum_111 (by have h9 := mX8_taskR hst ho8 ⟨_, ev9⟩; rw [ev9] at h9; exact h9) tk_430 iX8_task k7 (by decide) rfl ⟨by decide, by decide⟩ ⟨by decide, by decide⟩ (Nat.le_of_ble_eq_true rfl) ?_
          refine J_i2l dX8_checksum_114 ?_
          obtain ⟨vo11, zo11, ho11h, ho11, hf⟩ := rfs3 hf
          refine CS2l (host := "") dX8_checksum_115 (mX8_mix hst ho11) tk_425 iX8_mix ⟨by decide, by decide⟩ ⟨by decide, by decide⟩ (Nat.le_of_ble_eq_true rfl) ?_
          refine S_lstore_n_1 dX8_checksum_118 rfl (by decide) ?_
          refine S_iinc_4 (v := x4 + 1) dX8_checksum_119 (congrArg (fun w => x4 + w) (by decide)) rfl (by decide) ?_
          refine J_goto (tgt := 88) dX8_checksum_122 (by decide) ?_
          refine J.sub (jsub_s (jsub_s (jsub_n (jsub_s (jsub_s (jsub_nil _)))))) ?_
          refine J.widen (k' := 0) (n' := 0) (by decide) (by decide) ?_
          exact hq88 _ _ _ _ _ _ _ hf hv
        · cases hf
          obtain ⟨_, hv⟩ := hv; cases hv
theorem wlX8_checksum_79R {g : JG} (hst : (jl g).stackTraces = false)   : ∀ (fuel : Nat) (a0 : Nat) (y1 : Int64) (x3 : Int32) (z : Nat) (h : AH) (o : (Int64 ⊕ String) × Nat × AH), lX8_checksum_79  fuel a0 y1 x3 z h = some o → (∃ v, o.1 = .inl v) → J g MX8_checksumR (jV g (xoJ o.1, o.2.1, o.2.2) rmX8_checksumR.cells rmX8_checksumR.slots) 79 [some (.ref a0), some (.long y1), none, some (.int x3), none] [] z h 0 0 := by
  intro fuel
  induction fuel with
  | zero => intro a0 y1 x3 z h o hf; cases hf
  | succ fuel ih =>
    intro a0 y1 x3 z h o hf hv
    have hq79 := ih
    have hf : lX8_checksum_79B  (lX8_checksum_79  fuel) a0 y1 x3 z h = some o := hf
    generalize lX8_checksum_79  fuel = q79 at hf hq79
    unfold lX8_checksum_79B at hf
    refine J_iload_n dX8_checksum_79 rfl rfl ?_
    refine J_bipush (v := 10) dX8_checksum_80 (by decide) ?_
    rcases br hf with ⟨c1, hf⟩ | ⟨c1, hf⟩
    · refine J_icmp_ge (tgt := 131) dX8_checksum_82 (by decide) (fun _ => ?_) (fun w => absurd c1 w)
      refine J_lload_n dX8_checksum_131 rfl rfl ?_
      refine J_aload_n dX8_checksum_132 rfl rfl ?_
      obtain ⟨k2, hf⟩ := gds hf
      obtain ⟨b3, rb3, hf⟩ := rfs hf
      refine G_8_0 dX8_checksum_133 tk_247 k2 rb3 ?_
      obtain ⟨k4, hf⟩ := gds hf
      refine G_0_10 dX8_checksum_136 tk_117 k4 ?_
      refine J_i2l dX8_checksum_139 ?_
      obtain ⟨vo5, zo5, ho5h, ho5, hf⟩ := rfs3 hf
      refine CS2l (host := "") dX8_checksum_140 (mX8_mix hst ho5) tk_425 iX8_mix ⟨by decide, by decide⟩ ⟨by decide, by decide⟩ (Nat.le_of_ble_eq_true rfl) ?_
      refine J_aload_n dX8_checksum_143 rfl rfl ?_
      obtain ⟨k6, hf⟩ := gds hf
      obtain ⟨b7, rb7, hf⟩ := rfs hf
      refine G_8_0 dX8_checksum_144 tk_247 k6 rb7 ?_
      obtain ⟨k8, hf⟩ := gds hf
      refine G_0_11 dX8_checksum_147 tk_120 k8 ?_
      refine J_i2l dX8_checksum_150 ?_
      obtain ⟨vo9, zo9, ho9h, ho9, hf⟩ := rfs3 hf
      refine CS2l (host := "") dX8_checksum_151 (mX8_mix hst ho9) tk_425 iX8_mix ⟨by decide, by decide⟩ ⟨by decide, by decide⟩ (Nat.le_of_ble_eq_true rfl) ?_
      refine J_aload_n dX8_checksum_154 rfl rfl ?_
      obtain ⟨k10, hf⟩ := gds hf
      obtain ⟨b11, rb11, hf⟩ := rfs hf
      refine G_8_0 dX8_checksum_155 tk_247 k10 rb11 ?_
      obtain ⟨k12, hf⟩ := gds hf
      refine G_0_12 dX8_checksum_158 tk_124 k12 ?_
      refine J_i2l dX8_checksum_161 ?_
      obtain ⟨vo13, zo13, ho13h, ho13, hf⟩ := rfs3 hf
      refine CS2l (host := "") dX8_checksum_162 (mX8_mix hst ho13) tk_425 iX8_mix ⟨by decide, by decide⟩ ⟨by decide, by decide⟩ (Nat.le_of_ble_eq_true rfl) ?_
      refine S_lstore_n_1 dX8_checksum_165 rfl (by decide) ?_
      refine J_lload_n dX8_checksum_166 rfl rfl ?_
      refine J_aload_n dX8_checksum_167 rfl rfl ?_
      obtain ⟨k14, hf⟩ := gds hf
      obtain ⟨b15, rb15, hf⟩ := rfs hf
      refine G_8_0 dX8_checksum_168 tk_247 k14 rb15 ?_
      obtain ⟨k16, hf⟩ := gds hf
      obtain ⟨b17, rb17, hf⟩ := rfs hf
      refine G_0_1 dX8_checksum_171 tk_95 k16 rb17 ?_
      obtain ⟨k18, hf⟩ := gds hf
      refine G_4_5 dX8_checksum_174 tk_76 k18 ?_
      refine J_i2l dX8_checksum_177 ?_
      obtain ⟨vo19, zo19, ho19h, ho19, hf⟩ := rfs3 hf
      refine CS2l (host := "") dX8_checksum_178 (mX8_mix hst ho19) tk_425 iX8_mix ⟨by decide, by decide⟩ ⟨by decide, by decide⟩ (Nat.le_of_ble_eq_true rfl) ?_
      refine S_lstore_n_1 dX8_checksum_181 rfl (by decide) ?_
      refine J_iconst (v := 0) dX8_checksum_182 (by decide) ?_
      refine S_istore_n_3 dX8_checksum_183 rfl (by decide) ?_
      refine J.sub (jsub_s (jsub_s (jsub_n (jsub_s (jsub_n (jsub_nil _)))))) ?_
      refine J.widen (k' := 0) (n' := 0) (by decide) (by decide) ?_
      exact wlX8_checksum_184R hst   _ _ _ _ _ _ _ hf hv
    · refine J_icmp_ge (tgt := 131) dX8_checksum_82 (by decide) (fun w => absurd w c1) (fun _ => ?_)
      refine J_iconst (v := 0) dX8_checksum_85 (by decide) ?_
      refine S_istore_4 dX8_checksum_86 rfl (by decide) ?_
      refine J.sub (jsub_s (jsub_s (jsub_n (jsub_s (jsub_s (jsub_nil _)))))) ?_
      refine J.widen (k' := 0) (n' := 0) (by decide) (by decide) ?_
      exact wlX8_checksum_88R hst _ hq79 _ _ _ _ _ _ _ _ hf hv
theorem wbX8_checksum_64R {g : JG} (hst : (jl g).stackTraces = false)   {a0 : Nat} {y1 : Int64} {z : Nat} {h : AH} {o : (Int64 ⊕ String) × Nat × AH} (hf : bX8_checksum_64  a0 y1 z h = some o) (hv : (∃ v, o.1 = .inl v)) : J g MX8_checksumR (jV g (xoJ o.1, o.2.1, o.2.2) rmX8_checksumR.cells rmX8_checksumR.slots) 64 [some (.ref a0), some (.long y1), none, none, none] [] z h 0 0 := by
  unfold bX8_checksum_64 at hf
  refine J_lload_n dX8_checksum_64 rfl rfl ?_
  refine J_aload_n dX8_checksum_65 rfl rfl ?_
  obtain ⟨k1, hf⟩ := gds hf
  obtain ⟨b2, rb2, hf⟩ := rfs hf
  refine G_8_0 dX8_checksum_66 tk_247 k1 rb2 ?_
  obtain ⟨k3, hf⟩ := gds hf
  refine G_0_9 dX8_checksum_69 tk_115 k3 ?_
  refine J_i2l dX8_checksum_72 ?_
  obtain ⟨vo4, zo4, ho4h, ho4, hf⟩ := rfs3 hf
  refine CS2l (host := "") dX8_checksum_73 (mX8_mix hst ho4) tk_425 iX8_mix ⟨by decide, by decide⟩ ⟨by decide, by decide⟩ (Nat.le_of_ble_eq_true rfl) ?_
  refine S_lstore_n_1 dX8_checksum_76 rfl (by decide) ?_
  refine J_iconst (v := 0) dX8_checksum_77 (by decide) ?_
  refine S_istore_n_3 dX8_checksum_78 rfl (by decide) ?_
  refine J.sub (jsub_s (jsub_s (jsub_n (jsub_s (jsub_n (jsub_nil _)))))) ?_
  refine J.widen (k' := 0) (n' := 0) (by decide) (by decide) ?_
  exact wlX8_checksum_79R hst   _ _ _ _ _ _ _ hf hv
theorem wlX8_checksum_20R {g : JG} (hst : (jl g).stackTraces = false)   : ∀ (fuel : Nat) (a0 : Nat) (y1 : Int64) (x3 : Int32) (z : Nat) (h : AH) (o : (Int64 ⊕ String) × Nat × AH), lX8_checksum_20  fuel a0 y1 x3 z h = some o → (∃ v, o.1 = .inl v) → J g MX8_checksumR (jV g (xoJ o.1, o.2.1, o.2.2) rmX8_checksumR.cells rmX8_checksumR.slots) 20 [some (.ref a0), some (.long y1), none, some (.int x3), none] [] z h 0 0 := by
  intro fuel
  induction fuel with
  | zero => intro a0 y1 x3 z h o hf; cases hf
  | succ fuel ih =>
    intro a0 y1 x3 z h o hf hv
    have hq20 := ih
    have hf : lX8_checksum_20B  (lX8_checksum_20  fuel) a0 y1 x3 z h = some o := hf
    generalize lX8_checksum_20  fuel = q20 at hf hq20
    unfold lX8_checksum_20B at hf
    refine J_iload_n dX8_checksum_20 rfl rfl ?_
    refine J_aload_n dX8_checksum_21 rfl rfl ?_
    obtain ⟨k1, hf⟩ := gds hf
    obtain ⟨b2, rb2, hf⟩ := rfs hf
    refine G_8_0 dX8_checksum_22 tk_247 k1 rb2 ?_
    obtain ⟨k3, hf⟩ := gds hf
    obtain ⟨b4, rb4, hf⟩ := rfs hf
    refine G_0_0 dX8_checksum_25 tk_92 k3 rb4 ?_
    obtain ⟨k5, hf⟩ := gds hf
    refine G_2_3 dX8_checksum_28 tk_48 k5 ?_
    rcases br hf with ⟨c6, hf⟩ | ⟨c6, hf⟩
    · refine J_icmp_ge (tgt := 64) dX8_checksum_31 (by decide) (fun _ => ?_) (fun w => absurd c6 w)
      refine J.sub (jsub_s (jsub_s (jsub_n (jsub_n (jsub_n (jsub_nil _)))))) ?_
      refine J.widen (k' := 0) (n' := 0) (by decide) (by decide) ?_
      exact wbX8_checksum_64R hst   hf hv
    · refine J_icmp_ge (tgt := 64) dX8_checksum_31 (by decide) (fun w => absurd w c6) (fun _ => ?_)
      refine J_iload_n dX8_checksum_34 rfl rfl ?_
      refine J_bipush (v := 16) dX8_checksum_35 (by decide) ?_
      rcases br hf with ⟨c7, hf⟩ | ⟨c7, hf⟩
      · refine J_icmp_ge (tgt := 64) dX8_checksum_37 (by decide) (fun _ => ?_) (fun w => absurd c7 w)
        refine J.sub (jsub_s (jsub_s (jsub_n (jsub_n (jsub_n (jsub_nil _)))))) ?_
        refine J.widen (k' := 0) (n' := 0) (by decide) (by decide) ?_
        exact wbX8_checksum_64R hst   hf hv
      · refine J_icmp_ge (tgt := 64) dX8_checksum_37 (by decide) (fun w => absurd w c7) (fun _ => ?_)
        refine J_lload_n dX8_checksum_40 rfl rfl ?_
        refine J_aload_n dX8_checksum_41 rfl rfl ?_
        obtain ⟨b8, rb8, hf⟩ := rfs hf
        refine G_8_0 dX8_checksum_42 tk_247 k1 rb8 ?_
        obtain ⟨k9, hf⟩ := gds hf
        obtain ⟨b10, rb10, hf⟩ := rfs hf
        refine G_0_0 dX8_checksum_45 tk_92 k9 rb10 ?_
        obtain ⟨k11, hf⟩ := gds hf
        obtain ⟨b12, rb12, hf⟩ := rfs hf
        refine G_2_0 dX8_checksum_48 tk_40 k11 rb12 ?_
        refine J_iload_n dX8_checksum_51 rfl rfl ?_
        obtain ⟨k13, hf⟩ := gds hf
        obtain ⟨n14, hf⟩ := gds hf
        refine J_iaload dX8_checksum_52 k13 n14 ?_
        refine J_i2l dX8_checksum_53 ?_
        obtain ⟨vo15, zo15, ho15h, ho15, hf⟩ := rfs3 hf
        refine CS2l (host := "") dX8_checksum_54 (mX8_mix hst ho15) tk_425 iX8_mix ⟨by decide, by decide⟩ ⟨by decide, by decide⟩ (Nat.le_of_ble_eq_true rfl) ?_
        refine S_lstore_n_1 dX8_checksum_57 rfl (by decide) ?_
        refine S_iinc_3 (v := x3 + 1) dX8_checksum_58 (congrArg (fun w => x3 + w) (by decide)) rfl (by decide) ?_
        refine J_goto (tgt := 20) dX8_checksum_61 (by decide) ?_
        refine J.sub (jsub_s (jsub_s (jsub_n (jsub_s (jsub_n (jsub_nil _)))))) ?_
        refine J.widen (k' := 0) (n' := 0) (by decide) (by decide) ?_
        exact hq20 _ _ _ _ _ _ hf hv
theorem wfX8_checksumR {g : JG} (hst : (jl g).stackTraces = false)   {a0 : Nat} {z : Nat} {h : AH} {o : (Int64 ⊕ String) × Nat × AH} (hf : fX8_checksum  a0 z h = some o) (hv : (∃ v, o.1 = .inl v)) : J g MX8_checksumR (jV g (xoJ o.1, o.2.1, o.2.2) rmX8_checksumR.cells rmX8_checksumR.slots) 0 [some (.ref a0), none, none, none, none] [] z h 0 0 := by
  unfold fX8_checksum at hf
  refine J_ldc2 (v := 18547) dX8_checksum_0 tk_424 ?_
  refine J_aload_n dX8_checksum_3 rfl rfl ?_
  obtain ⟨k1, hf⟩ := gds hf
  obtain ⟨b2, rb2, hf⟩ := rfs hf
  refine G_8_0 dX8_checksum_4 tk_247 k1 rb2 ?_
  obtain ⟨k3, hf⟩ := gds hf
  obtain ⟨b4, rb4, hf⟩ := rfs hf
  refine G_0_0 dX8_checksum_7 tk_92 k3 rb4 ?_
  obtain ⟨k5, hf⟩ := gds hf
  refine G_2_3 dX8_checksum_10 tk_48 k5 ?_
  refine J_i2l dX8_checksum_13 ?_
  obtain ⟨vo6, zo6, ho6h, ho6, hf⟩ := rfs3 hf
  refine CS2l (host := "") dX8_checksum_14 (mX8_mix hst ho6) tk_425 iX8_mix ⟨by decide, by decide⟩ ⟨by decide, by decide⟩ (Nat.le_of_ble_eq_true rfl) ?_
  refine S_lstore_n_1 dX8_checksum_17 rfl (by decide) ?_
  refine J_iconst (v := 0) dX8_checksum_18 (by decide) ?_
  refine S_istore_n_3 dX8_checksum_19 rfl (by decide) ?_
  refine J.sub (jsub_s (jsub_s (jsub_n (jsub_s (jsub_n (jsub_nil _)))))) ?_
  refine J.widen (k' := 0) (n' := 0) (by decide) (by decide) ?_
  exact wlX8_checksum_20R hst   _ _ _ _ _ _ _ hf hv
theorem mX8_checksumR {g : JG} (hst : (jl g).stackTraces = false) {a0 : Nat} {z : Nat} {h : AH} {o : (Int64 ⊕ String) × Nat × AH} (hf : fX8_checksum a0 z h = some o) (hv : (∃ v, o.1 = .inl v)) : jMetX g yX8_checksum (wj yX8_checksum cX8_checksum 5 (some .long)) rmX8_checksumR [.ref a0] z h (xoJ o.1, o.2.1, o.2.2) :=
  jMetX_mk (by decide) (Nat.le_of_ble_eq_true rfl) [some (.ref a0), none, none, none, none] rfl (wfX8_checksumR hst hf hv)
theorem wbX8_checksum_244T {g : JG} (hst : (jl g).stackTraces = false)   {a0 : Nat} {y1 : Int64} {z : Nat} {h : AH} {o : (Int64 ⊕ String) × Nat × AH} (hf : bX8_checksum_244  a0 y1 z h = some o) (hv : (∃ v, o.1 = .inr v)) : J g MX8_checksumT (jV g (xoJ o.1, o.2.1, o.2.2) rmX8_checksumT.cells rmX8_checksumT.slots) 244 [some (.ref a0), some (.long y1), none, none, none] [] z h 0 0 := by
  unfold bX8_checksum_244 at hf
  refine J_aload_n dX8_checksum_244 rfl rfl ?_
  obtain ⟨k1, hf⟩ := gds hf
  obtain ⟨b2, rb2, hf⟩ := rfs hf
  refine G_8_3 dX8_checksum_245 tk_250 k1 rb2 ?_
  refine J_aload_n dX8_checksum_248 rfl rfl ?_
  obtain ⟨b3, rb3, hf⟩ := rfs hf
  refine G_8_0 dX8_checksum_249 tk_247 k1 rb3 ?_
  obtain ⟨k4, hf⟩ := gds hf
  obtain ⟨zo5, ho5h, ho5, hf⟩ := rfs2 hf
  refine CV1v dX8_checksum_252 (mX7_read hst ho5) tk_292 iX7_read k4 (by decide) rfl ⟨by decide, by decide⟩ ⟨by decide, by decide⟩ (Nat.le_of_ble_eq_true rfl) ?_
  refine J_lload_n dX8_checksum_255 rfl rfl ?_
  refine J_aload_n dX8_checksum_256 rfl rfl ?_
  obtain ⟨k6, hf⟩ := gds hf
  obtain ⟨b7, rb7, hf⟩ := rfs hf
  refine G_8_3 dX8_checksum_257 tk_250 k6 rb7 ?_
  obtain ⟨k8, hf⟩ := gds hf
  refine G_7_2 dX8_checksum_260 tk_188 k8 ?_
  refine J_i2l dX8_checksum_263 ?_
  obtain ⟨vo9, zo9, ho9h, ho9, hf⟩ := rfs3 hf
  refine CS2l (host := "") dX8_checksum_264 (mX8_mix hst ho9) tk_425 iX8_mix ⟨by decide, by decide⟩ ⟨by decide, by decide⟩ (Nat.le_of_ble_eq_true rfl) ?_
  refine J_aload_n dX8_checksum_267 rfl rfl ?_
  obtain ⟨k10, hf⟩ := gds hf
  obtain ⟨b11, rb11, hf⟩ := rfs hf
  refine G_8_3 dX8_checksum_268 tk_250 k10 rb11 ?_
  obtain ⟨k12, hf⟩ := gds hf
  obtain ⟨vo13, zo13, ho13h, ho13, hf⟩ := rfs3 hf
  refine CV0i dX8_checksum_271 (mX7_leadingToRings hst ho13) tk_315 iX7_leadingToRings k12 (by decide) rfl ⟨by decide, by decide⟩ ⟨by decide, by decide⟩ (Nat.le_of_ble_eq_true rfl) ?_
  refine J_i2l dX8_checksum_274 ?_
  obtain ⟨vo14, zo14, ho14h, ho14, hf⟩ := rfs3 hf
  refine CS2l (host := "") dX8_checksum_275 (mX8_mix hst ho14) tk_425 iX8_mix ⟨by decide, by decide⟩ ⟨by decide, by decide⟩ (Nat.le_of_ble_eq_true rfl) ?_
  refine S_lstore_n_1 dX8_checksum_278 rfl (by decide) ?_
  refine J_lload_n dX8_checksum_279 rfl rfl ?_
  refine J_aload_n dX8_checksum_280 rfl rfl ?_
  obtain ⟨k15, hf⟩ := gds hf
  obtain ⟨b16, rb16, hf⟩ := rfs hf
  refine G_8_6 dX8_checksum_281 tk_253 k15 rb16 ?_
  obtain ⟨k17, hf⟩ := gds hf
  refine G_5_1 dX8_checksum_284 tk_240 k17 ?_
  refine J_i2l dX8_checksum_287 ?_
  obtain ⟨vo18, zo18, ho18h, ho18, hf⟩ := rfs3 hf
  refine CS2l (host := "") dX8_checksum_288 (mX8_mix hst ho18) tk_425 iX8_mix ⟨by decide, by decide⟩ ⟨by decide, by decide⟩ (Nat.le_of_ble_eq_true rfl) ?_
  refine J_aload_n dX8_checksum_291 rfl rfl ?_
  obtain ⟨k19, hf⟩ := gds hf
  obtain ⟨b20, rb20, hf⟩ := rfs hf
  refine G_8_5 dX8_checksum_292 tk_252 k19 rb20 ?_
  obtain ⟨k21, hf⟩ := gds hf
  refine G_3_1 dX8_checksum_295 tk_225 k21 ?_
  refine J_i2l dX8_checksum_298 ?_
  obtain ⟨vo22, zo22, ho22h, ho22, hf⟩ := rfs3 hf
  refine CS2l (host := "") dX8_checksum_299 (mX8_mix hst ho22) tk_425 iX8_mix ⟨by decide, by decide⟩ ⟨by decide, by decide⟩ (Nat.le_of_ble_eq_true rfl) ?_
  cases hf
  obtain ⟨_, hv⟩ := hv; cases hv
theorem wlX8_checksum_207T {g : JG} (hst : (jl g).stackTraces = false) (q184 : Nat → Int64 → Int32 → Nat → AH → Option ((Int64 ⊕ String) × Nat × AH)) (hq184 : ∀ (a0 : Nat) (y1 : Int64) (x3 : Int32) (z : Nat) (h : AH) (o : (Int64 ⊕ String) × Nat × AH), q184 a0 y1 x3 z h = some o → (∃ v, o.1 = .inr v) → J g MX8_checksumT (jV g (xoJ o.1, o.2.1, o.2.2) rmX8_checksumT.cells rmX8_checksumT.slots) 184 [some (.ref a0), some (.long y1), none, some (.int x3), none] [] z h 0 0) : ∀ (fuel : Nat) (a0 : Nat) (y1 : Int64) (x3 : Int32) (x4 : Int32) (z : Nat) (h : AH) (o : (Int64 ⊕ String) × Nat × AH), lX8_checksum_207 q184 fuel a0 y1 x3 x4 z h = some o → (∃ v, o.1 = .inr v) → J g MX8_checksumT (jV g (xoJ o.1, o.2.1, o.2.2) rmX8_checksumT.cells rmX8_checksumT.slots) 207 [some (.ref a0), some (.long y1), none, some (.int x3), some (.int x4)] [] z h 0 0 := by
  intro fuel
  induction fuel with
  | zero => intro a0 y1 x3 x4 z h o hf; cases hf
  | succ fuel ih =>
    intro a0 y1 x3 x4 z h o hf hv
    have hq207 := ih
    have hf : lX8_checksum_207B q184 (lX8_checksum_207 q184 fuel) a0 y1 x3 x4 z h = some o := hf
    generalize lX8_checksum_207 q184 fuel = q207 at hf hq207
    unfold lX8_checksum_207B at hf
    refine J_iload dX8_checksum_207 rfl ?_
    refine J_iconst (v := 4) dX8_checksum_209 (by decide) ?_
    rcases br hf with ⟨c1, hf⟩ | ⟨c1, hf⟩
    · refine J_icmp_gt (tgt := 238) dX8_checksum_210 (by decide) (fun _ => ?_) (fun w => absurd c1 w)
      refine S_iinc_3 (v := x3 + 1) dX8_checksum_238 (congrArg (fun w => x3 + w) (by decide)) rfl (by decide) ?_
      refine J_goto (tgt := 184) dX8_checksum_241 (by decide) ?_
      refine J.sub (jsub_s (jsub_s (jsub_n (jsub_s (jsub_n (jsub_nil _)))))) ?_
      refine J.widen (k' := 0) (n' := 0) (by decide) (by decide) ?_
      exact hq184 _ _ _ _ _ _ hf hv
    · refine J_icmp_gt (tgt := 238) dX8_checksum_210 (by decide) (fun w => absurd w c1) (fun _ => ?_)
      refine J_lload_n dX8_checksum_213 rfl rfl ?_
      refine J_aload_n dX8_checksum_214 rfl rfl ?_
      obtain ⟨k2, hf⟩ := gds hf
      obtain ⟨b3, rb3, hf⟩ := rfs hf
      refine G_8_0 dX8_checksum_215 tk_247 k2 rb3 ?_
      obtain ⟨k4, hf⟩ := gds hf
      obtain ⟨b5, rb5, hf⟩ := rfs hf
      refine G_0_1 dX8_checksum_218 tk_95 k4 rb5 ?_
      refine J_iload_n dX8_checksum_221 rfl rfl ?_
      refine J_iload dX8_checksum_222 rfl ?_
      obtain ⟨k6, hf⟩ := gds hf
      obtain ⟨vo7, zo7, ho7h, ho7, hf⟩ := rfs3 hf
      refine CV2i dX8_checksum_224 (mX4_property hst ho7) tk_529 iX4_property k6 (by decide) rfl ⟨by decide, by decide⟩ ⟨by decide, by decide⟩ (Nat.le_of_ble_eq_true rfl) ?_
      refine J_i2l dX8_checksum_227 ?_
      obtain ⟨vo8, zo8, ho8h, ho8, hf⟩ := rfs3 hf
      refine CS2l (host := "") dX8_checksum_228 (mX8_mix hst ho8) tk_425 iX8_mix ⟨by decide, by decide⟩ ⟨by decide, by decide⟩ (Nat.le_of_ble_eq_true rfl) ?_
      refine S_lstore_n_1 dX8_checksum_231 rfl (by decide) ?_
      refine S_iinc_4 (v := x4 + 1) dX8_checksum_232 (congrArg (fun w => x4 + w) (by decide)) rfl (by decide) ?_
      refine J_goto (tgt := 207) dX8_checksum_235 (by decide) ?_
      refine J.sub (jsub_s (jsub_s (jsub_n (jsub_s (jsub_s (jsub_nil _)))))) ?_
      refine J.widen (k' := 0) (n' := 0) (by decide) (by decide) ?_
      exact hq207 _ _ _ _ _ _ _ hf hv
theorem wlX8_checksum_184T {g : JG} (hst : (jl g).stackTraces = false)   : ∀ (fuel : Nat) (a0 : Nat) (y1 : Int64) (x3 : Int32) (z : Nat) (h : AH) (o : (Int64 ⊕ String) × Nat × AH), lX8_checksum_184  fuel a0 y1 x3 z h = some o → (∃ v, o.1 = .inr v) → J g MX8_checksumT (jV g (xoJ o.1, o.2.1, o.2.2) rmX8_checksumT.cells rmX8_checksumT.slots) 184 [some (.ref a0), some (.long y1), none, some (.int x3), none] [] z h 0 0 := by
  intro fuel
  induction fuel with
  | zero => intro a0 y1 x3 z h o hf; cases hf
  | succ fuel ih =>
    intro a0 y1 x3 z h o hf hv
    have hq184 := ih
    have hf : lX8_checksum_184B  (lX8_checksum_184  fuel) a0 y1 x3 z h = some o := hf
    generalize lX8_checksum_184  fuel = q184 at hf hq184
    unfold lX8_checksum_184B at hf
    refine J_iload_n dX8_checksum_184 rfl rfl ?_
    refine J_aload_n dX8_checksum_185 rfl rfl ?_
    obtain ⟨k1, hf⟩ := gds hf
    obtain ⟨b2, rb2, hf⟩ := rfs hf
    refine G_8_0 dX8_checksum_186 tk_247 k1 rb2 ?_
    obtain ⟨k3, hf⟩ := gds hf
    obtain ⟨b4, rb4, hf⟩ := rfs hf
    refine G_0_1 dX8_checksum_189 tk_95 k3 rb4 ?_
    obtain ⟨k5, hf⟩ := gds hf
    refine G_4_5 dX8_checksum_192 tk_76 k5 ?_
    rcases br hf with ⟨c6, hf⟩ | ⟨c6, hf⟩
    · refine J_icmp_ge (tgt := 244) dX8_checksum_195 (by decide) (fun _ => ?_) (fun w => absurd c6 w)
      refine J.sub (jsub_s (jsub_s (jsub_n (jsub_n (jsub_n (jsub_nil _)))))) ?_
      refine J.widen (k' := 0) (n' := 0) (by decide) (by decide) ?_
      exact wbX8_checksum_244T hst   hf hv
    · refine J_icmp_ge (tgt := 244) dX8_checksum_195 (by decide) (fun w => absurd w c6) (fun _ => ?_)
      refine J_iload_n dX8_checksum_198 rfl rfl ?_
      refine J_bipush (v := 40) dX8_checksum_199 (by decide) ?_
      rcases br hf with ⟨c7, hf⟩ | ⟨c7, hf⟩
      · refine J_icmp_ge (tgt := 244) dX8_checksum_201 (by decide) (fun _ => ?_) (fun w => absurd c7 w)
        refine J.sub (jsub_s (jsub_s (jsub_n (jsub_n (jsub_n (jsub_nil _)))))) ?_
        refine J.widen (k' := 0) (n' := 0) (by decide) (by decide) ?_
        exact wbX8_checksum_244T hst   hf hv
      · refine J_icmp_ge (tgt := 244) dX8_checksum_201 (by decide) (fun w => absurd w c7) (fun _ => ?_)
        refine J_iconst (v := 0) dX8_checksum_204 (by decide) ?_
        refine S_istore_4 dX8_checksum_205 rfl (by decide) ?_
        refine J.sub (jsub_s (jsub_s (jsub_n (jsub_s (jsub_s (jsub_nil _)))))) ?_
        refine J.widen (k' := 0) (n' := 0) (by decide) (by decide) ?_
        exact wlX8_checksum_207T hst _ hq184 _ _ _ _ _ _ _ _ hf hv
theorem wbX8_checksum_125T {g : JG} (hst : (jl g).stackTraces = false) (q79 : Nat → Int64 → Int32 → Nat → AH → Option ((Int64 ⊕ String) × Nat × AH)) (hq79 : ∀ (a0 : Nat) (y1 : Int64) (x3 : Int32) (z : Nat) (h : AH) (o : (Int64 ⊕ String) × Nat × AH), q79 a0 y1 x3 z h = some o → (∃ v, o.1 = .inr v) → J g MX8_checksumT (jV g (xoJ o.1, o.2.1, o.2.2) rmX8_checksumT.cells rmX8_checksumT.slots) 79 [some (.ref a0), some (.long y1), none, some (.int x3), none] [] z h 0 0) {a0 : Nat} {y1 : Int64} {x3 : Int32} {z : Nat} {h : AH} {o : (Int64 ⊕ String) × Nat × AH} (hf : bX8_checksum_125 q79 a0 y1 x3 z h = some o) (hv : (∃ v, o.1 = .inr v)) : J g MX8_checksumT (jV g (xoJ o.1, o.2.1, o.2.2) rmX8_checksumT.cells rmX8_checksumT.slots) 125 [some (.ref a0), some (.long y1), none, some (.int x3), none] [] z h 0 0 := by
  unfold bX8_checksum_125 at hf
  refine S_iinc_3 (v := x3 + 1) dX8_checksum_125 (congrArg (fun w => x3 + w) (by decide)) rfl (by decide) ?_
  refine J_goto (tgt := 79) dX8_checksum_128 (by decide) ?_
  refine J.sub (jsub_s (jsub_s (jsub_n (jsub_s (jsub_n (jsub_nil _)))))) ?_
  refine J.widen (k' := 0) (n' := 0) (by decide) (by decide) ?_
  exact hq79 _ _ _ _ _ _ hf hv
theorem wlX8_checksum_88T {g : JG} (hst : (jl g).stackTraces = false) (q79 : Nat → Int64 → Int32 → Nat → AH → Option ((Int64 ⊕ String) × Nat × AH)) (hq79 : ∀ (a0 : Nat) (y1 : Int64) (x3 : Int32) (z : Nat) (h : AH) (o : (Int64 ⊕ String) × Nat × AH), q79 a0 y1 x3 z h = some o → (∃ v, o.1 = .inr v) → J g MX8_checksumT (jV g (xoJ o.1, o.2.1, o.2.2) rmX8_checksumT.cells rmX8_checksumT.slots) 79 [some (.ref a0), some (.long y1), none, some (.int x3), none] [] z h 0 0) : ∀ (fuel : Nat) (a0 : Nat) (y1 : Int64) (x3 : Int32) (x4 : Int32) (z : Nat) (h : AH) (o : (Int64 ⊕ String) × Nat × AH), lX8_checksum_88 q79 fuel a0 y1 x3 x4 z h = some o → (∃ v, o.1 = .inr v) → J g MX8_checksumT (jV g (xoJ o.1, o.2.1, o.2.2) rmX8_checksumT.cells rmX8_checksumT.slots) 88 [some (.ref a0), some (.long y1), none, some (.int x3), some (.int x4)] [] z h 0 0 := by
  intro fuel
  induction fuel with
  | zero => intro a0 y1 x3 x4 z h o hf; cases hf
  | succ fuel ih =>
    intro a0 y1 x3 x4 z h o hf hv
    have hq88 := ih
    have hf : lX8_checksum_88B q79 (lX8_checksum_88 q79 fuel) a0 y1 x3 x4 z h = some o := hf
    generalize lX8_checksum_88 q79 fuel = q88 at hf hq88
    unfold lX8_checksum_88B at hf
    refine J_iload dX8_checksum_88 rfl ?_
    refine J_bipush (v := 6) dX8_checksum_90 (by decide) ?_
    rcases br hf with ⟨c1, hf⟩ | ⟨c1, hf⟩
    · refine J_icmp_gt (tgt := 125) dX8_checksum_92 (by decide) (fun _ => ?_) (fun w => absurd c1 w)
      refine J.sub (jsub_s (jsub_s (jsub_n (jsub_s (jsub_n (jsub_nil _)))))) ?_
      refine J.widen (k' := 0) (n' := 0) (by decide) (by decide) ?_
      exact wbX8_checksum_125T hst _ hq79 hf hv
    · refine J_icmp_gt (tgt := 125) dX8_checksum_92 (by decide) (fun w => absurd w c1) (fun _ => ?_)
      refine J_aload_n dX8_checksum_95 rfl rfl ?_
      obtain ⟨k2, hf⟩ := gds hf
      obtain ⟨b3, rb3, hf⟩ := rfs hf
      refine G_8_0 dX8_checksum_96 tk_247 k2 rb3 ?_
      refine J_iload_n dX8_checksum_99 rfl rfl ?_
      obtain ⟨k4, hf⟩ := gds hf
      obtain ⟨vo5, zo5, ho5h, ho5, hf⟩ := rfs3 hf
      refine CV1i dX8_checksum_100 (mX0_has hst ho5) tk_429 iX0_has k4 (by decide) rfl ⟨by decide, by decide⟩ ⟨by decide, by decide⟩ (Nat.le_of_ble_eq_true rfl) ?_
      rcases br hf with ⟨c6, hf⟩ | ⟨c6, hf⟩
      · refine J_if_eq (tgt := 125) dX8_checksum_103 (by decide) (fun _ => ?_) (fun w => absurd c6 w)
        refine J.sub (jsub_s (jsub_s (jsub_n (jsub_s (jsub_n (jsub_nil _)))))) ?_
        refine J.widen (k' := 0) (n' := 0) (by decide) (by decide) ?_
        exact wbX8_checksum_125T hst _ hq79 hf hv
      · refine J_if_eq (tgt := 125) dX8_checksum_103 (by decide) (fun w => absurd w c6) (fun _ => ?_)
        refine J_lload_n dX8_checksum_106 rfl rfl ?_
        refine J_aload_n dX8_checksum_107 rfl rfl ?_
        refine J_iload_n dX8_checksum_108 rfl rfl ?_
        refine J_iload dX8_checksum_109 rfl ?_
        obtain ⟨k7, hf⟩ := gds hf
        obtain ⟨vo8, zo8, ho8h, ho8, hf⟩ := rfs3 hf
        rcases xrs hf with ⟨v9, ev9, hf⟩ | ⟨x10, ev9, hf⟩
        · refine XV2i dX8_checksum_111 (by have h9 := mX8_taskR hst ho8 ⟨_, ev9⟩; rw [ev9] at h9; exact h9) tk_430 iX8_task k7 (by decide) rfl ⟨by decide, by decide⟩ ⟨by decide, by decide⟩ (Nat.le_of_ble_eq_true rfl) ?_
          refine J_i2l dX8_checksum_114 ?_
          obtain ⟨vo11, zo11, ho11h, ho11, hf⟩ := rfs3 hf
          refine CS2l (host := "") dX8_checksum_115 (mX8_mix hst ho11) tk_425 iX8_mix ⟨by decide, by decide⟩ ⟨by decide, by decide⟩ (Nat.le_of_ble_eq_true rfl) ?_
          refine S_lstore_n_1 dX8_checksum_118 rfl (by decide) ?_
          refine S_iinc_4 (v := x4 + 1) dX8_checksum_119 (congrArg (fun w => x4 + w) (by decide)) rfl (by decide) ?_
          refine J_goto (tgt := 88) dX8_checksum_122 (by decide) ?_
          refine J.sub (jsub_s (jsub_s (jsub_n (jsub_s (jsub_s (jsub_nil _)))))) ?_
          refine J.widen (k' := 0) (n' := 0) (by decide) (by decide) ?_
          exact hq88 _ _ _ _ _ _ _ hf hv
        · cases hf
          exact XV2t dX8_checksum_111 (by have h9 := mX8_taskT hst ho8 ⟨_, ev9⟩; rw [ev9] at h9; exact h9) tk_430 iX8_task k7 (by decide) rfl ⟨by decide, by decide⟩ ⟨by decide, by decide⟩ (Nat.le_of_ble_eq_true rfl) rfl (by decide) (by decide)
theorem wlX8_checksum_79T {g : JG} (hst : (jl g).stackTraces = false)   : ∀ (fuel : Nat) (a0 : Nat) (y1 : Int64) (x3 : Int32) (z : Nat) (h : AH) (o : (Int64 ⊕ String) × Nat × AH), lX8_checksum_79  fuel a0 y1 x3 z h = some o → (∃ v, o.1 = .inr v) → J g MX8_checksumT (jV g (xoJ o.1, o.2.1, o.2.2) rmX8_checksumT.cells rmX8_checksumT.slots) 79 [some (.ref a0), some (.long y1), none, some (.int x3), none] [] z h 0 0 := by
  intro fuel
  induction fuel with
  | zero => intro a0 y1 x3 z h o hf; cases hf
  | succ fuel ih =>
    intro a0 y1 x3 z h o hf hv
    have hq79 := ih
    have hf : lX8_checksum_79B  (lX8_checksum_79  fuel) a0 y1 x3 z h = some o := hf
    generalize lX8_checksum_79  fuel = q79 at hf hq79
    unfold lX8_checksum_79B at hf
    refine J_iload_n dX8_checksum_79 rfl rfl ?_
    refine J_bipush (v := 10) dX8_checksum_80 (by decide) ?_
    rcases br hf with ⟨c1, hf⟩ | ⟨c1, hf⟩
    · refine J_icmp_ge (tgt := 131) dX8_checksum_82 (by decide) (fun _ => ?_) (fun w => absurd c1 w)
      refine J_lload_n dX8_checksum_131 rfl rfl ?_
      refine J_aload_n dX8_checksum_132 rfl rfl ?_
      obtain ⟨k2, hf⟩ := gds hf
      obtain ⟨b3, rb3, hf⟩ := rfs hf
      refine G_8_0 dX8_checksum_133 tk_247 k2 rb3 ?_
      obtain ⟨k4, hf⟩ := gds hf
      refine G_0_10 dX8_checksum_136 tk_117 k4 ?_
      refine J_i2l dX8_checksum_139 ?_
      obtain ⟨vo5, zo5, ho5h, ho5, hf⟩ := rfs3 hf
      refine CS2l (host := "") dX8_checksum_140 (mX8_mix hst ho5) tk_425 iX8_mix ⟨by decide, by decide⟩ ⟨by decide, by decide⟩ (Nat.le_of_ble_eq_true rfl) ?_
      refine J_aload_n dX8_checksum_143 rfl rfl ?_
      obtain ⟨k6, hf⟩ := gds hf
      obtain ⟨b7, rb7, hf⟩ := rfs hf
      refine G_8_0 dX8_checksum_144 tk_247 k6 rb7 ?_
      obtain ⟨k8, hf⟩ := gds hf
      refine G_0_11 dX8_checksum_147 tk_120 k8 ?_
      refine J_i2l dX8_checksum_150 ?_
      obtain ⟨vo9, zo9, ho9h, ho9, hf⟩ := rfs3 hf
      refine CS2l (host := "") dX8_checksum_151 (mX8_mix hst ho9) tk_425 iX8_mix ⟨by decide, by decide⟩ ⟨by decide, by decide⟩ (Nat.le_of_ble_eq_true rfl) ?_
      refine J_aload_n dX8_checksum_154 rfl rfl ?_
      obtain ⟨k10, hf⟩ := gds hf
      obtain ⟨b11, rb11, hf⟩ := rfs hf
      refine G_8_0 dX8_checksum_155 tk_247 k10 rb11 ?_
      obtain ⟨k12, hf⟩ := gds hf
      refine G_0_12 dX8_checksum_158 tk_124 k12 ?_
      refine J_i2l dX8_checksum_161 ?_
      obtain ⟨vo13, zo13, ho13h, ho13, hf⟩ := rfs3 hf
      refine CS2l (host := "") dX8_checksum_162 (mX8_mix hst ho13) tk_425 iX8_mix ⟨by decide, by decide⟩ ⟨by decide, by decide⟩ (Nat.le_of_ble_eq_true rfl) ?_
      refine S_lstore_n_1 dX8_checksum_165 rfl (by decide) ?_
      refine J_lload_n dX8_checksum_166 rfl rfl ?_
      refine J_aload_n dX8_checksum_167 rfl rfl ?_
      obtain ⟨k14, hf⟩ := gds hf
      obtain ⟨b15, rb15, hf⟩ := rfs hf
      refine G_8_0 dX8_checksum_168 tk_247 k14 rb15 ?_
      obtain ⟨k16, hf⟩ := gds hf
      obtain ⟨b17, rb17, hf⟩ := rfs hf
      refine G_0_1 dX8_checksum_171 tk_95 k16 rb17 ?_
      obtain ⟨k18, hf⟩ := gds hf
      refine G_4_5 dX8_checksum_174 tk_76 k18 ?_
      refine J_i2l dX8_checksum_177 ?_
      obtain ⟨vo19, zo19, ho19h, ho19, hf⟩ := rfs3 hf
      refine CS2l (host := "") dX8_checksum_178 (mX8_mix hst ho19) tk_425 iX8_mix ⟨by decide, by decide⟩ ⟨by decide, by decide⟩ (Nat.le_of_ble_eq_true rfl) ?_
      refine S_lstore_n_1 dX8_checksum_181 rfl (by decide) ?_
      refine J_iconst (v := 0) dX8_checksum_182 (by decide) ?_
      refine S_istore_n_3 dX8_checksum_183 rfl (by decide) ?_
      refine J.sub (jsub_s (jsub_s (jsub_n (jsub_s (jsub_n (jsub_nil _)))))) ?_
      refine J.widen (k' := 0) (n' := 0) (by decide) (by decide) ?_
      exact wlX8_checksum_184T hst   _ _ _ _ _ _ _ hf hv
    · refine J_icmp_ge (tgt := 131) dX8_checksum_82 (by decide) (fun w => absurd w c1) (fun _ => ?_)
      refine J_iconst (v := 0) dX8_checksum_85 (by decide) ?_
      refine S_istore_4 dX8_checksum_86 rfl (by decide) ?_
      refine J.sub (jsub_s (jsub_s (jsub_n (jsub_s (jsub_s (jsub_nil _)))))) ?_
      refine J.widen (k' := 0) (n' := 0) (by decide) (by decide) ?_
      exact wlX8_checksum_88T hst _ hq79 _ _ _ _ _ _ _ _ hf hv
theorem wbX8_checksum_64T {g : JG} (hst : (jl g).stackTraces = false)   {a0 : Nat} {y1 : Int64} {z : Nat} {h : AH} {o : (Int64 ⊕ String) × Nat × AH} (hf : bX8_checksum_64  a0 y1 z h = some o) (hv : (∃ v, o.1 = .inr v)) : J g MX8_checksumT (jV g (xoJ o.1, o.2.1, o.2.2) rmX8_checksumT.cells rmX8_checksumT.slots) 64 [some (.ref a0), some (.long y1), none, none, none] [] z h 0 0 := by
  unfold bX8_checksum_64 at hf
  refine J_lload_n dX8_checksum_64 rfl rfl ?_
  refine J_aload_n dX8_checksum_65 rfl rfl ?_
  obtain ⟨k1, hf⟩ := gds hf
  obtain ⟨b2, rb2, hf⟩ := rfs hf
  refine G_8_0 dX8_checksum_66 tk_247 k1 rb2 ?_
  obtain ⟨k3, hf⟩ := gds hf
  refine G_0_9 dX8_checksum_69 tk_115 k3 ?_
  refine J_i2l dX8_checksum_72 ?_
  obtain ⟨vo4, zo4, ho4h, ho4, hf⟩ := rfs3 hf
  refine CS2l (host := "") dX8_checksum_73 (mX8_mix hst ho4) tk_425 iX8_mix ⟨by decide, by decide⟩ ⟨by decide, by decide⟩ (Nat.le_of_ble_eq_true rfl) ?_
  refine S_lstore_n_1 dX8_checksum_76 rfl (by decide) ?_
  refine J_iconst (v := 0) dX8_checksum_77 (by decide) ?_
  refine S_istore_n_3 dX8_checksum_78 rfl (by decide) ?_
  refine J.sub (jsub_s (jsub_s (jsub_n (jsub_s (jsub_n (jsub_nil _)))))) ?_
  refine J.widen (k' := 0) (n' := 0) (by decide) (by decide) ?_
  exact wlX8_checksum_79T hst   _ _ _ _ _ _ _ hf hv
theorem wlX8_checksum_20T {g : JG} (hst : (jl g).stackTraces = false)   : ∀ (fuel : Nat) (a0 : Nat) (y1 : Int64) (x3 : Int32) (z : Nat) (h : AH) (o : (Int64 ⊕ String) × Nat × AH), lX8_checksum_20  fuel a0 y1 x3 z h = some o → (∃ v, o.1 = .inr v) → J g MX8_checksumT (jV g (xoJ o.1, o.2.1, o.2.2) rmX8_checksumT.cells rmX8_checksumT.slots) 20 [some (.ref a0), some (.long y1), none, some (.int x3), none] [] z h 0 0 := by
  intro fuel
  induction fuel with
  | zero => intro a0 y1 x3 z h o hf; cases hf
  | succ fuel ih =>
    intro a0 y1 x3 z h o hf hv
    have hq20 := ih
    have hf : lX8_checksum_20B  (lX8_checksum_20  fuel) a0 y1 x3 z h = some o := hf
    generalize lX8_checksum_20  fuel = q20 at hf hq20
    unfold lX8_checksum_20B at hf
    refine J_iload_n dX8_checksum_20 rfl rfl ?_
    refine J_aload_n dX8_checksum_21 rfl rfl ?_
    obtain ⟨k1, hf⟩ := gds hf
    obtain ⟨b2, rb2, hf⟩ := rfs hf
    refine G_8_0 dX8_checksum_22 tk_247 k1 rb2 ?_
    obtain ⟨k3, hf⟩ := gds hf
    obtain ⟨b4, rb4, hf⟩ := rfs hf
    refine G_0_0 dX8_checksum_25 tk_92 k3 rb4 ?_
    obtain ⟨k5, hf⟩ := gds hf
    refine G_2_3 dX8_checksum_28 tk_48 k5 ?_
    rcases br hf with ⟨c6, hf⟩ | ⟨c6, hf⟩
    · refine J_icmp_ge (tgt := 64) dX8_checksum_31 (by decide) (fun _ => ?_) (fun w => absurd c6 w)
      refine J.sub (jsub_s (jsub_s (jsub_n (jsub_n (jsub_n (jsub_nil _)))))) ?_
      refine J.widen (k' := 0) (n' := 0) (by decide) (by decide) ?_
      exact wbX8_checksum_64T hst   hf hv
    · refine J_icmp_ge (tgt := 64) dX8_checksum_31 (by decide) (fun w => absurd w c6) (fun _ => ?_)
      refine J_iload_n dX8_checksum_34 rfl rfl ?_
      refine J_bipush (v := 16) dX8_checksum_35 (by decide) ?_
      rcases br hf with ⟨c7, hf⟩ | ⟨c7, hf⟩
      · refine J_icmp_ge (tgt := 64) dX8_checksum_37 (by decide) (fun _ => ?_) (fun w => absurd c7 w)
        refine J.sub (jsub_s (jsub_s (jsub_n (jsub_n (jsub_n (jsub_nil _)))))) ?_
        refine J.widen (k' := 0) (n' := 0) (by decide) (by decide) ?_
        exact wbX8_checksum_64T hst   hf hv
      · refine J_icmp_ge (tgt := 64) dX8_checksum_37 (by decide) (fun w => absurd w c7) (fun _ => ?_)
        refine J_lload_n dX8_checksum_40 rfl rfl ?_
        refine J_aload_n dX8_checksum_41 rfl rfl ?_
        obtain ⟨b8, rb8, hf⟩ := rfs hf
        refine G_8_0 dX8_checksum_42 tk_247 k1 rb8 ?_
        obtain ⟨k9, hf⟩ := gds hf
        obtain ⟨b10, rb10, hf⟩ := rfs hf
        refine G_0_0 dX8_checksum_45 tk_92 k9 rb10 ?_
        obtain ⟨k11, hf⟩ := gds hf
        obtain ⟨b12, rb12, hf⟩ := rfs hf
        refine G_2_0 dX8_checksum_48 tk_40 k11 rb12 ?_
        refine J_iload_n dX8_checksum_51 rfl rfl ?_
        obtain ⟨k13, hf⟩ := gds hf
        obtain ⟨n14, hf⟩ := gds hf
        refine J_iaload dX8_checksum_52 k13 n14 ?_
        refine J_i2l dX8_checksum_53 ?_
        obtain ⟨vo15, zo15, ho15h, ho15, hf⟩ := rfs3 hf
        refine CS2l (host := "") dX8_checksum_54 (mX8_mix hst ho15) tk_425 iX8_mix ⟨by decide, by decide⟩ ⟨by decide, by decide⟩ (Nat.le_of_ble_eq_true rfl) ?_
        refine S_lstore_n_1 dX8_checksum_57 rfl (by decide) ?_
        refine S_iinc_3 (v := x3 + 1) dX8_checksum_58 (congrArg (fun w => x3 + w) (by decide)) rfl (by decide) ?_
        refine J_goto (tgt := 20) dX8_checksum_61 (by decide) ?_
        refine J.sub (jsub_s (jsub_s (jsub_n (jsub_s (jsub_n (jsub_nil _)))))) ?_
        refine J.widen (k' := 0) (n' := 0) (by decide) (by decide) ?_
        exact hq20 _ _ _ _ _ _ hf hv
theorem wfX8_checksumT {g : JG} (hst : (jl g).stackTraces = false)   {a0 : Nat} {z : Nat} {h : AH} {o : (Int64 ⊕ String) × Nat × AH} (hf : fX8_checksum  a0 z h = some o) (hv : (∃ v, o.1 = .inr v)) : J g MX8_checksumT (jV g (xoJ o.1, o.2.1, o.2.2) rmX8_checksumT.cells rmX8_checksumT.slots) 0 [some (.ref a0), none, none, none, none] [] z h 0 0 := by
  unfold fX8_checksum at hf
  refine J_ldc2 (v := 18547) dX8_checksum_0 tk_424 ?_
  refine J_aload_n dX8_checksum_3 rfl rfl ?_
  obtain ⟨k1, hf⟩ := gds hf
  obtain ⟨b2, rb2, hf⟩ := rfs hf
  refine G_8_0 dX8_checksum_4 tk_247 k1 rb2 ?_
  obtain ⟨k3, hf⟩ := gds hf
  obtain ⟨b4, rb4, hf⟩ := rfs hf
  refine G_0_0 dX8_checksum_7 tk_92 k3 rb4 ?_
  obtain ⟨k5, hf⟩ := gds hf
  refine G_2_3 dX8_checksum_10 tk_48 k5 ?_
  refine J_i2l dX8_checksum_13 ?_
  obtain ⟨vo6, zo6, ho6h, ho6, hf⟩ := rfs3 hf
  refine CS2l (host := "") dX8_checksum_14 (mX8_mix hst ho6) tk_425 iX8_mix ⟨by decide, by decide⟩ ⟨by decide, by decide⟩ (Nat.le_of_ble_eq_true rfl) ?_
  refine S_lstore_n_1 dX8_checksum_17 rfl (by decide) ?_
  refine J_iconst (v := 0) dX8_checksum_18 (by decide) ?_
  refine S_istore_n_3 dX8_checksum_19 rfl (by decide) ?_
  refine J.sub (jsub_s (jsub_s (jsub_n (jsub_s (jsub_n (jsub_nil _)))))) ?_
  refine J.widen (k' := 0) (n' := 0) (by decide) (by decide) ?_
  exact wlX8_checksum_20T hst   _ _ _ _ _ _ _ hf hv
theorem mX8_checksumT {g : JG} (hst : (jl g).stackTraces = false) {a0 : Nat} {z : Nat} {h : AH} {o : (Int64 ⊕ String) × Nat × AH} (hf : fX8_checksum a0 z h = some o) (hv : (∃ v, o.1 = .inr v)) : jMetX g yX8_checksum (wj yX8_checksum cX8_checksum 5 (some .long)) rmX8_checksumT [.ref a0] z h (xoJ o.1, o.2.1, o.2.2) :=
  jMetX_mk (by decide) (Nat.le_of_ble_eq_true rfl) [some (.ref a0), none, none, none, none] rfl (wfX8_checksumT hst hf hv)
