/-! decompiled methods and their walks (printed by gen/gen.py) -/
def fL_abort  (a0 : Nat) (x1 : Int32) (a2 : Nat) (z : Nat) (h : AH) : Option (Int32 × Nat × AH) :=
  gd (kd h a0 = 9) (bd3 (fX8_abort a0 x1 z h) (fun vo2 zo2 ho2h => xr vo2 (fun v3 => gd (kd ho2h a2 = 14) (gd (¬ ((0 : Int32) < 0 ∨ ln ho2h a2 ≤ Int32.toNatClampNeg 0)) (bl (wJ ho2h a2 (Int32.toNatClampNeg 0) (Int32.toInt64 v3)) (fun h7 => some (0, zo2, h7))))) (fun x4 => (if x4 = eB then (some (1, zo2, ho2h)) else (if x4 = eS then (some (2, zo2, ho2h)) else (none))))))
theorem wfL_abort {g : JG} (hst : (jl g).stackTraces = false)   {a0 : Nat} {x1 : Int32} {a2 : Nat} {z : Nat} {h : AH} {o : Int32 × Nat × AH} (hf : fL_abort  a0 x1 a2 z h = some o) : J g ML_abort (jN g (some (.int o.1), o.2.1, o.2.2) rmL_abort.cells rmL_abort.slots) 0 [some (.ref a0), some (.int x1), some (.ref a2), none] [] z h 0 0 := by
  unfold fL_abort at hf
  refine J_aload_n dL_abort_0 rfl rfl ?_
  refine J_iconst (v := 0) dL_abort_1 (by decide) ?_
  refine J_aload_n dL_abort_2 rfl rfl ?_
  refine J_iload_n dL_abort_3 rfl rfl ?_
  obtain ⟨k1, hf⟩ := gds hf
  obtain ⟨vo2, zo2, ho2h, ho2, hf⟩ := rfs3 hf
  rcases xrs hf with ⟨v3, ev3, hf⟩ | ⟨x4, ev3, hf⟩
  · refine XV1i dL_abort_4 (by have h9 := mX8_abortR hst ho2 ⟨_, ev3⟩; rw [ev3] at h9; exact h9) tk_717 iX8_abort k1 (by decide) rfl ⟨by decide, by decide⟩ ⟨by decide, by decide⟩ (Nat.le_of_ble_eq_true rfl) ?_
    refine J_i2l dL_abort_7 ?_
    obtain ⟨k5, hf⟩ := gds hf
    obtain ⟨n6, hf⟩ := gds hf
    refine J_lastore dL_abort_8 k5 n6 ?_
    obtain ⟨h7, eh7, hf⟩ := bls hf
    refine J_h eh7 ?_
    refine J_goto (tgt := 18) dL_abort_9 (by decide) ?_
    refine J_iconst (v := 0) dL_abort_18 (by decide) ?_
    cases hf
    exact J_iretN dL_abort_19 rfl (by decide) (by decide)
  · skip
    rcases br hf with ⟨c8, hf⟩ | ⟨c8, hf⟩
    · subst c8
      refine J_callVXc (As := [_]) [] (⟨0, 9, 12, 13⟩ : ExceptionTableEntry) [(⟨0, 9, 15, 15⟩ : ExceptionTableEntry)] dL_abort_4 (by have h9 := mX8_abortT hst ho2 ⟨_, ev3⟩; rw [ev3] at h9; exact h9) tk_717 iX8_abort k1 (by decide) rfl ⟨by decide, by decide⟩ ⟨by decide, by decide⟩ (Nat.le_of_ble_eq_true rfl) rfl (fun z hz => nomatch hz) (by decide) (by decide) tk_546 tl_439 (fun q => ?_)
      refine S_astore_n_3 dL_abort_12 rfl (by decide) ?_
      refine J_iconst (v := 1) dL_abort_13 (by decide) ?_
      cases hf
      exact J_iretN dL_abort_14 rfl (by decide) (by decide)
    · skip
      rcases br hf with ⟨c9, hf⟩ | ⟨c9, hf⟩
      · subst c9
        refine J_callVXc (As := [_]) [(⟨0, 9, 12, 13⟩ : ExceptionTableEntry)] (⟨0, 9, 15, 15⟩ : ExceptionTableEntry) [] dL_abort_4 (by have h9 := mX8_abortT hst ho2 ⟨_, ev3⟩; rw [ev3] at h9; exact h9) tk_717 iX8_abort k1 (by decide) rfl ⟨by decide, by decide⟩ ⟨by decide, by decide⟩ (Nat.le_of_ble_eq_true rfl) rfl (fun z hz => by rcases List.mem_singleton.mp hz with rfl; exact ⟨by decide, "java/lang/IndexOutOfBoundsException", tk_546, fun U hU => hU.2.2.2.2.2.2.1.1⟩) (by decide) (by decide) tk_547 tl_558 (fun q => ?_)
        refine S_astore_n_3 dL_abort_15 rfl (by decide) ?_
        refine J_iconst (v := 2) dL_abort_16 (by decide) ?_
        cases hf
        exact J_iretN dL_abort_17 rfl (by decide) (by decide)
      · skip
        cases hf
theorem mL_abort {g : JG} (hst : (jl g).stackTraces = false) {a0 : Nat} {x1 : Int32} {a2 : Nat} {z : Nat} {h : AH} {o : Int32 × Nat × AH} (hf : fL_abort a0 x1 a2 z h = some o) : jMet g yL_abort (wjH yL_abort cL_abort 4 (some .int) [(0, 9, 12, 13), (0, 9, 15, 15)]) rmL_abort [.ref a0, .int x1, .ref a2] z h (some (.int o.1), o.2.1, o.2.2) :=
  jMet_mkH (by decide) (Nat.le_of_ble_eq_true rfl) [some (.ref a0), some (.int x1), some (.ref a2), none] rfl rfl (wfL_abort hst hf)
def fL_addResource  (a0 : Nat) (x1 : Int32) (a2 : Nat) (z : Nat) (h : AH) : Option (Int32 × Nat × AH) :=
  gd (kd h a0 = 9) (bd3 (fX8_addResource a0 x1 z h) (fun vo2 zo2 ho2h => xr vo2 (fun v3 => gd (kd ho2h a2 = 14) (gd (¬ ((0 : Int32) < 0 ∨ ln ho2h a2 ≤ Int32.toNatClampNeg 0)) (bl (wJ ho2h a2 (Int32.toNatClampNeg 0) (Int32.toInt64 v3)) (fun h7 => some (0, zo2, h7))))) (fun x4 => (if x4 = eB then (some (1, zo2, ho2h)) else (if x4 = eS then (some (2, zo2, ho2h)) else (none))))))
theorem wfL_addResource {g : JG} (hst : (jl g).stackTraces = false)   {a0 : Nat} {x1 : Int32} {a2 : Nat} {z : Nat} {h : AH} {o : Int32 × Nat × AH} (hf : fL_addResource  a0 x1 a2 z h = some o) : J g ML_addResource (jN g (some (.int o.1), o.2.1, o.2.2) rmL_addResource.cells rmL_addResource.slots) 0 [some (.ref a0), some (.int x1), some (.ref a2), none] [] z h 0 0 := by
  unfold fL_addResource at hf
  refine J_aload_n dL_addResource_0 rfl rfl ?_
  refine J_iconst (v := 0) dL_addResource_1 (by decide) ?_
  refine J_aload_n dL_addResource_2 rfl rfl ?_
  refine J_iload_n dL_addResource_3 rfl rfl ?_
  obtain ⟨k1, hf⟩ := gds hf
  obtain ⟨vo2, zo2, ho2h, ho2, hf⟩ := rfs3 hf
  rcases xrs hf with ⟨v3, ev3, hf⟩ | ⟨x4, ev3, hf⟩
  · refine XV1i dL_addResource_4 (by have h9 := mX8_addResourceR hst ho2 ⟨_, ev3⟩; rw [ev3] at h9; exact h9) tk_548 iX8_addResource k1 (by decide) rfl ⟨by decide, by decide⟩ ⟨by decide, by decide⟩ (Nat.le_of_ble_eq_true rfl) ?_
    refine J_i2l dL_addResource_7 ?_
    obtain ⟨k5, hf⟩ := gds hf
    obtain ⟨n6, hf⟩ := gds hf
    refine J_lastore dL_addResource_8 k5 n6 ?_
    obtain ⟨h7, eh7, hf⟩ := bls hf
    refine J_h eh7 ?_
    refine J_goto (tgt := 18) dL_addResource_9 (by decide) ?_
    refine J_iconst (v := 0) dL_addResource_18 (by decide) ?_
    cases hf
    exact J_iretN dL_addResource_19 rfl (by decide) (by decide)
  · skip
    rcases br hf with ⟨c8, hf⟩ | ⟨c8, hf⟩
    · subst c8
      refine J_callVXc (As := [_]) [] (⟨0, 9, 12, 13⟩ : ExceptionTableEntry) [(⟨0, 9, 15, 15⟩ : ExceptionTableEntry)] dL_addResource_4 (by have h9 := mX8_addResourceT hst ho2 ⟨_, ev3⟩; rw [ev3] at h9; exact h9) tk_548 iX8_addResource k1 (by decide) rfl ⟨by decide, by decide⟩ ⟨by decide, by decide⟩ (Nat.le_of_ble_eq_true rfl) rfl (fun z hz => nomatch hz) (by decide) (by decide) tk_546 tl_439 (fun q => ?_)
      refine S_astore_n_3 dL_addResource_12 rfl (by decide) ?_
      refine J_iconst (v := 1) dL_addResource_13 (by decide) ?_
      cases hf
      exact J_iretN dL_addResource_14 rfl (by decide) (by decide)
    · skip
      rcases br hf with ⟨c9, hf⟩ | ⟨c9, hf⟩
      · subst c9
        refine J_callVXc (As := [_]) [(⟨0, 9, 12, 13⟩ : ExceptionTableEntry)] (⟨0, 9, 15, 15⟩ : ExceptionTableEntry) [] dL_addResource_4 (by have h9 := mX8_addResourceT hst ho2 ⟨_, ev3⟩; rw [ev3] at h9; exact h9) tk_548 iX8_addResource k1 (by decide) rfl ⟨by decide, by decide⟩ ⟨by decide, by decide⟩ (Nat.le_of_ble_eq_true rfl) rfl (fun z hz => by rcases List.mem_singleton.mp hz with rfl; exact ⟨by decide, "java/lang/IndexOutOfBoundsException", tk_546, fun U hU => hU.2.2.2.2.2.2.1.1⟩) (by decide) (by decide) tk_547 tl_558 (fun q => ?_)
        refine S_astore_n_3 dL_addResource_15 rfl (by decide) ?_
        refine J_iconst (v := 2) dL_addResource_16 (by decide) ?_
        cases hf
        exact J_iretN dL_addResource_17 rfl (by decide) (by decide)
      · skip
        cases hf
theorem mL_addResource {g : JG} (hst : (jl g).stackTraces = false) {a0 : Nat} {x1 : Int32} {a2 : Nat} {z : Nat} {h : AH} {o : Int32 × Nat × AH} (hf : fL_addResource a0 x1 a2 z h = some o) : jMet g yL_addResource (wjH yL_addResource cL_addResource 4 (some .int) [(0, 9, 12, 13), (0, 9, 15, 15)]) rmL_addResource [.ref a0, .int x1, .ref a2] z h (some (.int o.1), o.2.1, o.2.2) :=
  jMet_mkH (by decide) (Nat.le_of_ble_eq_true rfl) [some (.ref a0), some (.int x1), some (.ref a2), none] rfl rfl (wfL_addResource hst hf)
def fL_create  (a0 : Nat) (x1 : Int32) (a2 : Nat) (z : Nat) (h : AH) : Option (Int32 × Nat × AH) :=
  gd (kd h a0 = 9) (bd3 (fX8_create a0 x1 z h) (fun vo2 zo2 ho2h => xr vo2 (fun v3 => gd (kd ho2h a2 = 14) (gd (¬ ((0 : Int32) < 0 ∨ ln ho2h a2 ≤ Int32.toNatClampNeg 0)) (bl (wJ ho2h a2 (Int32.toNatClampNeg 0) (Int32.toInt64 v3)) (fun h7 => some (0, zo2, h7))))) (fun x4 => (if x4 = eA then (some (1, zo2, ho2h)) else (if x4 = eS then (some (2, zo2, ho2h)) else (none))))))
theorem wfL_create {g : JG} (hst : (jl g).stackTraces = false)   {a0 : Nat} {x1 : Int32} {a2 : Nat} {z : Nat} {h : AH} {o : Int32 × Nat × AH} (hf : fL_create  a0 x1 a2 z h = some o) : J g ML_create (jN g (some (.int o.1), o.2.1, o.2.2) rmL_create.cells rmL_create.slots) 0 [some (.ref a0), some (.int x1), some (.ref a2), none] [] z h 0 0 := by
  unfold fL_create at hf
  refine J_aload_n dL_create_0 rfl rfl ?_
  refine J_iconst (v := 0) dL_create_1 (by decide) ?_
  refine J_aload_n dL_create_2 rfl rfl ?_
  refine J_iload_n dL_create_3 rfl rfl ?_
  obtain ⟨k1, hf⟩ := gds hf
  obtain ⟨vo2, zo2, ho2h, ho2, hf⟩ := rfs3 hf
  rcases xrs hf with ⟨v3, ev3, hf⟩ | ⟨x4, ev3, hf⟩
  · refine XV1i dL_create_4 (by have h9 := mX8_createR hst ho2 ⟨_, ev3⟩; rw [ev3] at h9; exact h9) tk_617 iX8_create k1 (by decide) rfl ⟨by decide, by decide⟩ ⟨by decide, by decide⟩ (Nat.le_of_ble_eq_true rfl) ?_
    refine J_i2l dL_create_7 ?_
    obtain ⟨k5, hf⟩ := gds hf
    obtain ⟨n6, hf⟩ := gds hf
    refine J_lastore dL_create_8 k5 n6 ?_
    obtain ⟨h7, eh7, hf⟩ := bls hf
    refine J_h eh7 ?_
    refine J_goto (tgt := 18) dL_create_9 (by decide) ?_
    refine J_iconst (v := 0) dL_create_18 (by decide) ?_
    cases hf
    exact J_iretN dL_create_19 rfl (by decide) (by decide)
  · skip
    rcases br hf with ⟨c8, hf⟩ | ⟨c8, hf⟩
    · subst c8
      refine J_callVXc (As := [_]) [] (⟨0, 9, 12, 21⟩ : ExceptionTableEntry) [(⟨0, 9, 15, 15⟩ : ExceptionTableEntry)] dL_create_4 (by have h9 := mX8_createT hst ho2 ⟨_, ev3⟩; rw [ev3] at h9; exact h9) tk_617 iX8_create k1 (by decide) rfl ⟨by decide, by decide⟩ ⟨by decide, by decide⟩ (Nat.le_of_ble_eq_true rfl) rfl (fun z hz => nomatch hz) (by decide) (by decide) tk_591 tl_510 (fun q => ?_)
      refine S_astore_n_3 dL_create_12 rfl (by decide) ?_
      refine J_iconst (v := 1) dL_create_13 (by decide) ?_
      cases hf
      exact J_iretN dL_create_14 rfl (by decide) (by decide)
    · skip
      rcases br hf with ⟨c9, hf⟩ | ⟨c9, hf⟩
      · subst c9
        refine J_callVXc (As := [_]) [(⟨0, 9, 12, 21⟩ : ExceptionTableEntry)] (⟨0, 9, 15, 15⟩ : ExceptionTableEntry) [] dL_create_4 (by have h9 := mX8_createT hst ho2 ⟨_, ev3⟩; rw [ev3] at h9; exact h9) tk_617 iX8_create k1 (by decide) rfl ⟨by decide, by decide⟩ ⟨by decide, by decide⟩ (Nat.le_of_ble_eq_true rfl) rfl (fun z hz => by rcases List.mem_singleton.mp hz with rfl; exact ⟨by decide, "java/lang/IllegalArgumentException", tk_591, fun U hU => hU.2.2.2.2.2.2.1.2.2⟩) (by decide) (by decide) tk_547 tl_558 (fun q => ?_)
        refine S_astore_n_3 dL_create_15 rfl (by decide) ?_
        refine J_iconst (v := 2) dL_create_16 (by decide) ?_
        cases hf
        exact J_iretN dL_create_17 rfl (by decide) (by decide)
      · skip
        cases hf
theorem mL_create {g : JG} (hst : (jl g).stackTraces = false) {a0 : Nat} {x1 : Int32} {a2 : Nat} {z : Nat} {h : AH} {o : Int32 × Nat × AH} (hf : fL_create a0 x1 a2 z h = some o) : jMet g yL_create (wjH yL_create cL_create 4 (some .int) [(0, 9, 12, 21), (0, 9, 15, 15)]) rmL_create [.ref a0, .int x1, .ref a2] z h (some (.int o.1), o.2.1, o.2.2) :=
  jMet_mkH (by decide) (Nat.le_of_ble_eq_true rfl) [some (.ref a0), some (.int x1), some (.ref a2), none] rfl rfl (wfL_create hst hf)
def fL_deliver  (a0 : Nat) (x1 : Int32) (a2 : Nat) (z : Nat) (h : AH) : Option (Int32 × Nat × AH) :=
  gd (kd h a0 = 9) (bd3 (fX8_deliver a0 x1 z h) (fun vo2 zo2 ho2h => xr vo2 (fun v3 => gd (kd ho2h a2 = 14) (gd (¬ ((0 : Int32) < 0 ∨ ln ho2h a2 ≤ Int32.toNatClampNeg 0)) (bl (wJ ho2h a2 (Int32.toNatClampNeg 0) (Int32.toInt64 v3)) (fun h7 => some (0, zo2, h7))))) (fun x4 => (if x4 = eA then (some (1, zo2, ho2h)) else (none)))))
theorem wfL_deliver {g : JG} (hst : (jl g).stackTraces = false)   {a0 : Nat} {x1 : Int32} {a2 : Nat} {z : Nat} {h : AH} {o : Int32 × Nat × AH} (hf : fL_deliver  a0 x1 a2 z h = some o) : J g ML_deliver (jN g (some (.int o.1), o.2.1, o.2.2) rmL_deliver.cells rmL_deliver.slots) 0 [some (.ref a0), some (.int x1), some (.ref a2), none] [] z h 0 0 := by
  unfold fL_deliver at hf
  refine J_aload_n dL_deliver_0 rfl rfl ?_
  refine J_iconst (v := 0) dL_deliver_1 (by decide) ?_
  refine J_aload_n dL_deliver_2 rfl rfl ?_
  refine J_iload_n dL_deliver_3 rfl rfl ?_
  obtain ⟨k1, hf⟩ := gds hf
  obtain ⟨vo2, zo2, ho2h, ho2, hf⟩ := rfs3 hf
  rcases xrs hf with ⟨v3, ev3, hf⟩ | ⟨x4, ev3, hf⟩
  · refine XV1i dL_deliver_4 (by have h9 := mX8_deliverR hst ho2 ⟨_, ev3⟩; rw [ev3] at h9; exact h9) tk_796 iX8_deliver k1 (by decide) rfl ⟨by decide, by decide⟩ ⟨by decide, by decide⟩ (Nat.le_of_ble_eq_true rfl) ?_
    refine J_i2l dL_deliver_7 ?_
    obtain ⟨k5, hf⟩ := gds hf
    obtain ⟨n6, hf⟩ := gds hf
    refine J_lastore dL_deliver_8 k5 n6 ?_
    obtain ⟨h7, eh7, hf⟩ := bls hf
    refine J_h eh7 ?_
    refine J_goto (tgt := 15) dL_deliver_9 (by decide) ?_
    refine J_iconst (v := 0) dL_deliver_15 (by decide) ?_
    cases hf
    exact J_iretN dL_deliver_16 rfl (by decide) (by decide)
  · skip
    rcases br hf with ⟨c8, hf⟩ | ⟨c8, hf⟩
    · subst c8
      refine J_callVXc (As := [_]) [] (⟨0, 9, 12, 21⟩ : ExceptionTableEntry) [] dL_deliver_4 (by have h9 := mX8_deliverT hst ho2 ⟨_, ev3⟩; rw [ev3] at h9; exact h9) tk_796 iX8_deliver k1 (by decide) rfl ⟨by decide, by decide⟩ ⟨by decide, by decide⟩ (Nat.le_of_ble_eq_true rfl) rfl (fun z hz => nomatch hz) (by decide) (by decide) tk_591 tl_510 (fun q => ?_)
      refine S_astore_n_3 dL_deliver_12 rfl (by decide) ?_
      refine J_iconst (v := 1) dL_deliver_13 (by decide) ?_
      cases hf
      exact J_iretN dL_deliver_14 rfl (by decide) (by decide)
    · skip
      cases hf
theorem mL_deliver {g : JG} (hst : (jl g).stackTraces = false) {a0 : Nat} {x1 : Int32} {a2 : Nat} {z : Nat} {h : AH} {o : Int32 × Nat × AH} (hf : fL_deliver a0 x1 a2 z h = some o) : jMet g yL_deliver (wjH yL_deliver cL_deliver 4 (some .int) [(0, 9, 12, 21)]) rmL_deliver [.ref a0, .int x1, .ref a2] z h (some (.int o.1), o.2.1, o.2.2) :=
  jMet_mkH (by decide) (Nat.le_of_ble_eq_true rfl) [some (.ref a0), some (.int x1), some (.ref a2), none] rfl rfl (wfL_deliver hst hf)
def fL_finish  (a0 : Nat) (x1 : Int32) (a2 : Nat) (z : Nat) (h : AH) : Option (Int32 × Nat × AH) :=
  gd (kd h a0 = 9) (bd3 (fX8_finish a0 x1 z h) (fun vo2 zo2 ho2h => xr vo2 (fun v3 => gd (kd ho2h a2 = 14) (gd (¬ ((0 : Int32) < 0 ∨ ln ho2h a2 ≤ Int32.toNatClampNeg 0)) (bl (wJ ho2h a2 (Int32.toNatClampNeg 0) (Int32.toInt64 v3)) (fun h7 => some (0, zo2, h7))))) (fun x4 => (if x4 = eB then (some (1, zo2, ho2h)) else (if x4 = eS then (some (2, zo2, ho2h)) else (none))))))
theorem wfL_finish {g : JG} (hst : (jl g).stackTraces = false)   {a0 : Nat} {x1 : Int32} {a2 : Nat} {z : Nat} {h : AH} {o : Int32 × Nat × AH} (hf : fL_finish  a0 x1 a2 z h = some o) : J g ML_finish (jN g (some (.int o.1), o.2.1, o.2.2) rmL_finish.cells rmL_finish.slots) 0 [some (.ref a0), some (.int x1), some (.ref a2), none] [] z h 0 0 := by
  unfold fL_finish at hf
  refine J_aload_n dL_finish_0 rfl rfl ?_
  refine J_iconst (v := 0) dL_finish_1 (by decide) ?_
  refine J_aload_n dL_finish_2 rfl rfl ?_
  refine J_iload_n dL_finish_3 rfl rfl ?_
  obtain ⟨k1, hf⟩ := gds hf
  obtain ⟨vo2, zo2, ho2h, ho2, hf⟩ := rfs3 hf
  rcases xrs hf with ⟨v3, ev3, hf⟩ | ⟨x4, ev3, hf⟩
  · refine XV1i dL_finish_4 (by have h9 := mX8_finishR hst ho2 ⟨_, ev3⟩; rw [ev3] at h9; exact h9) tk_705 iX8_finish k1 (by decide) rfl ⟨by decide, by decide⟩ ⟨by decide, by decide⟩ (Nat.le_of_ble_eq_true rfl) ?_
    refine J_i2l dL_finish_7 ?_
    obtain ⟨k5, hf⟩ := gds hf
    obtain ⟨n6, hf⟩ := gds hf
    refine J_lastore dL_finish_8 k5 n6 ?_
    obtain ⟨h7, eh7, hf⟩ := bls hf
    refine J_h eh7 ?_
    refine J_goto (tgt := 18) dL_finish_9 (by decide) ?_
    refine J_iconst (v := 0) dL_finish_18 (by decide) ?_
    cases hf
    exact J_iretN dL_finish_19 rfl (by decide) (by decide)
  · skip
    rcases br hf with ⟨c8, hf⟩ | ⟨c8, hf⟩
    · subst c8
      refine J_callVXc (As := [_]) [] (⟨0, 9, 12, 13⟩ : ExceptionTableEntry) [(⟨0, 9, 15, 15⟩ : ExceptionTableEntry)] dL_finish_4 (by have h9 := mX8_finishT hst ho2 ⟨_, ev3⟩; rw [ev3] at h9; exact h9) tk_705 iX8_finish k1 (by decide) rfl ⟨by decide, by decide⟩ ⟨by decide, by decide⟩ (Nat.le_of_ble_eq_true rfl) rfl (fun z hz => nomatch hz) (by decide) (by decide) tk_546 tl_439 (fun q => ?_)
      refine S_astore_n_3 dL_finish_12 rfl (by decide) ?_
      refine J_iconst (v := 1) dL_finish_13 (by decide) ?_
      cases hf
      exact J_iretN dL_finish_14 rfl (by decide) (by decide)
    · skip
      rcases br hf with ⟨c9, hf⟩ | ⟨c9, hf⟩
      · subst c9
        refine J_callVXc (As := [_]) [(⟨0, 9, 12, 13⟩ : ExceptionTableEntry)] (⟨0, 9, 15, 15⟩ : ExceptionTableEntry) [] dL_finish_4 (by have h9 := mX8_finishT hst ho2 ⟨_, ev3⟩; rw [ev3] at h9; exact h9) tk_705 iX8_finish k1 (by decide) rfl ⟨by decide, by decide⟩ ⟨by decide, by decide⟩ (Nat.le_of_ble_eq_true rfl) rfl (fun z hz => by rcases List.mem_singleton.mp hz with rfl; exact ⟨by decide, "java/lang/IndexOutOfBoundsException", tk_546, fun U hU => hU.2.2.2.2.2.2.1.1⟩) (by decide) (by decide) tk_547 tl_558 (fun q => ?_)
        refine S_astore_n_3 dL_finish_15 rfl (by decide) ?_
        refine J_iconst (v := 2) dL_finish_16 (by decide) ?_
        cases hf
        exact J_iretN dL_finish_17 rfl (by decide) (by decide)
      · skip
        cases hf
theorem mL_finish {g : JG} (hst : (jl g).stackTraces = false) {a0 : Nat} {x1 : Int32} {a2 : Nat} {z : Nat} {h : AH} {o : Int32 × Nat × AH} (hf : fL_finish a0 x1 a2 z h = some o) : jMet g yL_finish (wjH yL_finish cL_finish 4 (some .int) [(0, 9, 12, 13), (0, 9, 15, 15)]) rmL_finish [.ref a0, .int x1, .ref a2] z h (some (.int o.1), o.2.1, o.2.2) :=
  jMet_mkH (by decide) (Nat.le_of_ble_eq_true rfl) [some (.ref a0), some (.int x1), some (.ref a2), none] rfl rfl (wfL_finish hst hf)
def fL_latest  (a0 : Nat) (x1 : Int32) (a2 : Nat) (z : Nat) (h : AH) : Option (Int32 × Nat × AH) :=
  gd (kd h a0 = 9) (bd3 (fX8_latest a0 x1 z h) (fun vo2 zo2 ho2h => xr vo2 (fun v3 => gd (kd ho2h a2 = 14) (gd (¬ ((0 : Int32) < 0 ∨ ln ho2h a2 ≤ Int32.toNatClampNeg 0)) (bl (wJ ho2h a2 (Int32.toNatClampNeg 0) (Int32.toInt64 v3)) (fun h7 => some (0, zo2, h7))))) (fun x4 => (if x4 = eA then (some (1, zo2, ho2h)) else (none)))))
theorem wfL_latest {g : JG} (hst : (jl g).stackTraces = false)   {a0 : Nat} {x1 : Int32} {a2 : Nat} {z : Nat} {h : AH} {o : Int32 × Nat × AH} (hf : fL_latest  a0 x1 a2 z h = some o) : J g ML_latest (jN g (some (.int o.1), o.2.1, o.2.2) rmL_latest.cells rmL_latest.slots) 0 [some (.ref a0), some (.int x1), some (.ref a2), none] [] z h 0 0 := by
  unfold fL_latest at hf
  refine J_aload_n dL_latest_0 rfl rfl ?_
  refine J_iconst (v := 0) dL_latest_1 (by decide) ?_
  refine J_aload_n dL_latest_2 rfl rfl ?_
  refine J_iload_n dL_latest_3 rfl rfl ?_
  obtain ⟨k1, hf⟩ := gds hf
  obtain ⟨vo2, zo2, ho2h, ho2, hf⟩ := rfs3 hf
  rcases xrs hf with ⟨v3, ev3, hf⟩ | ⟨x4, ev3, hf⟩
  · refine XV1i dL_latest_4 (by have h9 := mX8_latestR hst ho2 ⟨_, ev3⟩; rw [ev3] at h9; exact h9) tk_871 iX8_latest k1 (by decide) rfl ⟨by decide, by decide⟩ ⟨by decide, by decide⟩ (Nat.le_of_ble_eq_true rfl) ?_
    refine J_i2l dL_latest_7 ?_
    obtain ⟨k5, hf⟩ := gds hf
    obtain ⟨n6, hf⟩ := gds hf
    refine J_lastore dL_latest_8 k5 n6 ?_
    obtain ⟨h7, eh7, hf⟩ := bls hf
    refine J_h eh7 ?_
    refine J_goto (tgt := 15) dL_latest_9 (by decide) ?_
    refine J_iconst (v := 0) dL_latest_15 (by decide) ?_
    cases hf
    exact J_iretN dL_latest_16 rfl (by decide) (by decide)
  · skip
    rcases br hf with ⟨c8, hf⟩ | ⟨c8, hf⟩
    · subst c8
      refine J_callVXc (As := [_]) [] (⟨0, 9, 12, 21⟩ : ExceptionTableEntry) [] dL_latest_4 (by have h9 := mX8_latestT hst ho2 ⟨_, ev3⟩; rw [ev3] at h9; exact h9) tk_871 iX8_latest k1 (by decide) rfl ⟨by decide, by decide⟩ ⟨by decide, by decide⟩ (Nat.le_of_ble_eq_true rfl) rfl (fun z hz => nomatch hz) (by decide) (by decide) tk_591 tl_510 (fun q => ?_)
      refine S_astore_n_3 dL_latest_12 rfl (by decide) ?_
      refine J_iconst (v := 1) dL_latest_13 (by decide) ?_
      cases hf
      exact J_iretN dL_latest_14 rfl (by decide) (by decide)
    · skip
      cases hf
theorem mL_latest {g : JG} (hst : (jl g).stackTraces = false) {a0 : Nat} {x1 : Int32} {a2 : Nat} {z : Nat} {h : AH} {o : Int32 × Nat × AH} (hf : fL_latest a0 x1 a2 z h = some o) : jMet g yL_latest (wjH yL_latest cL_latest 4 (some .int) [(0, 9, 12, 21)]) rmL_latest [.ref a0, .int x1, .ref a2] z h (some (.int o.1), o.2.1, o.2.2) :=
  jMet_mkH (by decide) (Nat.le_of_ble_eq_true rfl) [some (.ref a0), some (.int x1), some (.ref a2), none] rfl rfl (wfL_latest hst hf)
def fL_resource  (a0 : Nat) (x1 : Int32) (x2 : Int32) (a3 : Nat) (z : Nat) (h : AH) : Option (Int32 × Nat × AH) :=
  gd (kd h a0 = 9) (bd3 (fX8_resource a0 x1 x2 z h) (fun vo2 zo2 ho2h => xr vo2 (fun v3 => gd (kd ho2h a3 = 14) (gd (¬ ((0 : Int32) < 0 ∨ ln ho2h a3 ≤ Int32.toNatClampNeg 0)) (bl (wJ ho2h a3 (Int32.toNatClampNeg 0) (Int32.toInt64 v3)) (fun h7 => some (0, zo2, h7))))) (fun x4 => (if x4 = eB then (some (1, zo2, ho2h)) else (if x4 = eA then (some (2, zo2, ho2h)) else (none))))))
theorem wfL_resource {g : JG} (hst : (jl g).stackTraces = false)   {a0 : Nat} {x1 : Int32} {x2 : Int32} {a3 : Nat} {z : Nat} {h : AH} {o : Int32 × Nat × AH} (hf : fL_resource  a0 x1 x2 a3 z h = some o) : J g ML_resource (jN g (some (.int o.1), o.2.1, o.2.2) rmL_resource.cells rmL_resource.slots) 0 [some (.ref a0), some (.int x1), some (.int x2), some (.ref a3), none] [] z h 0 0 := by
  unfold fL_resource at hf
  refine J_aload_n dL_resource_0 rfl rfl ?_
  refine J_iconst (v := 0) dL_resource_1 (by decide) ?_
  refine J_aload_n dL_resource_2 rfl rfl ?_
  refine J_iload_n dL_resource_3 rfl rfl ?_
  refine J_iload_n dL_resource_4 rfl rfl ?_
  obtain ⟨k1, hf⟩ := gds hf
  obtain ⟨vo2, zo2, ho2h, ho2, hf⟩ := rfs3 hf
  rcases xrs hf with ⟨v3, ev3, hf⟩ | ⟨x4, ev3, hf⟩
  · refine XV2i dL_resource_5 (by have h9 := mX8_resourceR hst ho2 ⟨_, ev3⟩; rw [ev3] at h9; exact h9) tk_592 iX8_resource k1 (by decide) rfl ⟨by decide, by decide⟩ ⟨by decide, by decide⟩ (Nat.le_of_ble_eq_true rfl) ?_
    refine J_i2l dL_resource_8 ?_
    obtain ⟨k5, hf⟩ := gds hf
    obtain ⟨n6, hf⟩ := gds hf
    refine J_lastore dL_resource_9 k5 n6 ?_
    obtain ⟨h7, eh7, hf⟩ := bls hf
    refine J_h eh7 ?_
    refine J_goto (tgt := 21) dL_resource_10 (by decide) ?_
    refine J_iconst (v := 0) dL_resource_21 (by decide) ?_
    cases hf
    exact J_iretN dL_resource_22 rfl (by decide) (by decide)
  · skip
    rcases br hf with ⟨c8, hf⟩ | ⟨c8, hf⟩
    · subst c8
      refine J_callVXc (As := [_, _]) [] (⟨0, 10, 13, 13⟩ : ExceptionTableEntry) [(⟨0, 10, 17, 21⟩ : ExceptionTableEntry)] dL_resource_5 (by have h9 := mX8_resourceT hst ho2 ⟨_, ev3⟩; rw [ev3] at h9; exact h9) tk_592 iX8_resource k1 (by decide) rfl ⟨by decide, by decide⟩ ⟨by decide, by decide⟩ (Nat.le_of_ble_eq_true rfl) rfl (fun z hz => nomatch hz) (by decide) (by decide) tk_546 tl_439 (fun q => ?_)
      refine S_astore_4 dL_resource_13 rfl (by decide) ?_
      refine J_iconst (v := 1) dL_resource_15 (by decide) ?_
      cases hf
      exact J_iretN dL_resource_16 rfl (by decide) (by decide)
    · skip
      rcases br hf with ⟨c9, hf⟩ | ⟨c9, hf⟩
      · subst c9
        refine J_callVXc (As := [_, _]) [(⟨0, 10, 13, 13⟩ : ExceptionTableEntry)] (⟨0, 10, 17, 21⟩ : ExceptionTableEntry) [] dL_resource_5 (by have h9 := mX8_resourceT hst ho2 ⟨_, ev3⟩; rw [ev3] at h9; exact h9) tk_592 iX8_resource k1 (by decide) rfl ⟨by decide, by decide⟩ ⟨by decide, by decide⟩ (Nat.le_of_ble_eq_true rfl) rfl (fun z hz => by rcases List.mem_singleton.mp hz with rfl; exact ⟨by decide, "java/lang/IndexOutOfBoundsException", tk_546, fun U hU => hU.2.2.2.2.2.2.1.2.1⟩) (by decide) (by decide) tk_591 tl_510 (fun q => ?_)
        refine S_astore_4 dL_resource_17 rfl (by decide) ?_
        refine J_iconst (v := 2) dL_resource_19 (by decide) ?_
        cases hf
        exact J_iretN dL_resource_20 rfl (by decide) (by decide)
      · skip
        cases hf
theorem mL_resource {g : JG} (hst : (jl g).stackTraces = false) {a0 : Nat} {x1 : Int32} {x2 : Int32} {a3 : Nat} {z : Nat} {h : AH} {o : Int32 × Nat × AH} (hf : fL_resource a0 x1 x2 a3 z h = some o) : jMet g yL_resource (wjH yL_resource cL_resource 5 (some .int) [(0, 10, 13, 13), (0, 10, 17, 21)]) rmL_resource [.ref a0, .int x1, .int x2, .ref a3] z h (some (.int o.1), o.2.1, o.2.2) :=
  jMet_mkH (by decide) (Nat.le_of_ble_eq_true rfl) [some (.ref a0), some (.int x1), some (.int x2), some (.ref a3), none] rfl rfl (wfL_resource hst hf)
def fL_overlap  (a0 : Nat) (x1 : Int32) (x2 : Int32) (a3 : Nat) (z : Nat) (h : AH) : Option (Int32 × Nat × AH) :=
  gd (kd h a0 = 9) (bd3 (fX8_overlap a0 x1 x2 z h) (fun vo2 zo2 ho2h => xr vo2 (fun v3 => (if v3 = 0 then (gd (kd ho2h a3 = 14) (gd (¬ ((0 : Int32) < 0 ∨ ln ho2h a3 ≤ Int32.toNatClampNeg 0)) (bl (wJ ho2h a3 (Int32.toNatClampNeg 0) 0) (fun h8 => some (0, zo2, h8))))) else (gd (kd ho2h a3 = 14) (gd (¬ ((0 : Int32) < 0 ∨ ln ho2h a3 ≤ Int32.toNatClampNeg 0)) (bl (wJ ho2h a3 (Int32.toNatClampNeg 0) 1) (fun h11 => some (0, zo2, h11))))))) (fun x4 => (if x4 = eB then (some (1, zo2, ho2h)) else (none)))))
theorem wfL_overlap {g : JG} (hst : (jl g).stackTraces = false)   {a0 : Nat} {x1 : Int32} {x2 : Int32} {a3 : Nat} {z : Nat} {h : AH} {o : Int32 × Nat × AH} (hf : fL_overlap  a0 x1 x2 a3 z h = some o) : J g ML_overlap (jN g (some (.int o.1), o.2.1, o.2.2) rmL_overlap.cells rmL_overlap.slots) 0 [some (.ref a0), some (.int x1), some (.int x2), some (.ref a3), none] [] z h 0 0 := by
  unfold fL_overlap at hf
  refine J_aload_n dL_overlap_0 rfl rfl ?_
  refine J_iconst (v := 0) dL_overlap_1 (by decide) ?_
  refine J_aload_n dL_overlap_2 rfl rfl ?_
  refine J_iload_n dL_overlap_3 rfl rfl ?_
  refine J_iload_n dL_overlap_4 rfl rfl ?_
  obtain ⟨k1, hf⟩ := gds hf
  obtain ⟨vo2, zo2, ho2h, ho2, hf⟩ := rfs3 hf
  rcases xrs hf with ⟨v3, ev3, hf⟩ | ⟨x4, ev3, hf⟩
  · refine XV2i dL_overlap_5 (by have h9 := mX8_overlapR hst ho2 ⟨_, ev3⟩; rw [ev3] at h9; exact h9) tk_609 iX8_overlap k1 (by decide) rfl ⟨by decide, by decide⟩ ⟨by decide, by decide⟩ (Nat.le_of_ble_eq_true rfl) ?_
    rcases br hf with ⟨c5, hf⟩ | ⟨c5, hf⟩
    · refine J_if_eq (tgt := 15) dL_overlap_8 (by decide) (fun _ => ?_) (fun w => absurd c5 w)
      refine J_lconst (v := 0) dL_overlap_15 (by decide) ?_
      obtain ⟨k6, hf⟩ := gds hf
      obtain ⟨n7, hf⟩ := gds hf
      refine J_lastore dL_overlap_16 k6 n7 ?_
      obtain ⟨h8, eh8, hf⟩ := bls hf
      refine J_h eh8 ?_
      refine J_goto (tgt := 24) dL_overlap_17 (by decide) ?_
      refine J_iconst (v := 0) dL_overlap_24 (by decide) ?_
      cases hf
      exact J_iretN dL_overlap_25 rfl (by decide) (by decide)
    · refine J_if_eq (tgt := 15) dL_overlap_8 (by decide) (fun w => absurd w c5) (fun _ => ?_)
      refine J_lconst (v := 1) dL_overlap_11 (by decide) ?_
      refine J_goto (tgt := 16) dL_overlap_12 (by decide) ?_
      obtain ⟨k9, hf⟩ := gds hf
      obtain ⟨n10, hf⟩ := gds hf
      refine J_lastore dL_overlap_16 k9 n10 ?_
      obtain ⟨h11, eh11, hf⟩ := bls hf
      refine J_h eh11 ?_
      refine J_goto (tgt := 24) dL_overlap_17 (by decide) ?_
      refine J_iconst (v := 0) dL_overlap_24 (by decide) ?_
      cases hf
      exact J_iretN dL_overlap_25 rfl (by decide) (by decide)
  · skip
    rcases br hf with ⟨c12, hf⟩ | ⟨c12, hf⟩
    · subst c12
      refine J_callVXc (As := [_, _]) [] (⟨0, 17, 20, 13⟩ : ExceptionTableEntry) [] dL_overlap_5 (by have h9 := mX8_overlapT hst ho2 ⟨_, ev3⟩; rw [ev3] at h9; exact h9) tk_609 iX8_overlap k1 (by decide) rfl ⟨by decide, by decide⟩ ⟨by decide, by decide⟩ (Nat.le_of_ble_eq_true rfl) rfl (fun z hz => nomatch hz) (by decide) (by decide) tk_546 tl_439 (fun q => ?_)
      refine S_astore_4 dL_overlap_20 rfl (by decide) ?_
      refine J_iconst (v := 1) dL_overlap_22 (by decide) ?_
      cases hf
      exact J_iretN dL_overlap_23 rfl (by decide) (by decide)
    · skip
      cases hf
theorem mL_overlap {g : JG} (hst : (jl g).stackTraces = false) {a0 : Nat} {x1 : Int32} {x2 : Int32} {a3 : Nat} {z : Nat} {h : AH} {o : Int32 × Nat × AH} (hf : fL_overlap a0 x1 x2 a3 z h = some o) : jMet g yL_overlap (wjH yL_overlap cL_overlap 5 (some .int) [(0, 17, 20, 13)]) rmL_overlap [.ref a0, .int x1, .int x2, .ref a3] z h (some (.int o.1), o.2.1, o.2.2) :=
  jMet_mkH (by decide) (Nat.le_of_ble_eq_true rfl) [some (.ref a0), some (.int x1), some (.int x2), some (.ref a3), none] rfl rfl (wfL_overlap hst hf)
def fL_request  (a0 : Nat) (x1 : Int32) (x2 : Int32) (a3 : Nat) (z : Nat) (h : AH) : Option (Int32 × Nat × AH) :=
  gd (kd h a0 = 9) (bd3 (fX8_request a0 x1 x2 z h) (fun vo2 zo2 ho2h => xr vo2 (fun v3 => gd (kd ho2h a3 = 14) (gd (¬ ((0 : Int32) < 0 ∨ ln ho2h a3 ≤ Int32.toNatClampNeg 0)) (bl (wJ ho2h a3 (Int32.toNatClampNeg 0) (Int32.toInt64 v3)) (fun h7 => some (0, zo2, h7))))) (fun x4 => (if x4 = eB then (some (1, zo2, ho2h)) else (if x4 = eS then (some (2, zo2, ho2h)) else (none))))))
theorem wfL_request {g : JG} (hst : (jl g).stackTraces = false)   {a0 : Nat} {x1 : Int32} {x2 : Int32} {a3 : Nat} {z : Nat} {h : AH} {o : Int32 × Nat × AH} (hf : fL_request  a0 x1 x2 a3 z h = some o) : J g ML_request (jN g (some (.int o.1), o.2.1, o.2.2) rmL_request.cells rmL_request.slots) 0 [some (.ref a0), some (.int x1), some (.int x2), some (.ref a3), none] [] z h 0 0 := by
  unfold fL_request at hf
  refine J_aload_n dL_request_0 rfl rfl ?_
  refine J_iconst (v := 0) dL_request_1 (by decide) ?_
  refine J_aload_n dL_request_2 rfl rfl ?_
  refine J_iload_n dL_request_3 rfl rfl ?_
  refine J_iload_n dL_request_4 rfl rfl ?_
  obtain ⟨k1, hf⟩ := gds hf
  obtain ⟨vo2, zo2, ho2h, ho2, hf⟩ := rfs3 hf
  rcases xrs hf with ⟨v3, ev3, hf⟩ | ⟨x4, ev3, hf⟩
  · refine XV2i dL_request_5 (by have h9 := mX8_requestR hst ho2 ⟨_, ev3⟩; rw [ev3] at h9; exact h9) tk_634 iX8_request k1 (by decide) rfl ⟨by decide, by decide⟩ ⟨by decide, by decide⟩ (Nat.le_of_ble_eq_true rfl) ?_
    refine J_i2l dL_request_8 ?_
    obtain ⟨k5, hf⟩ := gds hf
    obtain ⟨n6, hf⟩ := gds hf
    refine J_lastore dL_request_9 k5 n6 ?_
    obtain ⟨h7, eh7, hf⟩ := bls hf
    refine J_h eh7 ?_
    refine J_goto (tgt := 21) dL_request_10 (by decide) ?_
    refine J_iconst (v := 0) dL_request_21 (by decide) ?_
    cases hf
    exact J_iretN dL_request_22 rfl (by decide) (by decide)
  · skip
    rcases br hf with ⟨c8, hf⟩ | ⟨c8, hf⟩
    · subst c8
      refine J_callVXc (As := [_, _]) [] (⟨0, 10, 13, 13⟩ : ExceptionTableEntry) [(⟨0, 10, 17, 15⟩ : ExceptionTableEntry)] dL_request_5 (by have h9 := mX8_requestT hst ho2 ⟨_, ev3⟩; rw [ev3] at h9; exact h9) tk_634 iX8_request k1 (by decide) rfl ⟨by decide, by decide⟩ ⟨by decide, by decide⟩ (Nat.le_of_ble_eq_true rfl) rfl (fun z hz => nomatch hz) (by decide) (by decide) tk_546 tl_439 (fun q => ?_)
      refine S_astore_4 dL_request_13 rfl (by decide) ?_
      refine J_iconst (v := 1) dL_request_15 (by decide) ?_
      cases hf
      exact J_iretN dL_request_16 rfl (by decide) (by decide)
    · skip
      rcases br hf with ⟨c9, hf⟩ | ⟨c9, hf⟩
      · subst c9
        refine J_callVXc (As := [_, _]) [(⟨0, 10, 13, 13⟩ : ExceptionTableEntry)] (⟨0, 10, 17, 15⟩ : ExceptionTableEntry) [] dL_request_5 (by have h9 := mX8_requestT hst ho2 ⟨_, ev3⟩; rw [ev3] at h9; exact h9) tk_634 iX8_request k1 (by decide) rfl ⟨by decide, by decide⟩ ⟨by decide, by decide⟩ (Nat.le_of_ble_eq_true rfl) rfl (fun z hz => by rcases List.mem_singleton.mp hz with rfl; exact ⟨by decide, "java/lang/IndexOutOfBoundsException", tk_546, fun U hU => hU.2.2.2.2.2.2.1.1⟩) (by decide) (by decide) tk_547 tl_558 (fun q => ?_)
        refine S_astore_4 dL_request_17 rfl (by decide) ?_
        refine J_iconst (v := 2) dL_request_19 (by decide) ?_
        cases hf
        exact J_iretN dL_request_20 rfl (by decide) (by decide)
      · skip
        cases hf
theorem mL_request {g : JG} (hst : (jl g).stackTraces = false) {a0 : Nat} {x1 : Int32} {x2 : Int32} {a3 : Nat} {z : Nat} {h : AH} {o : Int32 × Nat × AH} (hf : fL_request a0 x1 x2 a3 z h = some o) : jMet g yL_request (wjH yL_request cL_request 5 (some .int) [(0, 10, 13, 13), (0, 10, 17, 15)]) rmL_request [.ref a0, .int x1, .int x2, .ref a3] z h (some (.int o.1), o.2.1, o.2.2) :=
  jMet_mkH (by decide) (Nat.le_of_ble_eq_true rfl) [some (.ref a0), some (.int x1), some (.int x2), some (.ref a3), none] rfl rfl (wfL_request hst hf)
def fL_release  (a0 : Nat) (x1 : Int32) (x2 : Int32) (a3 : Nat) (z : Nat) (h : AH) : Option (Int32 × Nat × AH) :=
  gd (kd h a0 = 9) (bd3 (fX8_release a0 x1 x2 z h) (fun vo2 zo2 ho2h => xr vo2 (fun v3 => gd (kd ho2h a3 = 14) (gd (¬ ((0 : Int32) < 0 ∨ ln ho2h a3 ≤ Int32.toNatClampNeg 0)) (bl (wJ ho2h a3 (Int32.toNatClampNeg 0) (Int32.toInt64 v3)) (fun h7 => some (0, zo2, h7))))) (fun x4 => (if x4 = eB then (some (1, zo2, ho2h)) else (if x4 = eS then (some (2, zo2, ho2h)) else (none))))))
theorem wfL_release {g : JG} (hst : (jl g).stackTraces = false)   {a0 : Nat} {x1 : Int32} {x2 : Int32} {a3 : Nat} {z : Nat} {h : AH} {o : Int32 × Nat × AH} (hf : fL_release  a0 x1 x2 a3 z h = some o) : J g ML_release (jN g (some (.int o.1), o.2.1, o.2.2) rmL_release.cells rmL_release.slots) 0 [some (.ref a0), some (.int x1), some (.int x2), some (.ref a3), none] [] z h 0 0 := by
  unfold fL_release at hf
  refine J_aload_n dL_release_0 rfl rfl ?_
  refine J_iconst (v := 0) dL_release_1 (by decide) ?_
  refine J_aload_n dL_release_2 rfl rfl ?_
  refine J_iload_n dL_release_3 rfl rfl ?_
  refine J_iload_n dL_release_4 rfl rfl ?_
  obtain ⟨k1, hf⟩ := gds hf
  obtain ⟨vo2, zo2, ho2h, ho2, hf⟩ := rfs3 hf
  rcases xrs hf with ⟨v3, ev3, hf⟩ | ⟨x4, ev3, hf⟩
  · refine XV2i dL_release_5 (by have h9 := mX8_releaseR hst ho2 ⟨_, ev3⟩; rw [ev3] at h9; exact h9) tk_680 iX8_release k1 (by decide) rfl ⟨by decide, by decide⟩ ⟨by decide, by decide⟩ (Nat.le_of_ble_eq_true rfl) ?_
    refine J_i2l dL_release_8 ?_
    obtain ⟨k5, hf⟩ := gds hf
    obtain ⟨n6, hf⟩ := gds hf
    refine J_lastore dL_release_9 k5 n6 ?_
    obtain ⟨h7, eh7, hf⟩ := bls hf
    refine J_h eh7 ?_
    refine J_goto (tgt := 21) dL_release_10 (by decide) ?_
    refine J_iconst (v := 0) dL_release_21 (by decide) ?_
    cases hf
    exact J_iretN dL_release_22 rfl (by decide) (by decide)
  · skip
    rcases br hf with ⟨c8, hf⟩ | ⟨c8, hf⟩
    · subst c8
      refine J_callVXc (As := [_, _]) [] (⟨0, 10, 13, 13⟩ : ExceptionTableEntry) [(⟨0, 10, 17, 15⟩ : ExceptionTableEntry)] dL_release_5 (by have h9 := mX8_releaseT hst ho2 ⟨_, ev3⟩; rw [ev3] at h9; exact h9) tk_680 iX8_release k1 (by decide) rfl ⟨by decide, by decide⟩ ⟨by decide, by decide⟩ (Nat.le_of_ble_eq_true rfl) rfl (fun z hz => nomatch hz) (by decide) (by decide) tk_546 tl_439 (fun q => ?_)
      refine S_astore_4 dL_release_13 rfl (by decide) ?_
      refine J_iconst (v := 1) dL_release_15 (by decide) ?_
      cases hf
      exact J_iretN dL_release_16 rfl (by decide) (by decide)
    · skip
      rcases br hf with ⟨c9, hf⟩ | ⟨c9, hf⟩
      · subst c9
        refine J_callVXc (As := [_, _]) [(⟨0, 10, 13, 13⟩ : ExceptionTableEntry)] (⟨0, 10, 17, 15⟩ : ExceptionTableEntry) [] dL_release_5 (by have h9 := mX8_releaseT hst ho2 ⟨_, ev3⟩; rw [ev3] at h9; exact h9) tk_680 iX8_release k1 (by decide) rfl ⟨by decide, by decide⟩ ⟨by decide, by decide⟩ (Nat.le_of_ble_eq_true rfl) rfl (fun z hz => by rcases List.mem_singleton.mp hz with rfl; exact ⟨by decide, "java/lang/IndexOutOfBoundsException", tk_546, fun U hU => hU.2.2.2.2.2.2.1.1⟩) (by decide) (by decide) tk_547 tl_558 (fun q => ?_)
        refine S_astore_4 dL_release_17 rfl (by decide) ?_
        refine J_iconst (v := 2) dL_release_19 (by decide) ?_
        cases hf
        exact J_iretN dL_release_20 rfl (by decide) (by decide)
      · skip
        cases hf
theorem mL_release {g : JG} (hst : (jl g).stackTraces = false) {a0 : Nat} {x1 : Int32} {x2 : Int32} {a3 : Nat} {z : Nat} {h : AH} {o : Int32 × Nat × AH} (hf : fL_release a0 x1 x2 a3 z h = some o) : jMet g yL_release (wjH yL_release cL_release 5 (some .int) [(0, 10, 13, 13), (0, 10, 17, 15)]) rmL_release [.ref a0, .int x1, .int x2, .ref a3] z h (some (.int o.1), o.2.1, o.2.2) :=
  jMet_mkH (by decide) (Nat.le_of_ble_eq_true rfl) [some (.ref a0), some (.int x1), some (.int x2), some (.ref a3), none] rfl rfl (wfL_release hst hf)
def fL_restart  (a0 : Nat) (x1 : Int32) (a2 : Nat) (z : Nat) (h : AH) : Option (Int32 × Nat × AH) :=
  gd (kd h a0 = 9) (bd3 (fX8_restart a0 x1 z h) (fun vo2 zo2 ho2h => xr vo2 (fun v3 => gd (kd ho2h a2 = 14) (gd (¬ ((0 : Int32) < 0 ∨ ln ho2h a2 ≤ Int32.toNatClampNeg 0)) (bl (wJ ho2h a2 (Int32.toNatClampNeg 0) (Int32.toInt64 v3)) (fun h7 => some (0, zo2, h7))))) (fun x4 => (if x4 = eB then (some (1, zo2, ho2h)) else (if x4 = eS then (some (2, zo2, ho2h)) else (none))))))
theorem wfL_restart {g : JG} (hst : (jl g).stackTraces = false)   {a0 : Nat} {x1 : Int32} {a2 : Nat} {z : Nat} {h : AH} {o : Int32 × Nat × AH} (hf : fL_restart  a0 x1 a2 z h = some o) : J g ML_restart (jN g (some (.int o.1), o.2.1, o.2.2) rmL_restart.cells rmL_restart.slots) 0 [some (.ref a0), some (.int x1), some (.ref a2), none] [] z h 0 0 := by
  unfold fL_restart at hf
  refine J_aload_n dL_restart_0 rfl rfl ?_
  refine J_iconst (v := 0) dL_restart_1 (by decide) ?_
  refine J_aload_n dL_restart_2 rfl rfl ?_
  refine J_iload_n dL_restart_3 rfl rfl ?_
  obtain ⟨k1, hf⟩ := gds hf
  obtain ⟨vo2, zo2, ho2h, ho2, hf⟩ := rfs3 hf
  rcases xrs hf with ⟨v3, ev3, hf⟩ | ⟨x4, ev3, hf⟩
  · refine XV1i dL_restart_4 (by have h9 := mX8_restartR hst ho2 ⟨_, ev3⟩; rw [ev3] at h9; exact h9) tk_728 iX8_restart k1 (by decide) rfl ⟨by decide, by decide⟩ ⟨by decide, by decide⟩ (Nat.le_of_ble_eq_true rfl) ?_
    refine J_i2l dL_restart_7 ?_
    obtain ⟨k5, hf⟩ := gds hf
    obtain ⟨n6, hf⟩ := gds hf
    refine J_lastore dL_restart_8 k5 n6 ?_
    obtain ⟨h7, eh7, hf⟩ := bls hf
    refine J_h eh7 ?_
    refine J_goto (tgt := 18) dL_restart_9 (by decide) ?_
    refine J_iconst (v := 0) dL_restart_18 (by decide) ?_
    cases hf
    exact J_iretN dL_restart_19 rfl (by decide) (by decide)
  · skip
    rcases br hf with ⟨c8, hf⟩ | ⟨c8, hf⟩
    · subst c8
      refine J_callVXc (As := [_]) [] (⟨0, 9, 12, 13⟩ : ExceptionTableEntry) [(⟨0, 9, 15, 15⟩ : ExceptionTableEntry)] dL_restart_4 (by have h9 := mX8_restartT hst ho2 ⟨_, ev3⟩; rw [ev3] at h9; exact h9) tk_728 iX8_restart k1 (by decide) rfl ⟨by decide, by decide⟩ ⟨by decide, by decide⟩ (Nat.le_of_ble_eq_true rfl) rfl (fun z hz => nomatch hz) (by decide) (by decide) tk_546 tl_439 (fun q => ?_)
      refine S_astore_n_3 dL_restart_12 rfl (by decide) ?_
      refine J_iconst (v := 1) dL_restart_13 (by decide) ?_
      cases hf
      exact J_iretN dL_restart_14 rfl (by decide) (by decide)
    · skip
      rcases br hf with ⟨c9, hf⟩ | ⟨c9, hf⟩
      · subst c9
        refine J_callVXc (As := [_]) [(⟨0, 9, 12, 13⟩ : ExceptionTableEntry)] (⟨0, 9, 15, 15⟩ : ExceptionTableEntry) [] dL_restart_4 (by have h9 := mX8_restartT hst ho2 ⟨_, ev3⟩; rw [ev3] at h9; exact h9) tk_728 iX8_restart k1 (by decide) rfl ⟨by decide, by decide⟩ ⟨by decide, by decide⟩ (Nat.le_of_ble_eq_true rfl) rfl (fun z hz => by rcases List.mem_singleton.mp hz with rfl; exact ⟨by decide, "java/lang/IndexOutOfBoundsException", tk_546, fun U hU => hU.2.2.2.2.2.2.1.1⟩) (by decide) (by decide) tk_547 tl_558 (fun q => ?_)
        refine S_astore_n_3 dL_restart_15 rfl (by decide) ?_
        refine J_iconst (v := 2) dL_restart_16 (by decide) ?_
        cases hf
        exact J_iretN dL_restart_17 rfl (by decide) (by decide)
      · skip
        cases hf
theorem mL_restart {g : JG} (hst : (jl g).stackTraces = false) {a0 : Nat} {x1 : Int32} {a2 : Nat} {z : Nat} {h : AH} {o : Int32 × Nat × AH} (hf : fL_restart a0 x1 a2 z h = some o) : jMet g yL_restart (wjH yL_restart cL_restart 4 (some .int) [(0, 9, 12, 13), (0, 9, 15, 15)]) rmL_restart [.ref a0, .int x1, .ref a2] z h (some (.int o.1), o.2.1, o.2.2) :=
  jMet_mkH (by decide) (Nat.le_of_ble_eq_true rfl) [some (.ref a0), some (.int x1), some (.ref a2), none] rfl rfl (wfL_restart hst hf)
def fL_task  (a0 : Nat) (x1 : Int32) (x2 : Int32) (a3 : Nat) (z : Nat) (h : AH) : Option (Int32 × Nat × AH) :=
  gd (kd h a0 = 9) (bd3 (fX8_task a0 x1 x2 z h) (fun vo2 zo2 ho2h => xr vo2 (fun v3 => gd (kd ho2h a3 = 14) (gd (¬ ((0 : Int32) < 0 ∨ ln ho2h a3 ≤ Int32.toNatClampNeg 0)) (bl (wJ ho2h a3 (Int32.toNatClampNeg 0) (Int32.toInt64 v3)) (fun h7 => some (0, zo2, h7))))) (fun x4 => (if x4 = eB then (some (1, zo2, ho2h)) else (if x4 = eA then (some (2, zo2, ho2h)) else (none))))))
theorem wfL_task {g : JG} (hst : (jl g).stackTraces = false)   {a0 : Nat} {x1 : Int32} {x2 : Int32} {a3 : Nat} {z : Nat} {h : AH} {o : Int32 × Nat × AH} (hf : fL_task  a0 x1 x2 a3 z h = some o) : J g ML_task (jN g (some (.int o.1), o.2.1, o.2.2) rmL_task.cells rmL_task.slots) 0 [some (.ref a0), some (.int x1), some (.int x2), some (.ref a3), none] [] z h 0 0 := by
  unfold fL_task at hf
  refine J_aload_n dL_task_0 rfl rfl ?_
  refine J_iconst (v := 0) dL_task_1 (by decide) ?_
  refine J_aload_n dL_task_2 rfl rfl ?_
  refine J_iload_n dL_task_3 rfl rfl ?_
  refine J_iload_n dL_task_4 rfl rfl ?_
  obtain ⟨k1, hf⟩ := gds hf
  obtain ⟨vo2, zo2, ho2h, ho2, hf⟩ := rfs3 hf
  rcases xrs hf with ⟨v3, ev3, hf⟩ | ⟨x4, ev3, hf⟩
  · refine XV2i dL_task_5 (by have h9 := mX8_taskR hst ho2 ⟨_, ev3⟩; rw [ev3] at h9; exact h9) tk_739 iX8_task k1 (by decide) rfl ⟨by decide, by decide⟩ ⟨by decide, by decide⟩ (Nat.le_of_ble_eq_true rfl) ?_
    refine J_i2l dL_task_8 ?_
    obtain ⟨k5, hf⟩ := gds hf
    obtain ⟨n6, hf⟩ := gds hf
    refine J_lastore dL_task_9 k5 n6 ?_
    obtain ⟨h7, eh7, hf⟩ := bls hf
    refine J_h eh7 ?_
    refine J_goto (tgt := 21) dL_task_10 (by decide) ?_
    refine J_iconst (v := 0) dL_task_21 (by decide) ?_
    cases hf
    exact J_iretN dL_task_22 rfl (by decide) (by decide)
  · skip
    rcases br hf with ⟨c8, hf⟩ | ⟨c8, hf⟩
    · subst c8
      refine J_callVXc (As := [_, _]) [] (⟨0, 10, 13, 13⟩ : ExceptionTableEntry) [(⟨0, 10, 17, 21⟩ : ExceptionTableEntry)] dL_task_5 (by have h9 := mX8_taskT hst ho2 ⟨_, ev3⟩; rw [ev3] at h9; exact h9) tk_739 iX8_task k1 (by decide) rfl ⟨by decide, by decide⟩ ⟨by decide, by decide⟩ (Nat.le_of_ble_eq_true rfl) rfl (fun z hz => nomatch hz) (by decide) (by decide) tk_546 tl_439 (fun q => ?_)
      refine S_astore_4 dL_task_13 rfl (by decide) ?_
      refine J_iconst (v := 1) dL_task_15 (by decide) ?_
      cases hf
      exact J_iretN dL_task_16 rfl (by decide) (by decide)
    · skip
      rcases br hf with ⟨c9, hf⟩ | ⟨c9, hf⟩
      · subst c9
        refine J_callVXc (As := [_, _]) [(⟨0, 10, 13, 13⟩ : ExceptionTableEntry)] (⟨0, 10, 17, 21⟩ : ExceptionTableEntry) [] dL_task_5 (by have h9 := mX8_taskT hst ho2 ⟨_, ev3⟩; rw [ev3] at h9; exact h9) tk_739 iX8_task k1 (by decide) rfl ⟨by decide, by decide⟩ ⟨by decide, by decide⟩ (Nat.le_of_ble_eq_true rfl) rfl (fun z hz => by rcases List.mem_singleton.mp hz with rfl; exact ⟨by decide, "java/lang/IndexOutOfBoundsException", tk_546, fun U hU => hU.2.2.2.2.2.2.1.2.1⟩) (by decide) (by decide) tk_591 tl_510 (fun q => ?_)
        refine S_astore_4 dL_task_17 rfl (by decide) ?_
        refine J_iconst (v := 2) dL_task_19 (by decide) ?_
        cases hf
        exact J_iretN dL_task_20 rfl (by decide) (by decide)
      · skip
        cases hf
theorem mL_task {g : JG} (hst : (jl g).stackTraces = false) {a0 : Nat} {x1 : Int32} {x2 : Int32} {a3 : Nat} {z : Nat} {h : AH} {o : Int32 × Nat × AH} (hf : fL_task a0 x1 x2 a3 z h = some o) : jMet g yL_task (wjH yL_task cL_task 5 (some .int) [(0, 10, 13, 13), (0, 10, 17, 21)]) rmL_task [.ref a0, .int x1, .int x2, .ref a3] z h (some (.int o.1), o.2.1, o.2.2) :=
  jMet_mkH (by decide) (Nat.le_of_ble_eq_true rfl) [some (.ref a0), some (.int x1), some (.int x2), some (.ref a3), none] rfl rfl (wfL_task hst hf)
def fL_wouldHappen  (a0 : Nat) (x1 : Int32) (x2 : Int32) (a3 : Nat) (z : Nat) (h : AH) : Option (Int32 × Nat × AH) :=
  gd (kd h a0 = 9) (bd3 (fX8_wouldHappen a0 x1 x2 z h) (fun vo2 zo2 ho2h => xr vo2 (fun v3 => gd (kd ho2h a3 = 14) (gd (¬ ((0 : Int32) < 0 ∨ ln ho2h a3 ≤ Int32.toNatClampNeg 0)) (bl (wJ ho2h a3 (Int32.toNatClampNeg 0) (Int32.toInt64 v3)) (fun h7 => some (0, zo2, h7))))) (fun x4 => (if x4 = eB then (some (1, zo2, ho2h)) else (if x4 = eS then (some (2, zo2, ho2h)) else (none))))))
theorem wfL_wouldHappen {g : JG} (hst : (jl g).stackTraces = false)   {a0 : Nat} {x1 : Int32} {x2 : Int32} {a3 : Nat} {z : Nat} {h : AH} {o : Int32 × Nat × AH} (hf : fL_wouldHappen  a0 x1 x2 a3 z h = some o) : J g ML_wouldHappen (jN g (some (.int o.1), o.2.1, o.2.2) rmL_wouldHappen.cells rmL_wouldHappen.slots) 0 [some (.ref a0), some (.int x1), some (.int x2), some (.ref a3), none] [] z h 0 0 := by
  unfold fL_wouldHappen at hf
  refine J_aload_n dL_wouldHappen_0 rfl rfl ?_
  refine J_iconst (v := 0) dL_wouldHappen_1 (by decide) ?_
  refine J_aload_n dL_wouldHappen_2 rfl rfl ?_
  refine J_iload_n dL_wouldHappen_3 rfl rfl ?_
  refine J_iload_n dL_wouldHappen_4 rfl rfl ?_
  obtain ⟨k1, hf⟩ := gds hf
  obtain ⟨vo2, zo2, ho2h, ho2, hf⟩ := rfs3 hf
  rcases xrs hf with ⟨v3, ev3, hf⟩ | ⟨x4, ev3, hf⟩
  · refine XV2i dL_wouldHappen_5 (by have h9 := mX8_wouldHappenR hst ho2 ⟨_, ev3⟩; rw [ev3] at h9; exact h9) tk_743 iX8_wouldHappen k1 (by decide) rfl ⟨by decide, by decide⟩ ⟨by decide, by decide⟩ (Nat.le_of_ble_eq_true rfl) ?_
    refine J_i2l dL_wouldHappen_8 ?_
    obtain ⟨k5, hf⟩ := gds hf
    obtain ⟨n6, hf⟩ := gds hf
    refine J_lastore dL_wouldHappen_9 k5 n6 ?_
    obtain ⟨h7, eh7, hf⟩ := bls hf
    refine J_h eh7 ?_
    refine J_goto (tgt := 21) dL_wouldHappen_10 (by decide) ?_
    refine J_iconst (v := 0) dL_wouldHappen_21 (by decide) ?_
    cases hf
    exact J_iretN dL_wouldHappen_22 rfl (by decide) (by decide)
  · skip
    rcases br hf with ⟨c8, hf⟩ | ⟨c8, hf⟩
    · subst c8
      refine J_callVXc (As := [_, _]) [] (⟨0, 10, 13, 13⟩ : ExceptionTableEntry) [(⟨0, 10, 17, 15⟩ : ExceptionTableEntry)] dL_wouldHappen_5 (by have h9 := mX8_wouldHappenT hst ho2 ⟨_, ev3⟩; rw [ev3] at h9; exact h9) tk_743 iX8_wouldHappen k1 (by decide) rfl ⟨by decide, by decide⟩ ⟨by decide, by decide⟩ (Nat.le_of_ble_eq_true rfl) rfl (fun z hz => nomatch hz) (by decide) (by decide) tk_546 tl_439 (fun q => ?_)
      refine S_astore_4 dL_wouldHappen_13 rfl (by decide) ?_
      refine J_iconst (v := 1) dL_wouldHappen_15 (by decide) ?_
      cases hf
      exact J_iretN dL_wouldHappen_16 rfl (by decide) (by decide)
    · skip
      rcases br hf with ⟨c9, hf⟩ | ⟨c9, hf⟩
      · subst c9
        refine J_callVXc (As := [_, _]) [(⟨0, 10, 13, 13⟩ : ExceptionTableEntry)] (⟨0, 10, 17, 15⟩ : ExceptionTableEntry) [] dL_wouldHappen_5 (by have h9 := mX8_wouldHappenT hst ho2 ⟨_, ev3⟩; rw [ev3] at h9; exact h9) tk_743 iX8_wouldHappen k1 (by decide) rfl ⟨by decide, by decide⟩ ⟨by decide, by decide⟩ (Nat.le_of_ble_eq_true rfl) rfl (fun z hz => by rcases List.mem_singleton.mp hz with rfl; exact ⟨by decide, "java/lang/IndexOutOfBoundsException", tk_546, fun U hU => hU.2.2.2.2.2.2.1.1⟩) (by decide) (by decide) tk_547 tl_558 (fun q => ?_)
        refine S_astore_4 dL_wouldHappen_17 rfl (by decide) ?_
        refine J_iconst (v := 2) dL_wouldHappen_19 (by decide) ?_
        cases hf
        exact J_iretN dL_wouldHappen_20 rfl (by decide) (by decide)
      · skip
        cases hf
theorem mL_wouldHappen {g : JG} (hst : (jl g).stackTraces = false) {a0 : Nat} {x1 : Int32} {x2 : Int32} {a3 : Nat} {z : Nat} {h : AH} {o : Int32 × Nat × AH} (hf : fL_wouldHappen a0 x1 x2 a3 z h = some o) : jMet g yL_wouldHappen (wjH yL_wouldHappen cL_wouldHappen 5 (some .int) [(0, 10, 13, 13), (0, 10, 17, 15)]) rmL_wouldHappen [.ref a0, .int x1, .int x2, .ref a3] z h (some (.int o.1), o.2.1, o.2.2) :=
  jMet_mkH (by decide) (Nat.le_of_ble_eq_true rfl) [some (.ref a0), some (.int x1), some (.int x2), some (.ref a3), none] rfl rfl (wfL_wouldHappen hst hf)
def fL_setPolicy  (a0 : Nat) (x1 : Int32) (a2 : Nat) (z : Nat) (h : AH) : Option (Int32 × Nat × AH) :=
  gd (kd h a0 = 9) (bd3 (fX8_setPolicy a0 x1 z h) (fun vo2 zo2 ho2h => xr vo2 (fun v3 => gd (kd ho2h a2 = 14) (gd (¬ ((0 : Int32) < 0 ∨ ln ho2h a2 ≤ Int32.toNatClampNeg 0)) (bl (wJ ho2h a2 (Int32.toNatClampNeg 0) (Int32.toInt64 v3)) (fun h7 => some (0, zo2, h7))))) (fun x4 => (if x4 = eA then (some (1, zo2, ho2h)) else (none)))))
theorem wfL_setPolicy {g : JG} (hst : (jl g).stackTraces = false)   {a0 : Nat} {x1 : Int32} {a2 : Nat} {z : Nat} {h : AH} {o : Int32 × Nat × AH} (hf : fL_setPolicy  a0 x1 a2 z h = some o) : J g ML_setPolicy (jN g (some (.int o.1), o.2.1, o.2.2) rmL_setPolicy.cells rmL_setPolicy.slots) 0 [some (.ref a0), some (.int x1), some (.ref a2), none] [] z h 0 0 := by
  unfold fL_setPolicy at hf
  refine J_aload_n dL_setPolicy_0 rfl rfl ?_
  refine J_iconst (v := 0) dL_setPolicy_1 (by decide) ?_
  refine J_aload_n dL_setPolicy_2 rfl rfl ?_
  refine J_iload_n dL_setPolicy_3 rfl rfl ?_
  obtain ⟨k1, hf⟩ := gds hf
  obtain ⟨vo2, zo2, ho2h, ho2, hf⟩ := rfs3 hf
  rcases xrs hf with ⟨v3, ev3, hf⟩ | ⟨x4, ev3, hf⟩
  · refine XV1i dL_setPolicy_4 (by have h9 := mX8_setPolicyR hst ho2 ⟨_, ev3⟩; rw [ev3] at h9; exact h9) tk_751 iX8_setPolicy k1 (by decide) rfl ⟨by decide, by decide⟩ ⟨by decide, by decide⟩ (Nat.le_of_ble_eq_true rfl) ?_
    refine J_i2l dL_setPolicy_7 ?_
    obtain ⟨k5, hf⟩ := gds hf
    obtain ⟨n6, hf⟩ := gds hf
    refine J_lastore dL_setPolicy_8 k5 n6 ?_
    obtain ⟨h7, eh7, hf⟩ := bls hf
    refine J_h eh7 ?_
    refine J_goto (tgt := 15) dL_setPolicy_9 (by decide) ?_
    refine J_iconst (v := 0) dL_setPolicy_15 (by decide) ?_
    cases hf
    exact J_iretN dL_setPolicy_16 rfl (by decide) (by decide)
  · skip
    rcases br hf with ⟨c8, hf⟩ | ⟨c8, hf⟩
    · subst c8
      refine J_callVXc (As := [_]) [] (⟨0, 9, 12, 21⟩ : ExceptionTableEntry) [] dL_setPolicy_4 (by have h9 := mX8_setPolicyT hst ho2 ⟨_, ev3⟩; rw [ev3] at h9; exact h9) tk_751 iX8_setPolicy k1 (by decide) rfl ⟨by decide, by decide⟩ ⟨by decide, by decide⟩ (Nat.le_of_ble_eq_true rfl) rfl (fun z hz => nomatch hz) (by decide) (by decide) tk_591 tl_510 (fun q => ?_)
      refine S_astore_n_3 dL_setPolicy_12 rfl (by decide) ?_
      refine J_iconst (v := 1) dL_setPolicy_13 (by decide) ?_
      cases hf
      exact J_iretN dL_setPolicy_14 rfl (by decide) (by decide)
    · skip
      cases hf
theorem mL_setPolicy {g : JG} (hst : (jl g).stackTraces = false) {a0 : Nat} {x1 : Int32} {a2 : Nat} {z : Nat} {h : AH} {o : Int32 × Nat × AH} (hf : fL_setPolicy a0 x1 a2 z h = some o) : jMet g yL_setPolicy (wjH yL_setPolicy cL_setPolicy 4 (some .int) [(0, 9, 12, 21)]) rmL_setPolicy [.ref a0, .int x1, .ref a2] z h (some (.int o.1), o.2.1, o.2.2) :=
  jMet_mkH (by decide) (Nat.le_of_ble_eq_true rfl) [some (.ref a0), some (.int x1), some (.ref a2), none] rfl rfl (wfL_setPolicy hst hf)
def fL_setRule  (a0 : Nat) (x1 : Int32) (a2 : Nat) (z : Nat) (h : AH) : Option (Int32 × Nat × AH) :=
  gd (kd h a0 = 9) (bd3 (fX8_setRule a0 x1 z h) (fun vo2 zo2 ho2h => xr vo2 (fun v3 => gd (kd ho2h a2 = 14) (gd (¬ ((0 : Int32) < 0 ∨ ln ho2h a2 ≤ Int32.toNatClampNeg 0)) (bl (wJ ho2h a2 (Int32.toNatClampNeg 0) (Int32.toInt64 v3)) (fun h7 => some (0, zo2, h7))))) (fun x4 => (if x4 = eA then (some (1, zo2, ho2h)) else (none)))))
theorem wfL_setRule {g : JG} (hst : (jl g).stackTraces = false)   {a0 : Nat} {x1 : Int32} {a2 : Nat} {z : Nat} {h : AH} {o : Int32 × Nat × AH} (hf : fL_setRule  a0 x1 a2 z h = some o) : J g ML_setRule (jN g (some (.int o.1), o.2.1, o.2.2) rmL_setRule.cells rmL_setRule.slots) 0 [some (.ref a0), some (.int x1), some (.ref a2), none] [] z h 0 0 := by
  unfold fL_setRule at hf
  refine J_aload_n dL_setRule_0 rfl rfl ?_
  refine J_iconst (v := 0) dL_setRule_1 (by decide) ?_
  refine J_aload_n dL_setRule_2 rfl rfl ?_
  refine J_iload_n dL_setRule_3 rfl rfl ?_
  obtain ⟨k1, hf⟩ := gds hf
  obtain ⟨vo2, zo2, ho2h, ho2, hf⟩ := rfs3 hf
  rcases xrs hf with ⟨v3, ev3, hf⟩ | ⟨x4, ev3, hf⟩
  · refine XV1i dL_setRule_4 (by have h9 := mX8_setRuleR hst ho2 ⟨_, ev3⟩; rw [ev3] at h9; exact h9) tk_758 iX8_setRule k1 (by decide) rfl ⟨by decide, by decide⟩ ⟨by decide, by decide⟩ (Nat.le_of_ble_eq_true rfl) ?_
    refine J_i2l dL_setRule_7 ?_
    obtain ⟨k5, hf⟩ := gds hf
    obtain ⟨n6, hf⟩ := gds hf
    refine J_lastore dL_setRule_8 k5 n6 ?_
    obtain ⟨h7, eh7, hf⟩ := bls hf
    refine J_h eh7 ?_
    refine J_goto (tgt := 15) dL_setRule_9 (by decide) ?_
    refine J_iconst (v := 0) dL_setRule_15 (by decide) ?_
    cases hf
    exact J_iretN dL_setRule_16 rfl (by decide) (by decide)
  · skip
    rcases br hf with ⟨c8, hf⟩ | ⟨c8, hf⟩
    · subst c8
      refine J_callVXc (As := [_]) [] (⟨0, 9, 12, 21⟩ : ExceptionTableEntry) [] dL_setRule_4 (by have h9 := mX8_setRuleT hst ho2 ⟨_, ev3⟩; rw [ev3] at h9; exact h9) tk_758 iX8_setRule k1 (by decide) rfl ⟨by decide, by decide⟩ ⟨by decide, by decide⟩ (Nat.le_of_ble_eq_true rfl) rfl (fun z hz => nomatch hz) (by decide) (by decide) tk_591 tl_510 (fun q => ?_)
      refine S_astore_n_3 dL_setRule_12 rfl (by decide) ?_
      refine J_iconst (v := 1) dL_setRule_13 (by decide) ?_
      cases hf
      exact J_iretN dL_setRule_14 rfl (by decide) (by decide)
    · skip
      cases hf
theorem mL_setRule {g : JG} (hst : (jl g).stackTraces = false) {a0 : Nat} {x1 : Int32} {a2 : Nat} {z : Nat} {h : AH} {o : Int32 × Nat × AH} (hf : fL_setRule a0 x1 a2 z h = some o) : jMet g yL_setRule (wjH yL_setRule cL_setRule 4 (some .int) [(0, 9, 12, 21)]) rmL_setRule [.ref a0, .int x1, .ref a2] z h (some (.int o.1), o.2.1, o.2.2) :=
  jMet_mkH (by decide) (Nat.le_of_ble_eq_true rfl) [some (.ref a0), some (.int x1), some (.ref a2), none] rfl rfl (wfL_setRule hst hf)
def fL_setBudget  (a0 : Nat) (x1 : Int32) (a2 : Nat) (z : Nat) (h : AH) : Option (Int32 × Nat × AH) :=
  gd (kd h a0 = 9) (bd3 (fX8_setBudget a0 x1 z h) (fun vo2 zo2 ho2h => xr vo2 (fun v3 => gd (kd ho2h a2 = 14) (gd (¬ ((0 : Int32) < 0 ∨ ln ho2h a2 ≤ Int32.toNatClampNeg 0)) (bl (wJ ho2h a2 (Int32.toNatClampNeg 0) (Int32.toInt64 v3)) (fun h7 => some (0, zo2, h7))))) (fun x4 => (if x4 = eA then (some (1, zo2, ho2h)) else (none)))))
theorem wfL_setBudget {g : JG} (hst : (jl g).stackTraces = false)   {a0 : Nat} {x1 : Int32} {a2 : Nat} {z : Nat} {h : AH} {o : Int32 × Nat × AH} (hf : fL_setBudget  a0 x1 a2 z h = some o) : J g ML_setBudget (jN g (some (.int o.1), o.2.1, o.2.2) rmL_setBudget.cells rmL_setBudget.slots) 0 [some (.ref a0), some (.int x1), some (.ref a2), none] [] z h 0 0 := by
  unfold fL_setBudget at hf
  refine J_aload_n dL_setBudget_0 rfl rfl ?_
  refine J_iconst (v := 0) dL_setBudget_1 (by decide) ?_
  refine J_aload_n dL_setBudget_2 rfl rfl ?_
  refine J_iload_n dL_setBudget_3 rfl rfl ?_
  obtain ⟨k1, hf⟩ := gds hf
  obtain ⟨vo2, zo2, ho2h, ho2, hf⟩ := rfs3 hf
  rcases xrs hf with ⟨v3, ev3, hf⟩ | ⟨x4, ev3, hf⟩
  · refine XV1i dL_setBudget_4 (by have h9 := mX8_setBudgetR hst ho2 ⟨_, ev3⟩; rw [ev3] at h9; exact h9) tk_765 iX8_setBudget k1 (by decide) rfl ⟨by decide, by decide⟩ ⟨by decide, by decide⟩ (Nat.le_of_ble_eq_true rfl) ?_
    refine J_i2l dL_setBudget_7 ?_
    obtain ⟨k5, hf⟩ := gds hf
    obtain ⟨n6, hf⟩ := gds hf
    refine J_lastore dL_setBudget_8 k5 n6 ?_
    obtain ⟨h7, eh7, hf⟩ := bls hf
    refine J_h eh7 ?_
    refine J_goto (tgt := 15) dL_setBudget_9 (by decide) ?_
    refine J_iconst (v := 0) dL_setBudget_15 (by decide) ?_
    cases hf
    exact J_iretN dL_setBudget_16 rfl (by decide) (by decide)
  · skip
    rcases br hf with ⟨c8, hf⟩ | ⟨c8, hf⟩
    · subst c8
      refine J_callVXc (As := [_]) [] (⟨0, 9, 12, 21⟩ : ExceptionTableEntry) [] dL_setBudget_4 (by have h9 := mX8_setBudgetT hst ho2 ⟨_, ev3⟩; rw [ev3] at h9; exact h9) tk_765 iX8_setBudget k1 (by decide) rfl ⟨by decide, by decide⟩ ⟨by decide, by decide⟩ (Nat.le_of_ble_eq_true rfl) rfl (fun z hz => nomatch hz) (by decide) (by decide) tk_591 tl_510 (fun q => ?_)
      refine S_astore_n_3 dL_setBudget_12 rfl (by decide) ?_
      refine J_iconst (v := 1) dL_setBudget_13 (by decide) ?_
      cases hf
      exact J_iretN dL_setBudget_14 rfl (by decide) (by decide)
    · skip
      cases hf
theorem mL_setBudget {g : JG} (hst : (jl g).stackTraces = false) {a0 : Nat} {x1 : Int32} {a2 : Nat} {z : Nat} {h : AH} {o : Int32 × Nat × AH} (hf : fL_setBudget a0 x1 a2 z h = some o) : jMet g yL_setBudget (wjH yL_setBudget cL_setBudget 4 (some .int) [(0, 9, 12, 21)]) rmL_setBudget [.ref a0, .int x1, .ref a2] z h (some (.int o.1), o.2.1, o.2.2) :=
  jMet_mkH (by decide) (Nat.le_of_ble_eq_true rfl) [some (.ref a0), some (.int x1), some (.ref a2), none] rfl rfl (wfL_setBudget hst hf)
def fL_probe  (a0 : Nat) (x1 : Int32) (a2 : Nat) (z : Nat) (h : AH) : Option (Int32 × Nat × AH) :=
  gd (kd h a0 = 9) (bd3 (fX8_probe a0 x1 z h) (fun vo2 zo2 ho2h => xr vo2 (fun v3 => gd (kd ho2h a2 = 14) (gd (¬ ((0 : Int32) < 0 ∨ ln ho2h a2 ≤ Int32.toNatClampNeg 0)) (bl (wJ ho2h a2 (Int32.toNatClampNeg 0) (Int32.toInt64 v3)) (fun h7 => some (0, zo2, h7))))) (fun x4 => (if x4 = eB then (some (1, zo2, ho2h)) else (if x4 = eS then (some (2, zo2, ho2h)) else (none))))))
theorem wfL_probe {g : JG} (hst : (jl g).stackTraces = false)   {a0 : Nat} {x1 : Int32} {a2 : Nat} {z : Nat} {h : AH} {o : Int32 × Nat × AH} (hf : fL_probe  a0 x1 a2 z h = some o) : J g ML_probe (jN g (some (.int o.1), o.2.1, o.2.2) rmL_probe.cells rmL_probe.slots) 0 [some (.ref a0), some (.int x1), some (.ref a2), none] [] z h 0 0 := by
  unfold fL_probe at hf
  refine J_aload_n dL_probe_0 rfl rfl ?_
  refine J_iconst (v := 0) dL_probe_1 (by decide) ?_
  refine J_aload_n dL_probe_2 rfl rfl ?_
  refine J_iload_n dL_probe_3 rfl rfl ?_
  obtain ⟨k1, hf⟩ := gds hf
  obtain ⟨vo2, zo2, ho2h, ho2, hf⟩ := rfs3 hf
  rcases xrs hf with ⟨v3, ev3, hf⟩ | ⟨x4, ev3, hf⟩
  · refine XV1i dL_probe_4 (by have h9 := mX8_probeR hst ho2 ⟨_, ev3⟩; rw [ev3] at h9; exact h9) tk_772 iX8_probe k1 (by decide) rfl ⟨by decide, by decide⟩ ⟨by decide, by decide⟩ (Nat.le_of_ble_eq_true rfl) ?_
    refine J_i2l dL_probe_7 ?_
    obtain ⟨k5, hf⟩ := gds hf
    obtain ⟨n6, hf⟩ := gds hf
    refine J_lastore dL_probe_8 k5 n6 ?_
    obtain ⟨h7, eh7, hf⟩ := bls hf
    refine J_h eh7 ?_
    refine J_goto (tgt := 18) dL_probe_9 (by decide) ?_
    refine J_iconst (v := 0) dL_probe_18 (by decide) ?_
    cases hf
    exact J_iretN dL_probe_19 rfl (by decide) (by decide)
  · skip
    rcases br hf with ⟨c8, hf⟩ | ⟨c8, hf⟩
    · subst c8
      refine J_callVXc (As := [_]) [] (⟨0, 9, 12, 13⟩ : ExceptionTableEntry) [(⟨0, 9, 15, 15⟩ : ExceptionTableEntry)] dL_probe_4 (by have h9 := mX8_probeT hst ho2 ⟨_, ev3⟩; rw [ev3] at h9; exact h9) tk_772 iX8_probe k1 (by decide) rfl ⟨by decide, by decide⟩ ⟨by decide, by decide⟩ (Nat.le_of_ble_eq_true rfl) rfl (fun z hz => nomatch hz) (by decide) (by decide) tk_546 tl_439 (fun q => ?_)
      refine S_astore_n_3 dL_probe_12 rfl (by decide) ?_
      refine J_iconst (v := 1) dL_probe_13 (by decide) ?_
      cases hf
      exact J_iretN dL_probe_14 rfl (by decide) (by decide)
    · skip
      rcases br hf with ⟨c9, hf⟩ | ⟨c9, hf⟩
      · subst c9
        refine J_callVXc (As := [_]) [(⟨0, 9, 12, 13⟩ : ExceptionTableEntry)] (⟨0, 9, 15, 15⟩ : ExceptionTableEntry) [] dL_probe_4 (by have h9 := mX8_probeT hst ho2 ⟨_, ev3⟩; rw [ev3] at h9; exact h9) tk_772 iX8_probe k1 (by decide) rfl ⟨by decide, by decide⟩ ⟨by decide, by decide⟩ (Nat.le_of_ble_eq_true rfl) rfl (fun z hz => by rcases List.mem_singleton.mp hz with rfl; exact ⟨by decide, "java/lang/IndexOutOfBoundsException", tk_546, fun U hU => hU.2.2.2.2.2.2.1.1⟩) (by decide) (by decide) tk_547 tl_558 (fun q => ?_)
        refine S_astore_n_3 dL_probe_15 rfl (by decide) ?_
        refine J_iconst (v := 2) dL_probe_16 (by decide) ?_
        cases hf
        exact J_iretN dL_probe_17 rfl (by decide) (by decide)
      · skip
        cases hf
theorem mL_probe {g : JG} (hst : (jl g).stackTraces = false) {a0 : Nat} {x1 : Int32} {a2 : Nat} {z : Nat} {h : AH} {o : Int32 × Nat × AH} (hf : fL_probe a0 x1 a2 z h = some o) : jMet g yL_probe (wjH yL_probe cL_probe 4 (some .int) [(0, 9, 12, 13), (0, 9, 15, 15)]) rmL_probe [.ref a0, .int x1, .ref a2] z h (some (.int o.1), o.2.1, o.2.2) :=
  jMet_mkH (by decide) (Nat.le_of_ble_eq_true rfl) [some (.ref a0), some (.int x1), some (.ref a2), none] rfl rfl (wfL_probe hst hf)
def fL_message  (a0 : Nat) (x1 : Int32) (x2 : Int32) (a3 : Nat) (z : Nat) (h : AH) : Option (Int32 × Nat × AH) :=
  gd (kd h a0 = 9) (bd3 (fX8_message a0 x1 x2 z h) (fun vo2 zo2 ho2h => xr vo2 (fun v3 => gd (kd ho2h a3 = 14) (gd (¬ ((0 : Int32) < 0 ∨ ln ho2h a3 ≤ Int32.toNatClampNeg 0)) (bl (wJ ho2h a3 (Int32.toNatClampNeg 0) (Int32.toInt64 v3)) (fun h7 => some (0, zo2, h7))))) (fun x4 => (if x4 = eA then (some (1, zo2, ho2h)) else (none)))))
theorem wfL_message {g : JG} (hst : (jl g).stackTraces = false)   {a0 : Nat} {x1 : Int32} {x2 : Int32} {a3 : Nat} {z : Nat} {h : AH} {o : Int32 × Nat × AH} (hf : fL_message  a0 x1 x2 a3 z h = some o) : J g ML_message (jN g (some (.int o.1), o.2.1, o.2.2) rmL_message.cells rmL_message.slots) 0 [some (.ref a0), some (.int x1), some (.int x2), some (.ref a3), none] [] z h 0 0 := by
  unfold fL_message at hf
  refine J_aload_n dL_message_0 rfl rfl ?_
  refine J_iconst (v := 0) dL_message_1 (by decide) ?_
  refine J_aload_n dL_message_2 rfl rfl ?_
  refine J_iload_n dL_message_3 rfl rfl ?_
  refine J_iload_n dL_message_4 rfl rfl ?_
  obtain ⟨k1, hf⟩ := gds hf
  obtain ⟨vo2, zo2, ho2h, ho2, hf⟩ := rfs3 hf
  rcases xrs hf with ⟨v3, ev3, hf⟩ | ⟨x4, ev3, hf⟩
  · refine XV2i dL_message_5 (by have h9 := mX8_messageR hst ho2 ⟨_, ev3⟩; rw [ev3] at h9; exact h9) tk_846 iX8_message k1 (by decide) rfl ⟨by decide, by decide⟩ ⟨by decide, by decide⟩ (Nat.le_of_ble_eq_true rfl) ?_
    refine J_i2l dL_message_8 ?_
    obtain ⟨k5, hf⟩ := gds hf
    obtain ⟨n6, hf⟩ := gds hf
    refine J_lastore dL_message_9 k5 n6 ?_
    obtain ⟨h7, eh7, hf⟩ := bls hf
    refine J_h eh7 ?_
    refine J_goto (tgt := 17) dL_message_10 (by decide) ?_
    refine J_iconst (v := 0) dL_message_17 (by decide) ?_
    cases hf
    exact J_iretN dL_message_18 rfl (by decide) (by decide)
  · skip
    rcases br hf with ⟨c8, hf⟩ | ⟨c8, hf⟩
    · subst c8
      refine J_callVXc (As := [_, _]) [] (⟨0, 10, 13, 21⟩ : ExceptionTableEntry) [] dL_message_5 (by have h9 := mX8_messageT hst ho2 ⟨_, ev3⟩; rw [ev3] at h9; exact h9) tk_846 iX8_message k1 (by decide) rfl ⟨by decide, by decide⟩ ⟨by decide, by decide⟩ (Nat.le_of_ble_eq_true rfl) rfl (fun z hz => nomatch hz) (by decide) (by decide) tk_591 tl_510 (fun q => ?_)
      refine S_astore_4 dL_message_13 rfl (by decide) ?_
      refine J_iconst (v := 1) dL_message_15 (by decide) ?_
      cases hf
      exact J_iretN dL_message_16 rfl (by decide) (by decide)
    · skip
      cases hf
theorem mL_message {g : JG} (hst : (jl g).stackTraces = false) {a0 : Nat} {x1 : Int32} {x2 : Int32} {a3 : Nat} {z : Nat} {h : AH} {o : Int32 × Nat × AH} (hf : fL_message a0 x1 x2 a3 z h = some o) : jMet g yL_message (wjH yL_message cL_message 5 (some .int) [(0, 10, 13, 21)]) rmL_message [.ref a0, .int x1, .int x2, .ref a3] z h (some (.int o.1), o.2.1, o.2.2) :=
  jMet_mkH (by decide) (Nat.le_of_ble_eq_true rfl) [some (.ref a0), some (.int x1), some (.int x2), some (.ref a3), none] rfl rfl (wfL_message hst hf)
def fL_told  (a0 : Nat) (x1 : Int32) (a2 : Nat) (z : Nat) (h : AH) : Option (Int32 × Nat × AH) :=
  gd (kd h a0 = 9) (bd3 (fX8_told a0 x1 z h) (fun vo2 zo2 ho2h => xr vo2 (fun v3 => gd (kd ho2h a2 = 14) (gd (¬ ((0 : Int32) < 0 ∨ ln ho2h a2 ≤ Int32.toNatClampNeg 0)) (bl (wJ ho2h a2 (Int32.toNatClampNeg 0) (Int32.toInt64 v3)) (fun h7 => some (0, zo2, h7))))) (fun x4 => (if x4 = eA then (some (1, zo2, ho2h)) else (none)))))
theorem wfL_told {g : JG} (hst : (jl g).stackTraces = false)   {a0 : Nat} {x1 : Int32} {a2 : Nat} {z : Nat} {h : AH} {o : Int32 × Nat × AH} (hf : fL_told  a0 x1 a2 z h = some o) : J g ML_told (jN g (some (.int o.1), o.2.1, o.2.2) rmL_told.cells rmL_told.slots) 0 [some (.ref a0), some (.int x1), some (.ref a2), none] [] z h 0 0 := by
  unfold fL_told at hf
  refine J_aload_n dL_told_0 rfl rfl ?_
  refine J_iconst (v := 0) dL_told_1 (by decide) ?_
  refine J_aload_n dL_told_2 rfl rfl ?_
  refine J_iload_n dL_told_3 rfl rfl ?_
  obtain ⟨k1, hf⟩ := gds hf
  obtain ⟨vo2, zo2, ho2h, ho2, hf⟩ := rfs3 hf
  rcases xrs hf with ⟨v3, ev3, hf⟩ | ⟨x4, ev3, hf⟩
  · refine XV1i dL_told_4 (by have h9 := mX8_toldR hst ho2 ⟨_, ev3⟩; rw [ev3] at h9; exact h9) tk_853 iX8_told k1 (by decide) rfl ⟨by decide, by decide⟩ ⟨by decide, by decide⟩ (Nat.le_of_ble_eq_true rfl) ?_
    refine J_i2l dL_told_7 ?_
    obtain ⟨k5, hf⟩ := gds hf
    obtain ⟨n6, hf⟩ := gds hf
    refine J_lastore dL_told_8 k5 n6 ?_
    obtain ⟨h7, eh7, hf⟩ := bls hf
    refine J_h eh7 ?_
    refine J_goto (tgt := 15) dL_told_9 (by decide) ?_
    refine J_iconst (v := 0) dL_told_15 (by decide) ?_
    cases hf
    exact J_iretN dL_told_16 rfl (by decide) (by decide)
  · skip
    rcases br hf with ⟨c8, hf⟩ | ⟨c8, hf⟩
    · subst c8
      refine J_callVXc (As := [_]) [] (⟨0, 9, 12, 21⟩ : ExceptionTableEntry) [] dL_told_4 (by have h9 := mX8_toldT hst ho2 ⟨_, ev3⟩; rw [ev3] at h9; exact h9) tk_853 iX8_told k1 (by decide) rfl ⟨by decide, by decide⟩ ⟨by decide, by decide⟩ (Nat.le_of_ble_eq_true rfl) rfl (fun z hz => nomatch hz) (by decide) (by decide) tk_591 tl_510 (fun q => ?_)
      refine S_astore_n_3 dL_told_12 rfl (by decide) ?_
      refine J_iconst (v := 1) dL_told_13 (by decide) ?_
      cases hf
      exact J_iretN dL_told_14 rfl (by decide) (by decide)
    · skip
      cases hf
theorem mL_told {g : JG} (hst : (jl g).stackTraces = false) {a0 : Nat} {x1 : Int32} {a2 : Nat} {z : Nat} {h : AH} {o : Int32 × Nat × AH} (hf : fL_told a0 x1 a2 z h = some o) : jMet g yL_told (wjH yL_told cL_told 4 (some .int) [(0, 9, 12, 21)]) rmL_told [.ref a0, .int x1, .ref a2] z h (some (.int o.1), o.2.1, o.2.2) :=
  jMet_mkH (by decide) (Nat.le_of_ble_eq_true rfl) [some (.ref a0), some (.int x1), some (.ref a2), none] rfl rfl (wfL_told hst hf)
def fL_shortestCycle  (a0 : Nat) (x1 : Int32) (a2 : Nat) (z : Nat) (h : AH) : Option (Int32 × Nat × AH) :=
  gd (kd h a0 = 9) (bd3 (fX8_shortestCycle a0 x1 z h) (fun vo2 zo2 ho2h => xr vo2 (fun v3 => gd (kd ho2h a2 = 14) (gd (¬ ((0 : Int32) < 0 ∨ ln ho2h a2 ≤ Int32.toNatClampNeg 0)) (bl (wJ ho2h a2 (Int32.toNatClampNeg 0) (Int32.toInt64 v3)) (fun h7 => some (0, zo2, h7))))) (fun x4 => (if x4 = eB then (some (1, zo2, ho2h)) else (none)))))
theorem wfL_shortestCycle {g : JG} (hst : (jl g).stackTraces = false)   {a0 : Nat} {x1 : Int32} {a2 : Nat} {z : Nat} {h : AH} {o : Int32 × Nat × AH} (hf : fL_shortestCycle  a0 x1 a2 z h = some o) : J g ML_shortestCycle (jN g (some (.int o.1), o.2.1, o.2.2) rmL_shortestCycle.cells rmL_shortestCycle.slots) 0 [some (.ref a0), some (.int x1), some (.ref a2), none] [] z h 0 0 := by
  unfold fL_shortestCycle at hf
  refine J_aload_n dL_shortestCycle_0 rfl rfl ?_
  refine J_iconst (v := 0) dL_shortestCycle_1 (by decide) ?_
  refine J_aload_n dL_shortestCycle_2 rfl rfl ?_
  refine J_iload_n dL_shortestCycle_3 rfl rfl ?_
  obtain ⟨k1, hf⟩ := gds hf
  obtain ⟨vo2, zo2, ho2h, ho2, hf⟩ := rfs3 hf
  rcases xrs hf with ⟨v3, ev3, hf⟩ | ⟨x4, ev3, hf⟩
  · refine XV1i dL_shortestCycle_4 (by have h9 := mX8_shortestCycleR hst ho2 ⟨_, ev3⟩; rw [ev3] at h9; exact h9) tk_860 iX8_shortestCycle k1 (by decide) rfl ⟨by decide, by decide⟩ ⟨by decide, by decide⟩ (Nat.le_of_ble_eq_true rfl) ?_
    refine J_i2l dL_shortestCycle_7 ?_
    obtain ⟨k5, hf⟩ := gds hf
    obtain ⟨n6, hf⟩ := gds hf
    refine J_lastore dL_shortestCycle_8 k5 n6 ?_
    obtain ⟨h7, eh7, hf⟩ := bls hf
    refine J_h eh7 ?_
    refine J_goto (tgt := 15) dL_shortestCycle_9 (by decide) ?_
    refine J_iconst (v := 0) dL_shortestCycle_15 (by decide) ?_
    cases hf
    exact J_iretN dL_shortestCycle_16 rfl (by decide) (by decide)
  · skip
    rcases br hf with ⟨c8, hf⟩ | ⟨c8, hf⟩
    · subst c8
      refine J_callVXc (As := [_]) [] (⟨0, 9, 12, 13⟩ : ExceptionTableEntry) [] dL_shortestCycle_4 (by have h9 := mX8_shortestCycleT hst ho2 ⟨_, ev3⟩; rw [ev3] at h9; exact h9) tk_860 iX8_shortestCycle k1 (by decide) rfl ⟨by decide, by decide⟩ ⟨by decide, by decide⟩ (Nat.le_of_ble_eq_true rfl) rfl (fun z hz => nomatch hz) (by decide) (by decide) tk_546 tl_439 (fun q => ?_)
      refine S_astore_n_3 dL_shortestCycle_12 rfl (by decide) ?_
      refine J_iconst (v := 1) dL_shortestCycle_13 (by decide) ?_
      cases hf
      exact J_iretN dL_shortestCycle_14 rfl (by decide) (by decide)
    · skip
      cases hf
theorem mL_shortestCycle {g : JG} (hst : (jl g).stackTraces = false) {a0 : Nat} {x1 : Int32} {a2 : Nat} {z : Nat} {h : AH} {o : Int32 × Nat × AH} (hf : fL_shortestCycle a0 x1 a2 z h = some o) : jMet g yL_shortestCycle (wjH yL_shortestCycle cL_shortestCycle 4 (some .int) [(0, 9, 12, 13)]) rmL_shortestCycle [.ref a0, .int x1, .ref a2] z h (some (.int o.1), o.2.1, o.2.2) :=
  jMet_mkH (by decide) (Nat.le_of_ble_eq_true rfl) [some (.ref a0), some (.int x1), some (.ref a2), none] rfl rfl (wfL_shortestCycle hst hf)
def fL_type  (a0 : Nat) (x1 : Int32) (a2 : Nat) (z : Nat) (h : AH) : Option (Int32 × Nat × AH) :=
  gd (kd h a0 = 9) (bd3 (fX8_type a0 x1 z h) (fun vo2 zo2 ho2h => xr vo2 (fun v3 => gd (kd ho2h a2 = 14) (gd (¬ ((0 : Int32) < 0 ∨ ln ho2h a2 ≤ Int32.toNatClampNeg 0)) (bl (wJ ho2h a2 (Int32.toNatClampNeg 0) (Int32.toInt64 v3)) (fun h7 => some (0, zo2, h7))))) (fun x4 => (if x4 = eA then (some (1, zo2, ho2h)) else (if x4 = eS then (some (2, zo2, ho2h)) else (none))))))
theorem wfL_type {g : JG} (hst : (jl g).stackTraces = false)   {a0 : Nat} {x1 : Int32} {a2 : Nat} {z : Nat} {h : AH} {o : Int32 × Nat × AH} (hf : fL_type  a0 x1 a2 z h = some o) : J g ML_type (jN g (some (.int o.1), o.2.1, o.2.2) rmL_type.cells rmL_type.slots) 0 [some (.ref a0), some (.int x1), some (.ref a2), none] [] z h 0 0 := by
  unfold fL_type at hf
  refine J_aload_n dL_type_0 rfl rfl ?_
  refine J_iconst (v := 0) dL_type_1 (by decide) ?_
  refine J_aload_n dL_type_2 rfl rfl ?_
  refine J_iload_n dL_type_3 rfl rfl ?_
  obtain ⟨k1, hf⟩ := gds hf
  obtain ⟨vo2, zo2, ho2h, ho2, hf⟩ := rfs3 hf
  rcases xrs hf with ⟨v3, ev3, hf⟩ | ⟨x4, ev3, hf⟩
  · refine XV1i dL_type_4 (by have h9 := mX8_typeR hst ho2 ⟨_, ev3⟩; rw [ev3] at h9; exact h9) tk_878 iX8_type k1 (by decide) rfl ⟨by decide, by decide⟩ ⟨by decide, by decide⟩ (Nat.le_of_ble_eq_true rfl) ?_
    refine J_i2l dL_type_7 ?_
    obtain ⟨k5, hf⟩ := gds hf
    obtain ⟨n6, hf⟩ := gds hf
    refine J_lastore dL_type_8 k5 n6 ?_
    obtain ⟨h7, eh7, hf⟩ := bls hf
    refine J_h eh7 ?_
    refine J_goto (tgt := 18) dL_type_9 (by decide) ?_
    refine J_iconst (v := 0) dL_type_18 (by decide) ?_
    cases hf
    exact J_iretN dL_type_19 rfl (by decide) (by decide)
  · skip
    rcases br hf with ⟨c8, hf⟩ | ⟨c8, hf⟩
    · subst c8
      refine J_callVXc (As := [_]) [] (⟨0, 9, 12, 21⟩ : ExceptionTableEntry) [(⟨0, 9, 15, 15⟩ : ExceptionTableEntry)] dL_type_4 (by have h9 := mX8_typeT hst ho2 ⟨_, ev3⟩; rw [ev3] at h9; exact h9) tk_878 iX8_type k1 (by decide) rfl ⟨by decide, by decide⟩ ⟨by decide, by decide⟩ (Nat.le_of_ble_eq_true rfl) rfl (fun z hz => nomatch hz) (by decide) (by decide) tk_591 tl_510 (fun q => ?_)
      refine S_astore_n_3 dL_type_12 rfl (by decide) ?_
      refine J_iconst (v := 1) dL_type_13 (by decide) ?_
      cases hf
      exact J_iretN dL_type_14 rfl (by decide) (by decide)
    · skip
      rcases br hf with ⟨c9, hf⟩ | ⟨c9, hf⟩
      · subst c9
        refine J_callVXc (As := [_]) [(⟨0, 9, 12, 21⟩ : ExceptionTableEntry)] (⟨0, 9, 15, 15⟩ : ExceptionTableEntry) [] dL_type_4 (by have h9 := mX8_typeT hst ho2 ⟨_, ev3⟩; rw [ev3] at h9; exact h9) tk_878 iX8_type k1 (by decide) rfl ⟨by decide, by decide⟩ ⟨by decide, by decide⟩ (Nat.le_of_ble_eq_true rfl) rfl (fun z hz => by rcases List.mem_singleton.mp hz with rfl; exact ⟨by decide, "java/lang/IllegalArgumentException", tk_591, fun U hU => hU.2.2.2.2.2.2.1.2.2⟩) (by decide) (by decide) tk_547 tl_558 (fun q => ?_)
        refine S_astore_n_3 dL_type_15 rfl (by decide) ?_
        refine J_iconst (v := 2) dL_type_16 (by decide) ?_
        cases hf
        exact J_iretN dL_type_17 rfl (by decide) (by decide)
      · skip
        cases hf
theorem mL_type {g : JG} (hst : (jl g).stackTraces = false) {a0 : Nat} {x1 : Int32} {a2 : Nat} {z : Nat} {h : AH} {o : Int32 × Nat × AH} (hf : fL_type a0 x1 a2 z h = some o) : jMet g yL_type (wjH yL_type cL_type 4 (some .int) [(0, 9, 12, 21), (0, 9, 15, 15)]) rmL_type [.ref a0, .int x1, .ref a2] z h (some (.int o.1), o.2.1, o.2.2) :=
  jMet_mkH (by decide) (Nat.le_of_ble_eq_true rfl) [some (.ref a0), some (.int x1), some (.ref a2), none] rfl rfl (wfL_type hst hf)
def fL_run  (a0 : Nat) (a1 : Nat) (z : Nat) (h : AH) : Option (Int32 × Nat × AH) :=
  gd (kd h a0 = 9) (bd3 (fX8_run a0 z h) (fun vo2 zo2 ho2h => xr vo2 (fun v3 => gd (kd ho2h a1 = 14) (gd (¬ ((0 : Int32) < 0 ∨ ln ho2h a1 ≤ Int32.toNatClampNeg 0)) (bl (wJ ho2h a1 (Int32.toNatClampNeg 0) (Int32.toInt64 v3)) (fun h7 => some (0, zo2, h7))))) (fun x4 => (if x4 = eA then (some (1, zo2, ho2h)) else (none)))))
theorem wfL_run {g : JG} (hst : (jl g).stackTraces = false)   {a0 : Nat} {a1 : Nat} {z : Nat} {h : AH} {o : Int32 × Nat × AH} (hf : fL_run  a0 a1 z h = some o) : J g ML_run (jN g (some (.int o.1), o.2.1, o.2.2) rmL_run.cells rmL_run.slots) 0 [some (.ref a0), some (.ref a1), none] [] z h 0 0 := by
  unfold fL_run at hf
  refine J_aload_n dL_run_0 rfl rfl ?_
  refine J_iconst (v := 0) dL_run_1 (by decide) ?_
  refine J_aload_n dL_run_2 rfl rfl ?_
  obtain ⟨k1, hf⟩ := gds hf
  obtain ⟨vo2, zo2, ho2h, ho2, hf⟩ := rfs3 hf
  rcases xrs hf with ⟨v3, ev3, hf⟩ | ⟨x4, ev3, hf⟩
  · refine XV0i dL_run_3 (by have h9 := mX8_runR hst ho2 ⟨_, ev3⟩; rw [ev3] at h9; exact h9) tk_889 iX8_run k1 (by decide) rfl ⟨by decide, by decide⟩ ⟨by decide, by decide⟩ (Nat.le_of_ble_eq_true rfl) ?_
    refine J_i2l dL_run_6 ?_
    obtain ⟨k5, hf⟩ := gds hf
    obtain ⟨n6, hf⟩ := gds hf
    refine J_lastore dL_run_7 k5 n6 ?_
    obtain ⟨h7, eh7, hf⟩ := bls hf
    refine J_h eh7 ?_
    refine J_goto (tgt := 14) dL_run_8 (by decide) ?_
    refine J_iconst (v := 0) dL_run_14 (by decide) ?_
    cases hf
    exact J_iretN dL_run_15 rfl (by decide) (by decide)
  · skip
    rcases br hf with ⟨c8, hf⟩ | ⟨c8, hf⟩
    · subst c8
      refine J_callVXc (As := []) [] (⟨0, 8, 11, 21⟩ : ExceptionTableEntry) [] dL_run_3 (by have h9 := mX8_runT hst ho2 ⟨_, ev3⟩; rw [ev3] at h9; exact h9) tk_889 iX8_run k1 (by decide) rfl ⟨by decide, by decide⟩ ⟨by decide, by decide⟩ (Nat.le_of_ble_eq_true rfl) rfl (fun z hz => nomatch hz) (by decide) (by decide) tk_591 tl_510 (fun q => ?_)
      refine S_astore_n_2 dL_run_11 rfl (by decide) ?_
      refine J_iconst (v := 1) dL_run_12 (by decide) ?_
      cases hf
      exact J_iretN dL_run_13 rfl (by decide) (by decide)
    · skip
      cases hf
theorem mL_run {g : JG} (hst : (jl g).stackTraces = false) {a0 : Nat} {a1 : Nat} {z : Nat} {h : AH} {o : Int32 × Nat × AH} (hf : fL_run a0 a1 z h = some o) : jMet g yL_run (wjH yL_run cL_run 3 (some .int) [(0, 8, 11, 21)]) rmL_run [.ref a0, .ref a1] z h (some (.int o.1), o.2.1, o.2.2) :=
  jMet_mkH (by decide) (Nat.le_of_ble_eq_true rfl) [some (.ref a0), some (.ref a1), none] rfl rfl (wfL_run hst hf)
def fL_undo  (a0 : Nat) (a1 : Nat) (z : Nat) (h : AH) : Option (Int32 × Nat × AH) :=
  gd (kd h a0 = 9) (bd3 (fX8_undo a0 z h) (fun vo2 zo2 ho2h => xr vo2 (fun v3 => gd (kd ho2h a1 = 14) (gd (¬ ((0 : Int32) < 0 ∨ ln ho2h a1 ≤ Int32.toNatClampNeg 0)) (bl (wJ ho2h a1 (Int32.toNatClampNeg 0) (Int32.toInt64 v3)) (fun h7 => some (0, zo2, h7))))) (fun x4 => (if x4 = eS then (some (1, zo2, ho2h)) else (none)))))
theorem wfL_undo {g : JG} (hst : (jl g).stackTraces = false)   {a0 : Nat} {a1 : Nat} {z : Nat} {h : AH} {o : Int32 × Nat × AH} (hf : fL_undo  a0 a1 z h = some o) : J g ML_undo (jN g (some (.int o.1), o.2.1, o.2.2) rmL_undo.cells rmL_undo.slots) 0 [some (.ref a0), some (.ref a1), none] [] z h 0 0 := by
  unfold fL_undo at hf
  refine J_aload_n dL_undo_0 rfl rfl ?_
  refine J_iconst (v := 0) dL_undo_1 (by decide) ?_
  refine J_aload_n dL_undo_2 rfl rfl ?_
  obtain ⟨k1, hf⟩ := gds hf
  obtain ⟨vo2, zo2, ho2h, ho2, hf⟩ := rfs3 hf
  rcases xrs hf with ⟨v3, ev3, hf⟩ | ⟨x4, ev3, hf⟩
  · refine XV0i dL_undo_3 (by have h9 := mX8_undoR hst ho2 ⟨_, ev3⟩; rw [ev3] at h9; exact h9) tk_905 iX8_undo k1 (by decide) rfl ⟨by decide, by decide⟩ ⟨by decide, by decide⟩ (Nat.le_of_ble_eq_true rfl) ?_
    refine J_i2l dL_undo_6 ?_
    obtain ⟨k5, hf⟩ := gds hf
    obtain ⟨n6, hf⟩ := gds hf
    refine J_lastore dL_undo_7 k5 n6 ?_
    obtain ⟨h7, eh7, hf⟩ := bls hf
    refine J_h eh7 ?_
    refine J_goto (tgt := 14) dL_undo_8 (by decide) ?_
    refine J_iconst (v := 0) dL_undo_14 (by decide) ?_
    cases hf
    exact J_iretN dL_undo_15 rfl (by decide) (by decide)
  · skip
    rcases br hf with ⟨c8, hf⟩ | ⟨c8, hf⟩
    · subst c8
      refine J_callVXc (As := []) [] (⟨0, 8, 11, 15⟩ : ExceptionTableEntry) [] dL_undo_3 (by have h9 := mX8_undoT hst ho2 ⟨_, ev3⟩; rw [ev3] at h9; exact h9) tk_905 iX8_undo k1 (by decide) rfl ⟨by decide, by decide⟩ ⟨by decide, by decide⟩ (Nat.le_of_ble_eq_true rfl) rfl (fun z hz => nomatch hz) (by decide) (by decide) tk_547 tl_558 (fun q => ?_)
      refine S_astore_n_2 dL_undo_11 rfl (by decide) ?_
      refine J_iconst (v := 1) dL_undo_12 (by decide) ?_
      cases hf
      exact J_iretN dL_undo_13 rfl (by decide) (by decide)
    · skip
      cases hf
theorem mL_undo {g : JG} (hst : (jl g).stackTraces = false) {a0 : Nat} {a1 : Nat} {z : Nat} {h : AH} {o : Int32 × Nat × AH} (hf : fL_undo a0 a1 z h = some o) : jMet g yL_undo (wjH yL_undo cL_undo 3 (some .int) [(0, 8, 11, 15)]) rmL_undo [.ref a0, .ref a1] z h (some (.int o.1), o.2.1, o.2.2) :=
  jMet_mkH (by decide) (Nat.le_of_ble_eq_true rfl) [some (.ref a0), some (.ref a1), none] rfl rfl (wfL_undo hst hf)
def bL_law_1716 (xs : Nat → Int32) (sl : Nat) (q23 : Nat → Nat → Nat → Nat → Int32 → Nat → AH → Option Unit) (a0 : Nat) (a1 : Nat) (a2 : Nat) (a3 : Nat) (x4 : Int32) (z : Nat) (h : AH) : Option Unit :=
  q23 a0 a1 a2 a3 (x4 + 3) z h
def bL_law_1699 (xs : Nat → Int32) (sl : Nat) (q23 : Nat → Nat → Nat → Nat → Int32 → Nat → AH → Option Unit) (a0 : Nat) (a1 : Nat) (a2 : Nat) (a3 : Nat) (x4 : Int32) (z : Nat) (h : AH) : Option Unit :=
  bL_law_1716 xs sl q23 a0 a1 a2 a3 x4 z h
def bL_law_1655 (xs : Nat → Int32) (sl : Nat) (q23 : Nat → Nat → Nat → Nat → Int32 → Nat → AH → Option Unit) (a0 : Nat) (a1 : Nat) (a2 : Nat) (a3 : Nat) (x4 : Int32) (z : Nat) (h : AH) : Option Unit :=
  bL_law_1716 xs sl q23 a0 a1 a2 a3 x4 z h
def bL_law_1585 (xs : Nat → Int32) (sl : Nat) (q23 : Nat → Nat → Nat → Nat → Int32 → Nat → AH → Option Unit) (a0 : Nat) (a1 : Nat) (a2 : Nat) (a3 : Nat) (x4 : Int32) (z : Nat) (h : AH) : Option Unit :=
  bL_law_1716 xs sl q23 a0 a1 a2 a3 x4 z h
def bL_law_1503 (xs : Nat → Int32) (sl : Nat) (q23 : Nat → Nat → Nat → Nat → Int32 → Nat → AH → Option Unit) (a0 : Nat) (a1 : Nat) (a2 : Nat) (a3 : Nat) (x4 : Int32) (z : Nat) (h : AH) : Option Unit :=
  bL_law_1716 xs sl q23 a0 a1 a2 a3 x4 z h
def bL_law_1434 (xs : Nat → Int32) (sl : Nat) (q23 : Nat → Nat → Nat → Nat → Int32 → Nat → AH → Option Unit) (a0 : Nat) (a1 : Nat) (a2 : Nat) (a3 : Nat) (x4 : Int32) (z : Nat) (h : AH) : Option Unit :=
  bL_law_1716 xs sl q23 a0 a1 a2 a3 x4 z h
def bL_law_1352 (xs : Nat → Int32) (sl : Nat) (q23 : Nat → Nat → Nat → Nat → Int32 → Nat → AH → Option Unit) (a0 : Nat) (a1 : Nat) (a2 : Nat) (a3 : Nat) (x4 : Int32) (z : Nat) (h : AH) : Option Unit :=
  bL_law_1716 xs sl q23 a0 a1 a2 a3 x4 z h
def bL_law_1296 (xs : Nat → Int32) (sl : Nat) (q23 : Nat → Nat → Nat → Nat → Int32 → Nat → AH → Option Unit) (a0 : Nat) (a1 : Nat) (a2 : Nat) (a3 : Nat) (x4 : Int32) (z : Nat) (h : AH) : Option Unit :=
  bL_law_1716 xs sl q23 a0 a1 a2 a3 x4 z h
def bL_law_1215 (xs : Nat → Int32) (sl : Nat) (q23 : Nat → Nat → Nat → Nat → Int32 → Nat → AH → Option Unit) (a0 : Nat) (a1 : Nat) (a2 : Nat) (a3 : Nat) (x4 : Int32) (z : Nat) (h : AH) : Option Unit :=
  bL_law_1716 xs sl q23 a0 a1 a2 a3 x4 z h
def bL_law_1159 (xs : Nat → Int32) (sl : Nat) (q23 : Nat → Nat → Nat → Nat → Int32 → Nat → AH → Option Unit) (a0 : Nat) (a1 : Nat) (a2 : Nat) (a3 : Nat) (x4 : Int32) (z : Nat) (h : AH) : Option Unit :=
  bL_law_1716 xs sl q23 a0 a1 a2 a3 x4 z h
def bL_law_1103 (xs : Nat → Int32) (sl : Nat) (q23 : Nat → Nat → Nat → Nat → Int32 → Nat → AH → Option Unit) (a0 : Nat) (a1 : Nat) (a2 : Nat) (a3 : Nat) (x4 : Int32) (z : Nat) (h : AH) : Option Unit :=
  bL_law_1716 xs sl q23 a0 a1 a2 a3 x4 z h
def bL_law_1047 (xs : Nat → Int32) (sl : Nat) (q23 : Nat → Nat → Nat → Nat → Int32 → Nat → AH → Option Unit) (a0 : Nat) (a1 : Nat) (a2 : Nat) (a3 : Nat) (x4 : Int32) (z : Nat) (h : AH) : Option Unit :=
  bL_law_1716 xs sl q23 a0 a1 a2 a3 x4 z h
def bL_law_991 (xs : Nat → Int32) (sl : Nat) (q23 : Nat → Nat → Nat → Nat → Int32 → Nat → AH → Option Unit) (a0 : Nat) (a1 : Nat) (a2 : Nat) (a3 : Nat) (x4 : Int32) (z : Nat) (h : AH) : Option Unit :=
  bL_law_1716 xs sl q23 a0 a1 a2 a3 x4 z h
def bL_law_935 (xs : Nat → Int32) (sl : Nat) (q23 : Nat → Nat → Nat → Nat → Int32 → Nat → AH → Option Unit) (a0 : Nat) (a1 : Nat) (a2 : Nat) (a3 : Nat) (x4 : Int32) (z : Nat) (h : AH) : Option Unit :=
  bL_law_1716 xs sl q23 a0 a1 a2 a3 x4 z h
def bL_law_842 (xs : Nat → Int32) (sl : Nat) (q23 : Nat → Nat → Nat → Nat → Int32 → Nat → AH → Option Unit) (a0 : Nat) (a1 : Nat) (a2 : Nat) (a3 : Nat) (x4 : Int32) (z : Nat) (h : AH) : Option Unit :=
  bL_law_1716 xs sl q23 a0 a1 a2 a3 x4 z h
def bL_law_761 (xs : Nat → Int32) (sl : Nat) (q23 : Nat → Nat → Nat → Nat → Int32 → Nat → AH → Option Unit) (a0 : Nat) (a1 : Nat) (a2 : Nat) (a3 : Nat) (x4 : Int32) (z : Nat) (h : AH) : Option Unit :=
  bL_law_1716 xs sl q23 a0 a1 a2 a3 x4 z h
def bL_law_705 (xs : Nat → Int32) (sl : Nat) (q23 : Nat → Nat → Nat → Nat → Int32 → Nat → AH → Option Unit) (a0 : Nat) (a1 : Nat) (a2 : Nat) (a3 : Nat) (x4 : Int32) (z : Nat) (h : AH) : Option Unit :=
  bL_law_1716 xs sl q23 a0 a1 a2 a3 x4 z h
def bL_law_649 (xs : Nat → Int32) (sl : Nat) (q23 : Nat → Nat → Nat → Nat → Int32 → Nat → AH → Option Unit) (a0 : Nat) (a1 : Nat) (a2 : Nat) (a3 : Nat) (x4 : Int32) (z : Nat) (h : AH) : Option Unit :=
  bL_law_1716 xs sl q23 a0 a1 a2 a3 x4 z h
def bL_law_593 (xs : Nat → Int32) (sl : Nat) (q23 : Nat → Nat → Nat → Nat → Int32 → Nat → AH → Option Unit) (a0 : Nat) (a1 : Nat) (a2 : Nat) (a3 : Nat) (x4 : Int32) (z : Nat) (h : AH) : Option Unit :=
  bL_law_1716 xs sl q23 a0 a1 a2 a3 x4 z h
def bL_law_525 (xs : Nat → Int32) (sl : Nat) (q23 : Nat → Nat → Nat → Nat → Int32 → Nat → AH → Option Unit) (a0 : Nat) (a1 : Nat) (a2 : Nat) (a3 : Nat) (x4 : Int32) (z : Nat) (h : AH) : Option Unit :=
  bL_law_1716 xs sl q23 a0 a1 a2 a3 x4 z h
def bL_law_457 (xs : Nat → Int32) (sl : Nat) (q23 : Nat → Nat → Nat → Nat → Int32 → Nat → AH → Option Unit) (a0 : Nat) (a1 : Nat) (a2 : Nat) (a3 : Nat) (x4 : Int32) (z : Nat) (h : AH) : Option Unit :=
  bL_law_1716 xs sl q23 a0 a1 a2 a3 x4 z h
def bL_law_401 (xs : Nat → Int32) (sl : Nat) (q23 : Nat → Nat → Nat → Nat → Int32 → Nat → AH → Option Unit) (a0 : Nat) (a1 : Nat) (a2 : Nat) (a3 : Nat) (x4 : Int32) (z : Nat) (h : AH) : Option Unit :=
  bL_law_1716 xs sl q23 a0 a1 a2 a3 x4 z h
def bL_law_395 (xs : Nat → Int32) (sl : Nat) (q23 : Nat → Nat → Nat → Nat → Int32 → Nat → AH → Option Unit) (a0 : Nat) (a1 : Nat) (a2 : Nat) (a3 : Nat) (x4 : Int32) (t0 : Int64) (t1 : Int64) (z : Nat) (h : AH) : Option Unit :=
  (if (lg_cmp t0 t1) = 0 then (bL_law_401 xs sl q23 a0 a1 a2 a3 x4 z h) else (none))
def bL_law_326 (xs : Nat → Int32) (sl : Nat) (q23 : Nat → Nat → Nat → Nat → Int32 → Nat → AH → Option Unit) (a0 : Nat) (a1 : Nat) (a2 : Nat) (a3 : Nat) (x4 : Int32) (z : Nat) (h : AH) : Option Unit :=
  bL_law_1716 xs sl q23 a0 a1 a2 a3 x4 z h
def bL_law_245 (xs : Nat → Int32) (sl : Nat) (q23 : Nat → Nat → Nat → Nat → Int32 → Nat → AH → Option Unit) (a0 : Nat) (a1 : Nat) (a2 : Nat) (a3 : Nat) (x4 : Int32) (z : Nat) (h : AH) : Option Unit :=
  bL_law_1716 xs sl q23 a0 a1 a2 a3 x4 z h
def lL_law_23B (xs : Nat → Int32) (sl : Nat) (q23 : Nat → Nat → Nat → Nat → Int32 → Nat → AH → Option Unit) (a0 : Nat) (a1 : Nat) (a2 : Nat) (a3 : Nat) (x4 : Int32) (z : Nat) (h : AH) : Option Unit :=
  (if ((Int32.ofNat sl) - 3) < x4 then (some ()) else (gd (¬ ((x4 : Int32) < 0 ∨ sl ≤ Int32.toNatClampNeg x4)) ((if ((xs (Int32.toNatClampNeg x4)) &&& 63) = 0 then (gd (¬ (((x4 + 1) : Int32) < 0 ∨ sl ≤ Int32.toNatClampNeg (x4 + 1))) (bd3 (fL_addResource a1 (xs (Int32.toNatClampNeg (x4 + 1))) a3 z h) (fun vo5 zo5 ho5h => gd (¬ (((x4 + 1) : Int32) < 0 ∨ sl ≤ Int32.toNatClampNeg (x4 + 1))) (gd (kd ho5h a2 = 10) (bd3 (fX9_addResource a2 (xs (Int32.toNatClampNeg (x4 + 1))) zo5 ho5h) (fun vo8 zo8 ho8h => gd (kd ho8h a2 = 10) (bd3 (fX9_thrown a2 zo8 ho8h) (fun vo10 zo10 ho10h => (if vo10 = vo5 then ((if vo5 = 0 then (gd (kd ho10h a3 = 14) (gd (¬ ((0 : Int32) < 0 ∨ ln ho10h a3 ≤ Int32.toNatClampNeg 0)) ((if (lg_cmp (jv ho10h a3 (Int32.toNatClampNeg 0)) (Int32.toInt64 vo8)) = 0 then (bL_law_245 xs sl q23 a0 a1 a2 a3 x4 zo10 ho10h) else (none))))) else (bL_law_245 xs sl q23 a0 a1 a2 a3 x4 zo10 ho10h))) else (none)))))))))) else (if ((xs (Int32.toNatClampNeg x4)) &&& 63) = 1 then (gd (kd h a1 = 9) (bd3 (fX8_resources a1 z h) (fun vo18 zo18 ho18h => gd (kd ho18h a2 = 10) (bd3 (fX9_resources a2 zo18 ho18h) (fun vo20 zo20 ho20h => (if vo18 = vo20 then (bL_law_1716 xs sl q23 a0 a1 a2 a3 x4 zo20 ho20h) else (none))))))) else (if ((xs (Int32.toNatClampNeg x4)) &&& 63) = 2 then (gd (¬ (((x4 + 1) : Int32) < 0 ∨ sl ≤ Int32.toNatClampNeg (x4 + 1))) (gd (¬ (((x4 + 2) : Int32) < 0 ∨ sl ≤ Int32.toNatClampNeg (x4 + 2))) (bd3 (fL_resource a1 (xs (Int32.toNatClampNeg (x4 + 1))) (xs (Int32.toNatClampNeg (x4 + 2))) a3 z h) (fun vo25 zo25 ho25h => gd (¬ (((x4 + 1) : Int32) < 0 ∨ sl ≤ Int32.toNatClampNeg (x4 + 1))) (gd (¬ (((x4 + 2) : Int32) < 0 ∨ sl ≤ Int32.toNatClampNeg (x4 + 2))) (gd (kd ho25h a2 = 10) (bd3 (fX9_resource a2 (xs (Int32.toNatClampNeg (x4 + 1))) (xs (Int32.toNatClampNeg (x4 + 2))) zo25 ho25h) (fun vo29 zo29 ho29h => gd (kd ho29h a2 = 10) (bd3 (fX9_thrown a2 zo29 ho29h) (fun vo31 zo31 ho31h => (if vo31 = vo25 then ((if vo25 = 0 then (gd (kd ho31h a3 = 14) (gd (¬ ((0 : Int32) < 0 ∨ ln ho31h a3 ≤ Int32.toNatClampNeg 0)) ((if (lg_cmp (jv ho31h a3 (Int32.toNatClampNeg 0)) (Int32.toInt64 vo29)) = 0 then (bL_law_326 xs sl q23 a0 a1 a2 a3 x4 zo31 ho31h) else (none))))) else (bL_law_326 xs sl q23 a0 a1 a2 a3 x4 zo31 ho31h))) else (none)))))))))))) else (if ((xs (Int32.toNatClampNeg x4)) &&& 63) = 3 then (gd (¬ (((x4 + 1) : Int32) < 0 ∨ sl ≤ Int32.toNatClampNeg (x4 + 1))) (gd (¬ (((x4 + 2) : Int32) < 0 ∨ sl ≤ Int32.toNatClampNeg (x4 + 2))) (bd3 (fL_overlap a1 (xs (Int32.toNatClampNeg (x4 + 1))) (xs (Int32.toNatClampNeg (x4 + 2))) a3 z h) (fun vo40 zo40 ho40h => gd (¬ (((x4 + 1) : Int32) < 0 ∨ sl ≤ Int32.toNatClampNeg (x4 + 1))) (gd (¬ (((x4 + 2) : Int32) < 0 ∨ sl ≤ Int32.toNatClampNeg (x4 + 2))) (gd (kd ho40h a2 = 10) (bd3 (fX9_overlap a2 (xs (Int32.toNatClampNeg (x4 + 1))) (xs (Int32.toNatClampNeg (x4 + 2))) zo40 ho40h) (fun vo44 zo44 ho44h => gd (kd ho44h a2 = 10) (bd3 (fX9_thrown a2 zo44 ho44h) (fun vo46 zo46 ho46h => (if vo46 = vo40 then ((if vo40 = 0 then (gd (kd ho46h a3 = 14) (gd (¬ ((0 : Int32) < 0 ∨ ln ho46h a3 ≤ Int32.toNatClampNeg 0)) ((if vo44 = 0 then (bL_law_395 xs sl q23 a0 a1 a2 a3 x4 (jv ho46h a3 (Int32.toNatClampNeg 0)) 0 zo46 ho46h) else (bL_law_395 xs sl q23 a0 a1 a2 a3 x4 (jv ho46h a3 (Int32.toNatClampNeg 0)) 1 zo46 ho46h))))) else (bL_law_401 xs sl q23 a0 a1 a2 a3 x4 zo46 ho46h))) else (none)))))))))))) else (if ((xs (Int32.toNatClampNeg x4)) &&& 63) = 4 then (gd (¬ (((x4 + 1) : Int32) < 0 ∨ sl ≤ Int32.toNatClampNeg (x4 + 1))) (bd3 (fL_create a1 (xs (Int32.toNatClampNeg (x4 + 1))) a3 z h) (fun vo54 zo54 ho54h => gd (¬ (((x4 + 1) : Int32) < 0 ∨ sl ≤ Int32.toNatClampNeg (x4 + 1))) (gd (kd ho54h a2 = 10) (bd3 (fX9_create a2 (xs (Int32.toNatClampNeg (x4 + 1))) zo54 ho54h) (fun vo57 zo57 ho57h => gd (kd ho57h a2 = 10) (bd3 (fX9_thrown a2 zo57 ho57h) (fun vo59 zo59 ho59h => (if vo59 = vo54 then ((if vo54 = 0 then (gd (kd ho59h a3 = 14) (gd (¬ ((0 : Int32) < 0 ∨ ln ho59h a3 ≤ Int32.toNatClampNeg 0)) ((if (lg_cmp (jv ho59h a3 (Int32.toNatClampNeg 0)) (Int32.toInt64 vo57)) = 0 then (bL_law_457 xs sl q23 a0 a1 a2 a3 x4 zo59 ho59h) else (none))))) else (bL_law_457 xs sl q23 a0 a1 a2 a3 x4 zo59 ho59h))) else (none)))))))))) else (if ((xs (Int32.toNatClampNeg x4)) &&& 63) = 5 then (gd (¬ (((x4 + 1) : Int32) < 0 ∨ sl ≤ Int32.toNatClampNeg (x4 + 1))) (gd (¬ (((x4 + 2) : Int32) < 0 ∨ sl ≤ Int32.toNatClampNeg (x4 + 2))) (bd3 (fL_request a1 (xs (Int32.toNatClampNeg (x4 + 1))) (xs (Int32.toNatClampNeg (x4 + 2))) a3 z h) (fun vo68 zo68 ho68h => gd (¬ (((x4 + 1) : Int32) < 0 ∨ sl ≤ Int32.toNatClampNeg (x4 + 1))) (gd (¬ (((x4 + 2) : Int32) < 0 ∨ sl ≤ Int32.toNatClampNeg (x4 + 2))) (gd (kd ho68h a2 = 10) (bd3 (fX9_request a2 (xs (Int32.toNatClampNeg (x4 + 1))) (xs (Int32.toNatClampNeg (x4 + 2))) zo68 ho68h) (fun vo72 zo72 ho72h => gd (kd ho72h a2 = 10) (bd3 (fX9_thrown a2 zo72 ho72h) (fun vo74 zo74 ho74h => (if vo74 = vo68 then ((if vo68 = 0 then (gd (kd ho74h a3 = 14) (gd (¬ ((0 : Int32) < 0 ∨ ln ho74h a3 ≤ Int32.toNatClampNeg 0)) ((if (lg_cmp (jv ho74h a3 (Int32.toNatClampNeg 0)) (Int32.toInt64 vo72)) = 0 then (bL_law_525 xs sl q23 a0 a1 a2 a3 x4 zo74 ho74h) else (none))))) else (bL_law_525 xs sl q23 a0 a1 a2 a3 x4 zo74 ho74h))) else (none)))))))))))) else (if ((xs (Int32.toNatClampNeg x4)) &&& 63) = 6 then (gd (¬ (((x4 + 1) : Int32) < 0 ∨ sl ≤ Int32.toNatClampNeg (x4 + 1))) (gd (¬ (((x4 + 2) : Int32) < 0 ∨ sl ≤ Int32.toNatClampNeg (x4 + 2))) (bd3 (fL_release a1 (xs (Int32.toNatClampNeg (x4 + 1))) (xs (Int32.toNatClampNeg (x4 + 2))) a3 z h) (fun vo83 zo83 ho83h => gd (¬ (((x4 + 1) : Int32) < 0 ∨ sl ≤ Int32.toNatClampNeg (x4 + 1))) (gd (¬ (((x4 + 2) : Int32) < 0 ∨ sl ≤ Int32.toNatClampNeg (x4 + 2))) (gd (kd ho83h a2 = 10) (bd3 (fX9_release a2 (xs (Int32.toNatClampNeg (x4 + 1))) (xs (Int32.toNatClampNeg (x4 + 2))) zo83 ho83h) (fun vo87 zo87 ho87h => gd (kd ho87h a2 = 10) (bd3 (fX9_thrown a2 zo87 ho87h) (fun vo89 zo89 ho89h => (if vo89 = vo83 then ((if vo83 = 0 then (gd (kd ho89h a3 = 14) (gd (¬ ((0 : Int32) < 0 ∨ ln ho89h a3 ≤ Int32.toNatClampNeg 0)) ((if (lg_cmp (jv ho89h a3 (Int32.toNatClampNeg 0)) (Int32.toInt64 vo87)) = 0 then (bL_law_593 xs sl q23 a0 a1 a2 a3 x4 zo89 ho89h) else (none))))) else (bL_law_593 xs sl q23 a0 a1 a2 a3 x4 zo89 ho89h))) else (none)))))))))))) else (if ((xs (Int32.toNatClampNeg x4)) &&& 63) = 7 then (gd (¬ (((x4 + 1) : Int32) < 0 ∨ sl ≤ Int32.toNatClampNeg (x4 + 1))) (bd3 (fL_finish a1 (xs (Int32.toNatClampNeg (x4 + 1))) a3 z h) (fun vo97 zo97 ho97h => gd (¬ (((x4 + 1) : Int32) < 0 ∨ sl ≤ Int32.toNatClampNeg (x4 + 1))) (gd (kd ho97h a2 = 10) (bd3 (fX9_finish a2 (xs (Int32.toNatClampNeg (x4 + 1))) zo97 ho97h) (fun vo100 zo100 ho100h => gd (kd ho100h a2 = 10) (bd3 (fX9_thrown a2 zo100 ho100h) (fun vo102 zo102 ho102h => (if vo102 = vo97 then ((if vo97 = 0 then (gd (kd ho102h a3 = 14) (gd (¬ ((0 : Int32) < 0 ∨ ln ho102h a3 ≤ Int32.toNatClampNeg 0)) ((if (lg_cmp (jv ho102h a3 (Int32.toNatClampNeg 0)) (Int32.toInt64 vo100)) = 0 then (bL_law_649 xs sl q23 a0 a1 a2 a3 x4 zo102 ho102h) else (none))))) else (bL_law_649 xs sl q23 a0 a1 a2 a3 x4 zo102 ho102h))) else (none)))))))))) else (if ((xs (Int32.toNatClampNeg x4)) &&& 63) = 8 then (gd (¬ (((x4 + 1) : Int32) < 0 ∨ sl ≤ Int32.toNatClampNeg (x4 + 1))) (bd3 (fL_abort a1 (xs (Int32.toNatClampNeg (x4 + 1))) a3 z h) (fun vo110 zo110 ho110h => gd (¬ (((x4 + 1) : Int32) < 0 ∨ sl ≤ Int32.toNatClampNeg (x4 + 1))) (gd (kd ho110h a2 = 10) (bd3 (fX9_abort a2 (xs (Int32.toNatClampNeg (x4 + 1))) zo110 ho110h) (fun vo113 zo113 ho113h => gd (kd ho113h a2 = 10) (bd3 (fX9_thrown a2 zo113 ho113h) (fun vo115 zo115 ho115h => (if vo115 = vo110 then ((if vo110 = 0 then (gd (kd ho115h a3 = 14) (gd (¬ ((0 : Int32) < 0 ∨ ln ho115h a3 ≤ Int32.toNatClampNeg 0)) ((if (lg_cmp (jv ho115h a3 (Int32.toNatClampNeg 0)) (Int32.toInt64 vo113)) = 0 then (bL_law_705 xs sl q23 a0 a1 a2 a3 x4 zo115 ho115h) else (none))))) else (bL_law_705 xs sl q23 a0 a1 a2 a3 x4 zo115 ho115h))) else (none)))))))))) else (if ((xs (Int32.toNatClampNeg x4)) &&& 63) = 9 then (gd (¬ (((x4 + 1) : Int32) < 0 ∨ sl ≤ Int32.toNatClampNeg (x4 + 1))) (bd3 (fL_restart a1 (xs (Int32.toNatClampNeg (x4 + 1))) a3 z h) (fun vo123 zo123 ho123h => gd (¬ (((x4 + 1) : Int32) < 0 ∨ sl ≤ Int32.toNatClampNeg (x4 + 1))) (gd (kd ho123h a2 = 10) (bd3 (fX9_restart a2 (xs (Int32.toNatClampNeg (x4 + 1))) zo123 ho123h) (fun vo126 zo126 ho126h => gd (kd ho126h a2 = 10) (bd3 (fX9_thrown a2 zo126 ho126h) (fun vo128 zo128 ho128h => (if vo128 = vo123 then ((if vo123 = 0 then (gd (kd ho128h a3 = 14) (gd (¬ ((0 : Int32) < 0 ∨ ln ho128h a3 ≤ Int32.toNatClampNeg 0)) ((if (lg_cmp (jv ho128h a3 (Int32.toNatClampNeg 0)) (Int32.toInt64 vo126)) = 0 then (bL_law_761 xs sl q23 a0 a1 a2 a3 x4 zo128 ho128h) else (none))))) else (bL_law_761 xs sl q23 a0 a1 a2 a3 x4 zo128 ho128h))) else (none)))))))))) else (if ((xs (Int32.toNatClampNeg x4)) &&& 63) = 10 then (gd (kd h a1 = 9) (bd3 (fX8_tasks a1 z h) (fun vo136 zo136 ho136h => gd (kd ho136h a2 = 10) (bd3 (fX9_tasks a2 zo136 ho136h) (fun vo138 zo138 ho138h => (if vo136 = vo138 then (bL_law_1716 xs sl q23 a0 a1 a2 a3 x4 zo138 ho138h) else (none))))))) else (if ((xs (Int32.toNatClampNeg x4)) &&& 63) = 11 then (gd (¬ (((x4 + 1) : Int32) < 0 ∨ sl ≤ Int32.toNatClampNeg (x4 + 1))) (gd (¬ (((x4 + 2) : Int32) < 0 ∨ sl ≤ Int32.toNatClampNeg (x4 + 2))) (bd3 (fL_task a1 (xs (Int32.toNatClampNeg (x4 + 1))) (xs (Int32.toNatClampNeg (x4 + 2))) a3 z h) (fun vo143 zo143 ho143h => gd (¬ (((x4 + 1) : Int32) < 0 ∨ sl ≤ Int32.toNatClampNeg (x4 + 1))) (gd (¬ (((x4 + 2) : Int32) < 0 ∨ sl ≤ Int32.toNatClampNeg (x4 + 2))) (gd (kd ho143h a2 = 10) (bd3 (fX9_task a2 (xs (Int32.toNatClampNeg (x4 + 1))) (xs (Int32.toNatClampNeg (x4 + 2))) zo143 ho143h) (fun vo147 zo147 ho147h => gd (kd ho147h a2 = 10) (bd3 (fX9_thrown a2 zo147 ho147h) (fun vo149 zo149 ho149h => (if vo149 = vo143 then ((if vo143 = 0 then (gd (kd ho149h a3 = 14) (gd (¬ ((0 : Int32) < 0 ∨ ln ho149h a3 ≤ Int32.toNatClampNeg 0)) ((if (lg_cmp (jv ho149h a3 (Int32.toNatClampNeg 0)) (Int32.toInt64 vo147)) = 0 then (bL_law_842 xs sl q23 a0 a1 a2 a3 x4 zo149 ho149h) else (none))))) else (bL_law_842 xs sl q23 a0 a1 a2 a3 x4 zo149 ho149h))) else (none)))))))))))) else (if ((xs (Int32.toNatClampNeg x4)) &&& 63) = 12 then (gd (¬ (((x4 + 1) : Int32) < 0 ∨ sl ≤ Int32.toNatClampNeg (x4 + 1))) (gd (kd h a1 = 9) (bd3 (fX8_waiting a1 (xs (Int32.toNatClampNeg (x4 + 1))) z h) (fun vo158 zo158 ho158h => gd (¬ (((x4 + 1) : Int32) < 0 ∨ sl ≤ Int32.toNatClampNeg (x4 + 1))) (gd (kd ho158h a2 = 10) (bd3 (fX9_waiting a2 (xs (Int32.toNatClampNeg (x4 + 1))) zo158 ho158h) (fun vo161 zo161 ho161h => (if vo158 = vo161 then (bL_law_1716 xs sl q23 a0 a1 a2 a3 x4 zo161 ho161h) else (none))))))))) else (if ((xs (Int32.toNatClampNeg x4)) &&& 63) = 13 then (gd (¬ (((x4 + 1) : Int32) < 0 ∨ sl ≤ Int32.toNatClampNeg (x4 + 1))) (gd (¬ (((x4 + 2) : Int32) < 0 ∨ sl ≤ Int32.toNatClampNeg (x4 + 2))) (bd3 (fL_wouldHappen a1 (xs (Int32.toNatClampNeg (x4 + 1))) (xs (Int32.toNatClampNeg (x4 + 2))) a3 z h) (fun vo166 zo166 ho166h => gd (¬ (((x4 + 1) : Int32) < 0 ∨ sl ≤ Int32.toNatClampNeg (x4 + 1))) (gd (¬ (((x4 + 2) : Int32) < 0 ∨ sl ≤ Int32.toNatClampNeg (x4 + 2))) (gd (kd ho166h a2 = 10) (bd3 (fX9_wouldHappen a2 (xs (Int32.toNatClampNeg (x4 + 1))) (xs (Int32.toNatClampNeg (x4 + 2))) zo166 ho166h) (fun vo170 zo170 ho170h => gd (kd ho170h a2 = 10) (bd3 (fX9_thrown a2 zo170 ho170h) (fun vo172 zo172 ho172h => (if vo172 = vo166 then ((if vo166 = 0 then (gd (kd ho172h a3 = 14) (gd (¬ ((0 : Int32) < 0 ∨ ln ho172h a3 ≤ Int32.toNatClampNeg 0)) ((if (lg_cmp (jv ho172h a3 (Int32.toNatClampNeg 0)) (Int32.toInt64 vo170)) = 0 then (bL_law_935 xs sl q23 a0 a1 a2 a3 x4 zo172 ho172h) else (none))))) else (bL_law_935 xs sl q23 a0 a1 a2 a3 x4 zo172 ho172h))) else (none)))))))))))) else (if ((xs (Int32.toNatClampNeg x4)) &&& 63) = 14 then (gd (¬ (((x4 + 1) : Int32) < 0 ∨ sl ≤ Int32.toNatClampNeg (x4 + 1))) (bd3 (fL_setPolicy a1 (xs (Int32.toNatClampNeg (x4 + 1))) a3 z h) (fun vo180 zo180 ho180h => gd (¬ (((x4 + 1) : Int32) < 0 ∨ sl ≤ Int32.toNatClampNeg (x4 + 1))) (gd (kd ho180h a2 = 10) (bd3 (fX9_setPolicy a2 (xs (Int32.toNatClampNeg (x4 + 1))) zo180 ho180h) (fun vo183 zo183 ho183h => gd (kd ho183h a2 = 10) (bd3 (fX9_thrown a2 zo183 ho183h) (fun vo185 zo185 ho185h => (if vo185 = vo180 then ((if vo180 = 0 then (gd (kd ho185h a3 = 14) (gd (¬ ((0 : Int32) < 0 ∨ ln ho185h a3 ≤ Int32.toNatClampNeg 0)) ((if (lg_cmp (jv ho185h a3 (Int32.toNatClampNeg 0)) (Int32.toInt64 vo183)) = 0 then (bL_law_991 xs sl q23 a0 a1 a2 a3 x4 zo185 ho185h) else (none))))) else (bL_law_991 xs sl q23 a0 a1 a2 a3 x4 zo185 ho185h))) else (none)))))))))) else (if ((xs (Int32.toNatClampNeg x4)) &&& 63) = 15 then (gd (¬ (((x4 + 1) : Int32) < 0 ∨ sl ≤ Int32.toNatClampNeg (x4 + 1))) (bd3 (fL_setRule a1 (xs (Int32.toNatClampNeg (x4 + 1))) a3 z h) (fun vo193 zo193 ho193h => gd (¬ (((x4 + 1) : Int32) < 0 ∨ sl ≤ Int32.toNatClampNeg (x4 + 1))) (gd (kd ho193h a2 = 10) (bd3 (fX9_setRule a2 (xs (Int32.toNatClampNeg (x4 + 1))) zo193 ho193h) (fun vo196 zo196 ho196h => gd (kd ho196h a2 = 10) (bd3 (fX9_thrown a2 zo196 ho196h) (fun vo198 zo198 ho198h => (if vo198 = vo193 then ((if vo193 = 0 then (gd (kd ho198h a3 = 14) (gd (¬ ((0 : Int32) < 0 ∨ ln ho198h a3 ≤ Int32.toNatClampNeg 0)) ((if (lg_cmp (jv ho198h a3 (Int32.toNatClampNeg 0)) (Int32.toInt64 vo196)) = 0 then (bL_law_1047 xs sl q23 a0 a1 a2 a3 x4 zo198 ho198h) else (none))))) else (bL_law_1047 xs sl q23 a0 a1 a2 a3 x4 zo198 ho198h))) else (none)))))))))) else (if ((xs (Int32.toNatClampNeg x4)) &&& 63) = 16 then (gd (¬ (((x4 + 1) : Int32) < 0 ∨ sl ≤ Int32.toNatClampNeg (x4 + 1))) (bd3 (fL_setBudget a1 (xs (Int32.toNatClampNeg (x4 + 1))) a3 z h) (fun vo206 zo206 ho206h => gd (¬ (((x4 + 1) : Int32) < 0 ∨ sl ≤ Int32.toNatClampNeg (x4 + 1))) (gd (kd ho206h a2 = 10) (bd3 (fX9_setBudget a2 (xs (Int32.toNatClampNeg (x4 + 1))) zo206 ho206h) (fun vo209 zo209 ho209h => gd (kd ho209h a2 = 10) (bd3 (fX9_thrown a2 zo209 ho209h) (fun vo211 zo211 ho211h => (if vo211 = vo206 then ((if vo206 = 0 then (gd (kd ho211h a3 = 14) (gd (¬ ((0 : Int32) < 0 ∨ ln ho211h a3 ≤ Int32.toNatClampNeg 0)) ((if (lg_cmp (jv ho211h a3 (Int32.toNatClampNeg 0)) (Int32.toInt64 vo209)) = 0 then (bL_law_1103 xs sl q23 a0 a1 a2 a3 x4 zo211 ho211h) else (none))))) else (bL_law_1103 xs sl q23 a0 a1 a2 a3 x4 zo211 ho211h))) else (none)))))))))) else (if ((xs (Int32.toNatClampNeg x4)) &&& 63) = 17 then (gd (¬ (((x4 + 1) : Int32) < 0 ∨ sl ≤ Int32.toNatClampNeg (x4 + 1))) (bd3 (fL_probe a1 (xs (Int32.toNatClampNeg (x4 + 1))) a3 z h) (fun vo219 zo219 ho219h => gd (¬ (((x4 + 1) : Int32) < 0 ∨ sl ≤ Int32.toNatClampNeg (x4 + 1))) (gd (kd ho219h a2 = 10) (bd3 (fX9_probe a2 (xs (Int32.toNatClampNeg (x4 + 1))) zo219 ho219h) (fun vo222 zo222 ho222h => gd (kd ho222h a2 = 10) (bd3 (fX9_thrown a2 zo222 ho222h) (fun vo224 zo224 ho224h => (if vo224 = vo219 then ((if vo219 = 0 then (gd (kd ho224h a3 = 14) (gd (¬ ((0 : Int32) < 0 ∨ ln ho224h a3 ≤ Int32.toNatClampNeg 0)) ((if (lg_cmp (jv ho224h a3 (Int32.toNatClampNeg 0)) (Int32.toInt64 vo222)) = 0 then (bL_law_1159 xs sl q23 a0 a1 a2 a3 x4 zo224 ho224h) else (none))))) else (bL_law_1159 xs sl q23 a0 a1 a2 a3 x4 zo224 ho224h))) else (none)))))))))) else (if ((xs (Int32.toNatClampNeg x4)) &&& 63) = 18 then (gd (¬ (((x4 + 1) : Int32) < 0 ∨ sl ≤ Int32.toNatClampNeg (x4 + 1))) (bd3 (fL_deliver a1 (xs (Int32.toNatClampNeg (x4 + 1))) a3 z h) (fun vo232 zo232 ho232h => gd (¬ (((x4 + 1) : Int32) < 0 ∨ sl ≤ Int32.toNatClampNeg (x4 + 1))) (gd (kd ho232h a2 = 10) (bd3 (fX9_deliver a2 (xs (Int32.toNatClampNeg (x4 + 1))) zo232 ho232h) (fun vo235 zo235 ho235h => gd (kd ho235h a2 = 10) (bd3 (fX9_thrown a2 zo235 ho235h) (fun vo237 zo237 ho237h => (if vo237 = vo232 then ((if vo232 = 0 then (gd (kd ho237h a3 = 14) (gd (¬ ((0 : Int32) < 0 ∨ ln ho237h a3 ≤ Int32.toNatClampNeg 0)) ((if (lg_cmp (jv ho237h a3 (Int32.toNatClampNeg 0)) (Int32.toInt64 vo235)) = 0 then (bL_law_1215 xs sl q23 a0 a1 a2 a3 x4 zo237 ho237h) else (none))))) else (bL_law_1215 xs sl q23 a0 a1 a2 a3 x4 zo237 ho237h))) else (none)))))))))) else (if ((xs (Int32.toNatClampNeg x4)) &&& 63) = 19 then (gd (kd h a1 = 9) (bd3 (fX8_messages a1 z h) (fun vo245 zo245 ho245h => gd (kd ho245h a2 = 10) (bd3 (fX9_messages a2 zo245 ho245h) (fun vo247 zo247 ho247h => (if vo245 = vo247 then (bL_law_1716 xs sl q23 a0 a1 a2 a3 x4 zo247 ho247h) else (none))))))) else (if ((xs (Int32.toNatClampNeg x4)) &&& 63) = 20 then (gd (¬ (((x4 + 1) : Int32) < 0 ∨ sl ≤ Int32.toNatClampNeg (x4 + 1))) (gd (¬ (((x4 + 2) : Int32) < 0 ∨ sl ≤ Int32.toNatClampNeg (x4 + 2))) (bd3 (fL_message a1 (xs (Int32.toNatClampNeg (x4 + 1))) (xs (Int32.toNatClampNeg (x4 + 2))) a3 z h) (fun vo252 zo252 ho252h => gd (¬ (((x4 + 1) : Int32) < 0 ∨ sl ≤ Int32.toNatClampNeg (x4 + 1))) (gd (¬ (((x4 + 2) : Int32) < 0 ∨ sl ≤ Int32.toNatClampNeg (x4 + 2))) (gd (kd ho252h a2 = 10) (bd3 (fX9_message a2 (xs (Int32.toNatClampNeg (x4 + 1))) (xs (Int32.toNatClampNeg (x4 + 2))) zo252 ho252h) (fun vo256 zo256 ho256h => gd (kd ho256h a2 = 10) (bd3 (fX9_thrown a2 zo256 ho256h) (fun vo258 zo258 ho258h => (if vo258 = vo252 then ((if vo252 = 0 then (gd (kd ho258h a3 = 14) (gd (¬ ((0 : Int32) < 0 ∨ ln ho258h a3 ≤ Int32.toNatClampNeg 0)) ((if (lg_cmp (jv ho258h a3 (Int32.toNatClampNeg 0)) (Int32.toInt64 vo256)) = 0 then (bL_law_1296 xs sl q23 a0 a1 a2 a3 x4 zo258 ho258h) else (none))))) else (bL_law_1296 xs sl q23 a0 a1 a2 a3 x4 zo258 ho258h))) else (none)))))))))))) else (if ((xs (Int32.toNatClampNeg x4)) &&& 63) = 21 then (gd (¬ (((x4 + 1) : Int32) < 0 ∨ sl ≤ Int32.toNatClampNeg (x4 + 1))) (bd3 (fL_told a1 (xs (Int32.toNatClampNeg (x4 + 1))) a3 z h) (fun vo266 zo266 ho266h => gd (¬ (((x4 + 1) : Int32) < 0 ∨ sl ≤ Int32.toNatClampNeg (x4 + 1))) (gd (kd ho266h a2 = 10) (bd3 (fX9_told a2 (xs (Int32.toNatClampNeg (x4 + 1))) zo266 ho266h) (fun vo269 zo269 ho269h => gd (kd ho269h a2 = 10) (bd3 (fX9_thrown a2 zo269 ho269h) (fun vo271 zo271 ho271h => (if vo271 = vo266 then ((if vo266 = 0 then (gd (kd ho271h a3 = 14) (gd (¬ ((0 : Int32) < 0 ∨ ln ho271h a3 ≤ Int32.toNatClampNeg 0)) ((if (lg_cmp (jv ho271h a3 (Int32.toNatClampNeg 0)) (Int32.toInt64 vo269)) = 0 then (bL_law_1352 xs sl q23 a0 a1 a2 a3 x4 zo271 ho271h) else (none))))) else (bL_law_1352 xs sl q23 a0 a1 a2 a3 x4 zo271 ho271h))) else (none)))))))))) else (if ((xs (Int32.toNatClampNeg x4)) &&& 63) = 22 then (gd (kd h a1 = 9) (bd3 (fX8_onCycles a1 z h) (fun vo279 zo279 ho279h => gd (kd ho279h a2 = 10) (bd3 (fX9_onCycles a2 zo279 ho279h) (fun vo281 zo281 ho281h => (if vo279 = vo281 then (bL_law_1716 xs sl q23 a0 a1 a2 a3 x4 zo281 ho281h) else (none))))))) else (if ((xs (Int32.toNatClampNeg x4)) &&& 63) = 23 then (gd (kd h a1 = 9) (bd3 (fX8_stuck a1 z h) (fun vo285 zo285 ho285h => gd (kd ho285h a2 = 10) (bd3 (fX9_stuck a2 zo285 ho285h) (fun vo287 zo287 ho287h => (if vo285 = vo287 then (bL_law_1716 xs sl q23 a0 a1 a2 a3 x4 zo287 ho287h) else (none))))))) else (if ((xs (Int32.toNatClampNeg x4)) &&& 63) = 24 then (gd (¬ (((x4 + 1) : Int32) < 0 ∨ sl ≤ Int32.toNatClampNeg (x4 + 1))) (bd3 (fL_shortestCycle a1 (xs (Int32.toNatClampNeg (x4 + 1))) a3 z h) (fun vo291 zo291 ho291h => gd (¬ (((x4 + 1) : Int32) < 0 ∨ sl ≤ Int32.toNatClampNeg (x4 + 1))) (gd (kd ho291h a2 = 10) (bd3 (fX9_shortestCycle a2 (xs (Int32.toNatClampNeg (x4 + 1))) zo291 ho291h) (fun vo294 zo294 ho294h => gd (kd ho294h a2 = 10) (bd3 (fX9_thrown a2 zo294 ho294h) (fun vo296 zo296 ho296h => (if vo296 = vo291 then ((if vo291 = 0 then (gd (kd ho296h a3 = 14) (gd (¬ ((0 : Int32) < 0 ∨ ln ho296h a3 ≤ Int32.toNatClampNeg 0)) ((if (lg_cmp (jv ho296h a3 (Int32.toNatClampNeg 0)) (Int32.toInt64 vo294)) = 0 then (bL_law_1434 xs sl q23 a0 a1 a2 a3 x4 zo296 ho296h) else (none))))) else (bL_law_1434 xs sl q23 a0 a1 a2 a3 x4 zo296 ho296h))) else (none)))))))))) else (if ((xs (Int32.toNatClampNeg x4)) &&& 63) = 25 then (gd (kd h a1 = 9) (bd3 (fX8_cycles a1 z h) (fun vo304 zo304 ho304h => gd (kd ho304h a2 = 10) (bd3 (fX9_cycles a2 zo304 ho304h) (fun vo306 zo306 ho306h => (if vo304 = vo306 then (bL_law_1716 xs sl q23 a0 a1 a2 a3 x4 zo306 ho306h) else (none))))))) else (if ((xs (Int32.toNatClampNeg x4)) &&& 63) = 26 then (gd (¬ (((x4 + 1) : Int32) < 0 ∨ sl ≤ Int32.toNatClampNeg (x4 + 1))) (bd3 (fL_latest a1 (xs (Int32.toNatClampNeg (x4 + 1))) a3 z h) (fun vo310 zo310 ho310h => gd (¬ (((x4 + 1) : Int32) < 0 ∨ sl ≤ Int32.toNatClampNeg (x4 + 1))) (gd (kd ho310h a2 = 10) (bd3 (fX9_latest a2 (xs (Int32.toNatClampNeg (x4 + 1))) zo310 ho310h) (fun vo313 zo313 ho313h => gd (kd ho313h a2 = 10) (bd3 (fX9_thrown a2 zo313 ho313h) (fun vo315 zo315 ho315h => (if vo315 = vo310 then ((if vo310 = 0 then (gd (kd ho315h a3 = 14) (gd (¬ ((0 : Int32) < 0 ∨ ln ho315h a3 ≤ Int32.toNatClampNeg 0)) ((if (lg_cmp (jv ho315h a3 (Int32.toNatClampNeg 0)) (Int32.toInt64 vo313)) = 0 then (bL_law_1503 xs sl q23 a0 a1 a2 a3 x4 zo315 ho315h) else (none))))) else (bL_law_1503 xs sl q23 a0 a1 a2 a3 x4 zo315 ho315h))) else (none)))))))))) else (if ((xs (Int32.toNatClampNeg x4)) &&& 63) = 27 then (gd (kd h a1 = 9) (bd3 (fX8_bestVictims a1 z h) (fun vo323 zo323 ho323h => gd (kd ho323h a2 = 10) (bd3 (fX9_bestVictims a2 zo323 ho323h) (fun vo325 zo325 ho325h => (if vo323 = vo325 then (bL_law_1716 xs sl q23 a0 a1 a2 a3 x4 zo325 ho325h) else (none))))))) else (if ((xs (Int32.toNatClampNeg x4)) &&& 63) = 28 then (gd (kd h a1 = 9) (bd3 (fX8_wouldEnd a1 z h) (fun vo329 zo329 ho329h => gd (kd ho329h a2 = 10) (bd3 (fX9_wouldEnd a2 zo329 ho329h) (fun vo331 zo331 ho331h => (if vo329 = vo331 then (bL_law_1716 xs sl q23 a0 a1 a2 a3 x4 zo331 ho331h) else (none))))))) else (if ((xs (Int32.toNatClampNeg x4)) &&& 63) = 29 then (gd (¬ (((x4 + 1) : Int32) < 0 ∨ sl ≤ Int32.toNatClampNeg (x4 + 1))) (bd3 (fL_type a1 (xs (Int32.toNatClampNeg (x4 + 1))) a3 z h) (fun vo335 zo335 ho335h => gd (¬ (((x4 + 1) : Int32) < 0 ∨ sl ≤ Int32.toNatClampNeg (x4 + 1))) (gd (kd ho335h a2 = 10) (bd3 (fX9_type a2 (xs (Int32.toNatClampNeg (x4 + 1))) zo335 ho335h) (fun vo338 zo338 ho338h => gd (kd ho338h a2 = 10) (bd3 (fX9_thrown a2 zo338 ho338h) (fun vo340 zo340 ho340h => (if vo340 = vo335 then ((if vo335 = 0 then (gd (kd ho340h a3 = 14) (gd (¬ ((0 : Int32) < 0 ∨ ln ho340h a3 ≤ Int32.toNatClampNeg 0)) ((if (lg_cmp (jv ho340h a3 (Int32.toNatClampNeg 0)) (Int32.toInt64 vo338)) = 0 then (bL_law_1585 xs sl q23 a0 a1 a2 a3 x4 zo340 ho340h) else (none))))) else (bL_law_1585 xs sl q23 a0 a1 a2 a3 x4 zo340 ho340h))) else (none)))))))))) else (if ((xs (Int32.toNatClampNeg x4)) &&& 63) = 30 then (gd (kd h a1 = 9) (bd3 (fX8_clearText a1 z h) (fun vo348 zo348 ho348h => gd (kd ho348h a2 = 10) (bd3 (fX9_clearText a2 zo348 ho348h) (fun vo350 zo350 ho350h => (if vo348 = vo350 then (bL_law_1716 xs sl q23 a0 a1 a2 a3 x4 zo350 ho350h) else (none))))))) else (if ((xs (Int32.toNatClampNeg x4)) &&& 63) = 31 then (gd (kd h a1 = 9) (bd3 (fX8_fault a1 z h) (fun vo354 zo354 ho354h => gd (kd ho354h a2 = 10) (bd3 (fX9_fault a2 zo354 ho354h) (fun vo356 zo356 ho356h => (if vo354 = vo356 then (bL_law_1716 xs sl q23 a0 a1 a2 a3 x4 zo356 ho356h) else (none))))))) else (if ((xs (Int32.toNatClampNeg x4)) &&& 63) = 32 then (bd3 (fL_run a1 a3 z h) (fun vo359 zo359 ho359h => gd (kd ho359h a2 = 10) (bd3 (fX9_run a2 zo359 ho359h) (fun vo361 zo361 ho361h => gd (kd ho361h a2 = 10) (bd3 (fX9_thrown a2 zo361 ho361h) (fun vo363 zo363 ho363h => (if vo363 = vo359 then ((if vo359 = 0 then (gd (kd ho363h a3 = 14) (gd (¬ ((0 : Int32) < 0 ∨ ln ho363h a3 ≤ Int32.toNatClampNeg 0)) ((if (lg_cmp (jv ho363h a3 (Int32.toNatClampNeg 0)) (Int32.toInt64 vo361)) = 0 then (bL_law_1655 xs sl q23 a0 a1 a2 a3 x4 zo363 ho363h) else (none))))) else (bL_law_1655 xs sl q23 a0 a1 a2 a3 x4 zo363 ho363h))) else (none)))))))) else (if ((xs (Int32.toNatClampNeg x4)) &&& 63) = 33 then (bd3 (fL_undo a1 a3 z h) (fun vo370 zo370 ho370h => gd (kd ho370h a2 = 10) (bd3 (fX9_undo a2 zo370 ho370h) (fun vo372 zo372 ho372h => gd (kd ho372h a2 = 10) (bd3 (fX9_thrown a2 zo372 ho372h) (fun vo374 zo374 ho374h => (if vo374 = vo370 then ((if vo370 = 0 then (gd (kd ho374h a3 = 14) (gd (¬ ((0 : Int32) < 0 ∨ ln ho374h a3 ≤ Int32.toNatClampNeg 0)) ((if (lg_cmp (jv ho374h a3 (Int32.toNatClampNeg 0)) (Int32.toInt64 vo372)) = 0 then (bL_law_1699 xs sl q23 a0 a1 a2 a3 x4 zo374 ho374h) else (none))))) else (bL_law_1699 xs sl q23 a0 a1 a2 a3 x4 zo374 ho374h))) else (none)))))))) else (if ((xs (Int32.toNatClampNeg x4)) &&& 63) = 34 then (gd (kd h a1 = 9) (bd3 (fX8_checksum a1 z h) (fun vo382 zo382 ho382h => xr vo382 (fun v383 => gd (kd ho382h a2 = 10) (bd3 (fX9_checksum a2 zo382 ho382h) (fun vo386 zo386 ho386h => (if (lg_cmp v383 vo386) = 0 then (bL_law_1716 xs sl q23 a0 a1 a2 a3 x4 zo386 ho386h) else (none))))) (fun x384 => none)))) else (bL_law_1716 xs sl q23 a0 a1 a2 a3 x4 z h)))))))))))))))))))))))))))))))))))))))
def lL_law_23 (xs : Nat → Int32) (sl : Nat) : Nat → Nat → Nat → Nat → Nat → Int32 → Nat → AH → Option Unit
  | 0 => fun _ _ _ _ _ _ _ => none
  | fuel + 1 => lL_law_23B xs sl (lL_law_23 xs sl fuel)
def fL_law (xs : Nat → Int32) (sl : Nat)  (a0 : Nat) (z : Nat) (h : AH) : Option Unit :=
  bl (wNew h z 9 0) (fun h1 => bd2 (fX8_init z (z + 1) h1) (fun zo3 ho3h => bl (wNew ho3h zo3 10 0) (fun h4 => bd2 (fX9_init zo3 (zo3 + 1) h4) (fun zo6 ho6h => bl (wNew ho6h zo6 14 1) (fun h7 => lL_law_23 xs sl 513 a0 z zo3 zo6 0 (zo6 + 1) h7)))))
theorem wbL_law_1716 {g : JG} {nm : String} (hst : (jl g).stackTraces = false) (fuel : Nat) (q23 : Nat → Nat → Nat → Nat → Int32 → Nat → AH → Option Unit) {a0 : Nat} {a1 : Nat} {a2 : Nat} {a3 : Nat} {x4 : Int32} (hq23 : ∀ (a0 : Nat) (a1 : Nat) (a2 : Nat) (a3 : Nat) (x4 : Int32) (z : Nat) (h : AH) (k n : Nat), a0 = jsb g → k + fuel * 16 ≤ 601024 → n + fuel * 4608 ≤ 7293034 → q23 a0 a1 a2 a3 x4 z h = some () → J g (ML_law nm) (jLw g) 23 [some (.ref a0), some (.ref a1), some (.ref a2), some (.ref a3), some (.int x4), none, none] [] z h k n) {z : Nat} {h : AH} {k n : Nat} (hk : k + fuel * 16 ≤ 601024) (hn : n + fuel * 4608 ≤ 7293034) (ha0 : a0 = jsb g) (hf : bL_law_1716 (jsx g) (jsl g) q23 a0 a1 a2 a3 x4 z h = some ()) : J g (ML_law nm) (jLw g) 1716 [some (.ref a0), some (.ref a1), some (.ref a2), some (.ref a3), some (.int x4), none, none] [] z h k n := by
  unfold bL_law_1716 at hf
  refine S_iinc_4 (v := x4 + 3) dL_law_1716 (congrArg (fun w => x4 + w) (by decide)) rfl (Nat.le_of_ble_eq_true rfl) ?_
  refine J_goto (tgt := 23) dL_law_1719 (by decide) ?_
  refine J.sub (jsub_s (jsub_s (jsub_s (jsub_s (jsub_s (jsub_n (jsub_n (jsub_nil _)))))))) ?_
  exact hq23 _ _ _ _ _ _ _ _ _ ha0 hk hn hf
theorem wbL_law_1699 {g : JG} {nm : String} (hst : (jl g).stackTraces = false) (fuel : Nat) (q23 : Nat → Nat → Nat → Nat → Int32 → Nat → AH → Option Unit) {a0 : Nat} {a1 : Nat} {a2 : Nat} {a3 : Nat} {x4 : Int32} (hq23 : ∀ (a0 : Nat) (a1 : Nat) (a2 : Nat) (a3 : Nat) (x4 : Int32) (z : Nat) (h : AH) (k n : Nat), a0 = jsb g → k + fuel * 16 ≤ 601024 → n + fuel * 4608 ≤ 7293034 → q23 a0 a1 a2 a3 x4 z h = some () → J g (ML_law nm) (jLw g) 23 [some (.ref a0), some (.ref a1), some (.ref a2), some (.ref a3), some (.int x4), none, none] [] z h k n) {z : Nat} {h : AH} {k n : Nat} (hk : k + fuel * 16 ≤ 601024) (hn : n + fuel * 4608 ≤ 7293034) (ha0 : a0 = jsb g) (hf : bL_law_1699 (jsx g) (jsl g) q23 a0 a1 a2 a3 x4 z h = some ()) : J g (ML_law nm) (jLw g) 1699 [some (.ref a0), some (.ref a1), some (.ref a2), some (.ref a3), some (.int x4), none, none] [] z h k n := by
  unfold bL_law_1699 at hf
  refine J_goto (tgt := 1716) dL_law_1699 (by decide) ?_
  refine J.sub (jsub_s (jsub_s (jsub_s (jsub_s (jsub_s (jsub_n (jsub_n (jsub_nil _)))))))) ?_
  exact wbL_law_1716 hst fuel _ hq23 hk hn ha0 hf
theorem wbL_law_1655 {g : JG} {nm : String} (hst : (jl g).stackTraces = false) (fuel : Nat) (q23 : Nat → Nat → Nat → Nat → Int32 → Nat → AH → Option Unit) {a0 : Nat} {a1 : Nat} {a2 : Nat} {a3 : Nat} {x4 : Int32} (hq23 : ∀ (a0 : Nat) (a1 : Nat) (a2 : Nat) (a3 : Nat) (x4 : Int32) (z : Nat) (h : AH) (k n : Nat), a0 = jsb g → k + fuel * 16 ≤ 601024 → n + fuel * 4608 ≤ 7293034 → q23 a0 a1 a2 a3 x4 z h = some () → J g (ML_law nm) (jLw g) 23 [some (.ref a0), some (.ref a1), some (.ref a2), some (.ref a3), some (.int x4), none, none] [] z h k n) {z : Nat} {h : AH} {k n : Nat} (hk : k + fuel * 16 ≤ 601024) (hn : n + fuel * 4608 ≤ 7293034) (ha0 : a0 = jsb g) (hf : bL_law_1655 (jsx g) (jsl g) q23 a0 a1 a2 a3 x4 z h = some ()) : J g (ML_law nm) (jLw g) 1655 [some (.ref a0), some (.ref a1), some (.ref a2), some (.ref a3), some (.int x4), none, none] [] z h k n := by
  unfold bL_law_1655 at hf
  refine J_goto (tgt := 1716) dL_law_1655 (by decide) ?_
  refine J.sub (jsub_s (jsub_s (jsub_s (jsub_s (jsub_s (jsub_n (jsub_n (jsub_nil _)))))))) ?_
  exact wbL_law_1716 hst fuel _ hq23 hk hn ha0 hf
theorem wbL_law_1585 {g : JG} {nm : String} (hst : (jl g).stackTraces = false) (fuel : Nat) (q23 : Nat → Nat → Nat → Nat → Int32 → Nat → AH → Option Unit) {a0 : Nat} {a1 : Nat} {a2 : Nat} {a3 : Nat} {x4 : Int32} (hq23 : ∀ (a0 : Nat) (a1 : Nat) (a2 : Nat) (a3 : Nat) (x4 : Int32) (z : Nat) (h : AH) (k n : Nat), a0 = jsb g → k + fuel * 16 ≤ 601024 → n + fuel * 4608 ≤ 7293034 → q23 a0 a1 a2 a3 x4 z h = some () → J g (ML_law nm) (jLw g) 23 [some (.ref a0), some (.ref a1), some (.ref a2), some (.ref a3), some (.int x4), none, none] [] z h k n) {z : Nat} {h : AH} {k n : Nat} (hk : k + fuel * 16 ≤ 601024) (hn : n + fuel * 4608 ≤ 7293034) (ha0 : a0 = jsb g) (hf : bL_law_1585 (jsx g) (jsl g) q23 a0 a1 a2 a3 x4 z h = some ()) : J g (ML_law nm) (jLw g) 1585 [some (.ref a0), some (.ref a1), some (.ref a2), some (.ref a3), some (.int x4), none, none] [] z h k n := by
  unfold bL_law_1585 at hf
  refine J_goto (tgt := 1716) dL_law_1585 (by decide) ?_
  refine J.sub (jsub_s (jsub_s (jsub_s (jsub_s (jsub_s (jsub_n (jsub_n (jsub_nil _)))))))) ?_
  exact wbL_law_1716 hst fuel _ hq23 hk hn ha0 hf
theorem wbL_law_1503 {g : JG} {nm : String} (hst : (jl g).stackTraces = false) (fuel : Nat) (q23 : Nat → Nat → Nat → Nat → Int32 → Nat → AH → Option Unit) {a0 : Nat} {a1 : Nat} {a2 : Nat} {a3 : Nat} {x4 : Int32} (hq23 : ∀ (a0 : Nat) (a1 : Nat) (a2 : Nat) (a3 : Nat) (x4 : Int32) (z : Nat) (h : AH) (k n : Nat), a0 = jsb g → k + fuel * 16 ≤ 601024 → n + fuel * 4608 ≤ 7293034 → q23 a0 a1 a2 a3 x4 z h = some () → J g (ML_law nm) (jLw g) 23 [some (.ref a0), some (.ref a1), some (.ref a2), some (.ref a3), some (.int x4), none, none] [] z h k n) {z : Nat} {h : AH} {k n : Nat} (hk : k + fuel * 16 ≤ 601024) (hn : n + fuel * 4608 ≤ 7293034) (ha0 : a0 = jsb g) (hf : bL_law_1503 (jsx g) (jsl g) q23 a0 a1 a2 a3 x4 z h = some ()) : J g (ML_law nm) (jLw g) 1503 [some (.ref a0), some (.ref a1), some (.ref a2), some (.ref a3), some (.int x4), none, none] [] z h k n := by
  unfold bL_law_1503 at hf
  refine J_goto (tgt := 1716) dL_law_1503 (by decide) ?_
  refine J.sub (jsub_s (jsub_s (jsub_s (jsub_s (jsub_s (jsub_n (jsub_n (jsub_nil _)))))))) ?_
  exact wbL_law_1716 hst fuel _ hq23 hk hn ha0 hf
theorem wbL_law_1434 {g : JG} {nm : String} (hst : (jl g).stackTraces = false) (fuel : Nat) (q23 : Nat → Nat → Nat → Nat → Int32 → Nat → AH → Option Unit) {a0 : Nat} {a1 : Nat} {a2 : Nat} {a3 : Nat} {x4 : Int32} (hq23 : ∀ (a0 : Nat) (a1 : Nat) (a2 : Nat) (a3 : Nat) (x4 : Int32) (z : Nat) (h : AH) (k n : Nat), a0 = jsb g → k + fuel * 16 ≤ 601024 → n + fuel * 4608 ≤ 7293034 → q23 a0 a1 a2 a3 x4 z h = some () → J g (ML_law nm) (jLw g) 23 [some (.ref a0), some (.ref a1), some (.ref a2), some (.ref a3), some (.int x4), none, none] [] z h k n) {z : Nat} {h : AH} {k n : Nat} (hk : k + fuel * 16 ≤ 601024) (hn : n + fuel * 4608 ≤ 7293034) (ha0 : a0 = jsb g) (hf : bL_law_1434 (jsx g) (jsl g) q23 a0 a1 a2 a3 x4 z h = some ()) : J g (ML_law nm) (jLw g) 1434 [some (.ref a0), some (.ref a1), some (.ref a2), some (.ref a3), some (.int x4), none, none] [] z h k n := by
  unfold bL_law_1434 at hf
  refine J_goto (tgt := 1716) dL_law_1434 (by decide) ?_
  refine J.sub (jsub_s (jsub_s (jsub_s (jsub_s (jsub_s (jsub_n (jsub_n (jsub_nil _)))))))) ?_
  exact wbL_law_1716 hst fuel _ hq23 hk hn ha0 hf
theorem wbL_law_1352 {g : JG} {nm : String} (hst : (jl g).stackTraces = false) (fuel : Nat) (q23 : Nat → Nat → Nat → Nat → Int32 → Nat → AH → Option Unit) {a0 : Nat} {a1 : Nat} {a2 : Nat} {a3 : Nat} {x4 : Int32} (hq23 : ∀ (a0 : Nat) (a1 : Nat) (a2 : Nat) (a3 : Nat) (x4 : Int32) (z : Nat) (h : AH) (k n : Nat), a0 = jsb g → k + fuel * 16 ≤ 601024 → n + fuel * 4608 ≤ 7293034 → q23 a0 a1 a2 a3 x4 z h = some () → J g (ML_law nm) (jLw g) 23 [some (.ref a0), some (.ref a1), some (.ref a2), some (.ref a3), some (.int x4), none, none] [] z h k n) {z : Nat} {h : AH} {k n : Nat} (hk : k + fuel * 16 ≤ 601024) (hn : n + fuel * 4608 ≤ 7293034) (ha0 : a0 = jsb g) (hf : bL_law_1352 (jsx g) (jsl g) q23 a0 a1 a2 a3 x4 z h = some ()) : J g (ML_law nm) (jLw g) 1352 [some (.ref a0), some (.ref a1), some (.ref a2), some (.ref a3), some (.int x4), none, none] [] z h k n := by
  unfold bL_law_1352 at hf
  refine J_goto (tgt := 1716) dL_law_1352 (by decide) ?_
  refine J.sub (jsub_s (jsub_s (jsub_s (jsub_s (jsub_s (jsub_n (jsub_n (jsub_nil _)))))))) ?_
  exact wbL_law_1716 hst fuel _ hq23 hk hn ha0 hf
theorem wbL_law_1296 {g : JG} {nm : String} (hst : (jl g).stackTraces = false) (fuel : Nat) (q23 : Nat → Nat → Nat → Nat → Int32 → Nat → AH → Option Unit) {a0 : Nat} {a1 : Nat} {a2 : Nat} {a3 : Nat} {x4 : Int32} (hq23 : ∀ (a0 : Nat) (a1 : Nat) (a2 : Nat) (a3 : Nat) (x4 : Int32) (z : Nat) (h : AH) (k n : Nat), a0 = jsb g → k + fuel * 16 ≤ 601024 → n + fuel * 4608 ≤ 7293034 → q23 a0 a1 a2 a3 x4 z h = some () → J g (ML_law nm) (jLw g) 23 [some (.ref a0), some (.ref a1), some (.ref a2), some (.ref a3), some (.int x4), none, none] [] z h k n) {z : Nat} {h : AH} {k n : Nat} (hk : k + fuel * 16 ≤ 601024) (hn : n + fuel * 4608 ≤ 7293034) (ha0 : a0 = jsb g) (hf : bL_law_1296 (jsx g) (jsl g) q23 a0 a1 a2 a3 x4 z h = some ()) : J g (ML_law nm) (jLw g) 1296 [some (.ref a0), some (.ref a1), some (.ref a2), some (.ref a3), some (.int x4), none, none] [] z h k n := by
  unfold bL_law_1296 at hf
  refine J_goto (tgt := 1716) dL_law_1296 (by decide) ?_
  refine J.sub (jsub_s (jsub_s (jsub_s (jsub_s (jsub_s (jsub_n (jsub_n (jsub_nil _)))))))) ?_
  exact wbL_law_1716 hst fuel _ hq23 hk hn ha0 hf
theorem wbL_law_1215 {g : JG} {nm : String} (hst : (jl g).stackTraces = false) (fuel : Nat) (q23 : Nat → Nat → Nat → Nat → Int32 → Nat → AH → Option Unit) {a0 : Nat} {a1 : Nat} {a2 : Nat} {a3 : Nat} {x4 : Int32} (hq23 : ∀ (a0 : Nat) (a1 : Nat) (a2 : Nat) (a3 : Nat) (x4 : Int32) (z : Nat) (h : AH) (k n : Nat), a0 = jsb g → k + fuel * 16 ≤ 601024 → n + fuel * 4608 ≤ 7293034 → q23 a0 a1 a2 a3 x4 z h = some () → J g (ML_law nm) (jLw g) 23 [some (.ref a0), some (.ref a1), some (.ref a2), some (.ref a3), some (.int x4), none, none] [] z h k n) {z : Nat} {h : AH} {k n : Nat} (hk : k + fuel * 16 ≤ 601024) (hn : n + fuel * 4608 ≤ 7293034) (ha0 : a0 = jsb g) (hf : bL_law_1215 (jsx g) (jsl g) q23 a0 a1 a2 a3 x4 z h = some ()) : J g (ML_law nm) (jLw g) 1215 [some (.ref a0), some (.ref a1), some (.ref a2), some (.ref a3), some (.int x4), none, none] [] z h k n := by
  unfold bL_law_1215 at hf
  refine J_goto (tgt := 1716) dL_law_1215 (by decide) ?_
  refine J.sub (jsub_s (jsub_s (jsub_s (jsub_s (jsub_s (jsub_n (jsub_n (jsub_nil _)))))))) ?_
  exact wbL_law_1716 hst fuel _ hq23 hk hn ha0 hf
theorem wbL_law_1159 {g : JG} {nm : String} (hst : (jl g).stackTraces = false) (fuel : Nat) (q23 : Nat → Nat → Nat → Nat → Int32 → Nat → AH → Option Unit) {a0 : Nat} {a1 : Nat} {a2 : Nat} {a3 : Nat} {x4 : Int32} (hq23 : ∀ (a0 : Nat) (a1 : Nat) (a2 : Nat) (a3 : Nat) (x4 : Int32) (z : Nat) (h : AH) (k n : Nat), a0 = jsb g → k + fuel * 16 ≤ 601024 → n + fuel * 4608 ≤ 7293034 → q23 a0 a1 a2 a3 x4 z h = some () → J g (ML_law nm) (jLw g) 23 [some (.ref a0), some (.ref a1), some (.ref a2), some (.ref a3), some (.int x4), none, none] [] z h k n) {z : Nat} {h : AH} {k n : Nat} (hk : k + fuel * 16 ≤ 601024) (hn : n + fuel * 4608 ≤ 7293034) (ha0 : a0 = jsb g) (hf : bL_law_1159 (jsx g) (jsl g) q23 a0 a1 a2 a3 x4 z h = some ()) : J g (ML_law nm) (jLw g) 1159 [some (.ref a0), some (.ref a1), some (.ref a2), some (.ref a3), some (.int x4), none, none] [] z h k n := by
  unfold bL_law_1159 at hf
  refine J_goto (tgt := 1716) dL_law_1159 (by decide) ?_
  refine J.sub (jsub_s (jsub_s (jsub_s (jsub_s (jsub_s (jsub_n (jsub_n (jsub_nil _)))))))) ?_
  exact wbL_law_1716 hst fuel _ hq23 hk hn ha0 hf
theorem wbL_law_1103 {g : JG} {nm : String} (hst : (jl g).stackTraces = false) (fuel : Nat) (q23 : Nat → Nat → Nat → Nat → Int32 → Nat → AH → Option Unit) {a0 : Nat} {a1 : Nat} {a2 : Nat} {a3 : Nat} {x4 : Int32} (hq23 : ∀ (a0 : Nat) (a1 : Nat) (a2 : Nat) (a3 : Nat) (x4 : Int32) (z : Nat) (h : AH) (k n : Nat), a0 = jsb g → k + fuel * 16 ≤ 601024 → n + fuel * 4608 ≤ 7293034 → q23 a0 a1 a2 a3 x4 z h = some () → J g (ML_law nm) (jLw g) 23 [some (.ref a0), some (.ref a1), some (.ref a2), some (.ref a3), some (.int x4), none, none] [] z h k n) {z : Nat} {h : AH} {k n : Nat} (hk : k + fuel * 16 ≤ 601024) (hn : n + fuel * 4608 ≤ 7293034) (ha0 : a0 = jsb g) (hf : bL_law_1103 (jsx g) (jsl g) q23 a0 a1 a2 a3 x4 z h = some ()) : J g (ML_law nm) (jLw g) 1103 [some (.ref a0), some (.ref a1), some (.ref a2), some (.ref a3), some (.int x4), none, none] [] z h k n := by
  unfold bL_law_1103 at hf
  refine J_goto (tgt := 1716) dL_law_1103 (by decide) ?_
  refine J.sub (jsub_s (jsub_s (jsub_s (jsub_s (jsub_s (jsub_n (jsub_n (jsub_nil _)))))))) ?_
  exact wbL_law_1716 hst fuel _ hq23 hk hn ha0 hf
theorem wbL_law_1047 {g : JG} {nm : String} (hst : (jl g).stackTraces = false) (fuel : Nat) (q23 : Nat → Nat → Nat → Nat → Int32 → Nat → AH → Option Unit) {a0 : Nat} {a1 : Nat} {a2 : Nat} {a3 : Nat} {x4 : Int32} (hq23 : ∀ (a0 : Nat) (a1 : Nat) (a2 : Nat) (a3 : Nat) (x4 : Int32) (z : Nat) (h : AH) (k n : Nat), a0 = jsb g → k + fuel * 16 ≤ 601024 → n + fuel * 4608 ≤ 7293034 → q23 a0 a1 a2 a3 x4 z h = some () → J g (ML_law nm) (jLw g) 23 [some (.ref a0), some (.ref a1), some (.ref a2), some (.ref a3), some (.int x4), none, none] [] z h k n) {z : Nat} {h : AH} {k n : Nat} (hk : k + fuel * 16 ≤ 601024) (hn : n + fuel * 4608 ≤ 7293034) (ha0 : a0 = jsb g) (hf : bL_law_1047 (jsx g) (jsl g) q23 a0 a1 a2 a3 x4 z h = some ()) : J g (ML_law nm) (jLw g) 1047 [some (.ref a0), some (.ref a1), some (.ref a2), some (.ref a3), some (.int x4), none, none] [] z h k n := by
  unfold bL_law_1047 at hf
  refine J_goto (tgt := 1716) dL_law_1047 (by decide) ?_
  refine J.sub (jsub_s (jsub_s (jsub_s (jsub_s (jsub_s (jsub_n (jsub_n (jsub_nil _)))))))) ?_
  exact wbL_law_1716 hst fuel _ hq23 hk hn ha0 hf
theorem wbL_law_991 {g : JG} {nm : String} (hst : (jl g).stackTraces = false) (fuel : Nat) (q23 : Nat → Nat → Nat → Nat → Int32 → Nat → AH → Option Unit) {a0 : Nat} {a1 : Nat} {a2 : Nat} {a3 : Nat} {x4 : Int32} (hq23 : ∀ (a0 : Nat) (a1 : Nat) (a2 : Nat) (a3 : Nat) (x4 : Int32) (z : Nat) (h : AH) (k n : Nat), a0 = jsb g → k + fuel * 16 ≤ 601024 → n + fuel * 4608 ≤ 7293034 → q23 a0 a1 a2 a3 x4 z h = some () → J g (ML_law nm) (jLw g) 23 [some (.ref a0), some (.ref a1), some (.ref a2), some (.ref a3), some (.int x4), none, none] [] z h k n) {z : Nat} {h : AH} {k n : Nat} (hk : k + fuel * 16 ≤ 601024) (hn : n + fuel * 4608 ≤ 7293034) (ha0 : a0 = jsb g) (hf : bL_law_991 (jsx g) (jsl g) q23 a0 a1 a2 a3 x4 z h = some ()) : J g (ML_law nm) (jLw g) 991 [some (.ref a0), some (.ref a1), some (.ref a2), some (.ref a3), some (.int x4), none, none] [] z h k n := by
  unfold bL_law_991 at hf
  refine J_goto (tgt := 1716) dL_law_991 (by decide) ?_
  refine J.sub (jsub_s (jsub_s (jsub_s (jsub_s (jsub_s (jsub_n (jsub_n (jsub_nil _)))))))) ?_
  exact wbL_law_1716 hst fuel _ hq23 hk hn ha0 hf
theorem wbL_law_935 {g : JG} {nm : String} (hst : (jl g).stackTraces = false) (fuel : Nat) (q23 : Nat → Nat → Nat → Nat → Int32 → Nat → AH → Option Unit) {a0 : Nat} {a1 : Nat} {a2 : Nat} {a3 : Nat} {x4 : Int32} (hq23 : ∀ (a0 : Nat) (a1 : Nat) (a2 : Nat) (a3 : Nat) (x4 : Int32) (z : Nat) (h : AH) (k n : Nat), a0 = jsb g → k + fuel * 16 ≤ 601024 → n + fuel * 4608 ≤ 7293034 → q23 a0 a1 a2 a3 x4 z h = some () → J g (ML_law nm) (jLw g) 23 [some (.ref a0), some (.ref a1), some (.ref a2), some (.ref a3), some (.int x4), none, none] [] z h k n) {z : Nat} {h : AH} {k n : Nat} (hk : k + fuel * 16 ≤ 601024) (hn : n + fuel * 4608 ≤ 7293034) (ha0 : a0 = jsb g) (hf : bL_law_935 (jsx g) (jsl g) q23 a0 a1 a2 a3 x4 z h = some ()) : J g (ML_law nm) (jLw g) 935 [some (.ref a0), some (.ref a1), some (.ref a2), some (.ref a3), some (.int x4), none, none] [] z h k n := by
  unfold bL_law_935 at hf
  refine J_goto (tgt := 1716) dL_law_935 (by decide) ?_
  refine J.sub (jsub_s (jsub_s (jsub_s (jsub_s (jsub_s (jsub_n (jsub_n (jsub_nil _)))))))) ?_
  exact wbL_law_1716 hst fuel _ hq23 hk hn ha0 hf
theorem wbL_law_842 {g : JG} {nm : String} (hst : (jl g).stackTraces = false) (fuel : Nat) (q23 : Nat → Nat → Nat → Nat → Int32 → Nat → AH → Option Unit) {a0 : Nat} {a1 : Nat} {a2 : Nat} {a3 : Nat} {x4 : Int32} (hq23 : ∀ (a0 : Nat) (a1 : Nat) (a2 : Nat) (a3 : Nat) (x4 : Int32) (z : Nat) (h : AH) (k n : Nat), a0 = jsb g → k + fuel * 16 ≤ 601024 → n + fuel * 4608 ≤ 7293034 → q23 a0 a1 a2 a3 x4 z h = some () → J g (ML_law nm) (jLw g) 23 [some (.ref a0), some (.ref a1), some (.ref a2), some (.ref a3), some (.int x4), none, none] [] z h k n) {z : Nat} {h : AH} {k n : Nat} (hk : k + fuel * 16 ≤ 601024) (hn : n + fuel * 4608 ≤ 7293034) (ha0 : a0 = jsb g) (hf : bL_law_842 (jsx g) (jsl g) q23 a0 a1 a2 a3 x4 z h = some ()) : J g (ML_law nm) (jLw g) 842 [some (.ref a0), some (.ref a1), some (.ref a2), some (.ref a3), some (.int x4), none, none] [] z h k n := by
  unfold bL_law_842 at hf
  refine J_goto (tgt := 1716) dL_law_842 (by decide) ?_
  refine J.sub (jsub_s (jsub_s (jsub_s (jsub_s (jsub_s (jsub_n (jsub_n (jsub_nil _)))))))) ?_
  exact wbL_law_1716 hst fuel _ hq23 hk hn ha0 hf
theorem wbL_law_761 {g : JG} {nm : String} (hst : (jl g).stackTraces = false) (fuel : Nat) (q23 : Nat → Nat → Nat → Nat → Int32 → Nat → AH → Option Unit) {a0 : Nat} {a1 : Nat} {a2 : Nat} {a3 : Nat} {x4 : Int32} (hq23 : ∀ (a0 : Nat) (a1 : Nat) (a2 : Nat) (a3 : Nat) (x4 : Int32) (z : Nat) (h : AH) (k n : Nat), a0 = jsb g → k + fuel * 16 ≤ 601024 → n + fuel * 4608 ≤ 7293034 → q23 a0 a1 a2 a3 x4 z h = some () → J g (ML_law nm) (jLw g) 23 [some (.ref a0), some (.ref a1), some (.ref a2), some (.ref a3), some (.int x4), none, none] [] z h k n) {z : Nat} {h : AH} {k n : Nat} (hk : k + fuel * 16 ≤ 601024) (hn : n + fuel * 4608 ≤ 7293034) (ha0 : a0 = jsb g) (hf : bL_law_761 (jsx g) (jsl g) q23 a0 a1 a2 a3 x4 z h = some ()) : J g (ML_law nm) (jLw g) 761 [some (.ref a0), some (.ref a1), some (.ref a2), some (.ref a3), some (.int x4), none, none] [] z h k n := by
  unfold bL_law_761 at hf
  refine J_goto (tgt := 1716) dL_law_761 (by decide) ?_
  refine J.sub (jsub_s (jsub_s (jsub_s (jsub_s (jsub_s (jsub_n (jsub_n (jsub_nil _)))))))) ?_
  exact wbL_law_1716 hst fuel _ hq23 hk hn ha0 hf
theorem wbL_law_705 {g : JG} {nm : String} (hst : (jl g).stackTraces = false) (fuel : Nat) (q23 : Nat → Nat → Nat → Nat → Int32 → Nat → AH → Option Unit) {a0 : Nat} {a1 : Nat} {a2 : Nat} {a3 : Nat} {x4 : Int32} (hq23 : ∀ (a0 : Nat) (a1 : Nat) (a2 : Nat) (a3 : Nat) (x4 : Int32) (z : Nat) (h : AH) (k n : Nat), a0 = jsb g → k + fuel * 16 ≤ 601024 → n + fuel * 4608 ≤ 7293034 → q23 a0 a1 a2 a3 x4 z h = some () → J g (ML_law nm) (jLw g) 23 [some (.ref a0), some (.ref a1), some (.ref a2), some (.ref a3), some (.int x4), none, none] [] z h k n) {z : Nat} {h : AH} {k n : Nat} (hk : k + fuel * 16 ≤ 601024) (hn : n + fuel * 4608 ≤ 7293034) (ha0 : a0 = jsb g) (hf : bL_law_705 (jsx g) (jsl g) q23 a0 a1 a2 a3 x4 z h = some ()) : J g (ML_law nm) (jLw g) 705 [some (.ref a0), some (.ref a1), some (.ref a2), some (.ref a3), some (.int x4), none, none] [] z h k n := by
  unfold bL_law_705 at hf
  refine J_goto (tgt := 1716) dL_law_705 (by decide) ?_
  refine J.sub (jsub_s (jsub_s (jsub_s (jsub_s (jsub_s (jsub_n (jsub_n (jsub_nil _)))))))) ?_
  exact wbL_law_1716 hst fuel _ hq23 hk hn ha0 hf
theorem wbL_law_649 {g : JG} {nm : String} (hst : (jl g).stackTraces = false) (fuel : Nat) (q23 : Nat → Nat → Nat → Nat → Int32 → Nat → AH → Option Unit) {a0 : Nat} {a1 : Nat} {a2 : Nat} {a3 : Nat} {x4 : Int32} (hq23 : ∀ (a0 : Nat) (a1 : Nat) (a2 : Nat) (a3 : Nat) (x4 : Int32) (z : Nat) (h : AH) (k n : Nat), a0 = jsb g → k + fuel * 16 ≤ 601024 → n + fuel * 4608 ≤ 7293034 → q23 a0 a1 a2 a3 x4 z h = some () → J g (ML_law nm) (jLw g) 23 [some (.ref a0), some (.ref a1), some (.ref a2), some (.ref a3), some (.int x4), none, none] [] z h k n) {z : Nat} {h : AH} {k n : Nat} (hk : k + fuel * 16 ≤ 601024) (hn : n + fuel * 4608 ≤ 7293034) (ha0 : a0 = jsb g) (hf : bL_law_649 (jsx g) (jsl g) q23 a0 a1 a2 a3 x4 z h = some ()) : J g (ML_law nm) (jLw g) 649 [some (.ref a0), some (.ref a1), some (.ref a2), some (.ref a3), some (.int x4), none, none] [] z h k n := by
  unfold bL_law_649 at hf
  refine J_goto (tgt := 1716) dL_law_649 (by decide) ?_
  refine J.sub (jsub_s (jsub_s (jsub_s (jsub_s (jsub_s (jsub_n (jsub_n (jsub_nil _)))))))) ?_
  exact wbL_law_1716 hst fuel _ hq23 hk hn ha0 hf
theorem wbL_law_593 {g : JG} {nm : String} (hst : (jl g).stackTraces = false) (fuel : Nat) (q23 : Nat → Nat → Nat → Nat → Int32 → Nat → AH → Option Unit) {a0 : Nat} {a1 : Nat} {a2 : Nat} {a3 : Nat} {x4 : Int32} (hq23 : ∀ (a0 : Nat) (a1 : Nat) (a2 : Nat) (a3 : Nat) (x4 : Int32) (z : Nat) (h : AH) (k n : Nat), a0 = jsb g → k + fuel * 16 ≤ 601024 → n + fuel * 4608 ≤ 7293034 → q23 a0 a1 a2 a3 x4 z h = some () → J g (ML_law nm) (jLw g) 23 [some (.ref a0), some (.ref a1), some (.ref a2), some (.ref a3), some (.int x4), none, none] [] z h k n) {z : Nat} {h : AH} {k n : Nat} (hk : k + fuel * 16 ≤ 601024) (hn : n + fuel * 4608 ≤ 7293034) (ha0 : a0 = jsb g) (hf : bL_law_593 (jsx g) (jsl g) q23 a0 a1 a2 a3 x4 z h = some ()) : J g (ML_law nm) (jLw g) 593 [some (.ref a0), some (.ref a1), some (.ref a2), some (.ref a3), some (.int x4), none, none] [] z h k n := by
  unfold bL_law_593 at hf
  refine J_goto (tgt := 1716) dL_law_593 (by decide) ?_
  refine J.sub (jsub_s (jsub_s (jsub_s (jsub_s (jsub_s (jsub_n (jsub_n (jsub_nil _)))))))) ?_
  exact wbL_law_1716 hst fuel _ hq23 hk hn ha0 hf
theorem wbL_law_525 {g : JG} {nm : String} (hst : (jl g).stackTraces = false) (fuel : Nat) (q23 : Nat → Nat → Nat → Nat → Int32 → Nat → AH → Option Unit) {a0 : Nat} {a1 : Nat} {a2 : Nat} {a3 : Nat} {x4 : Int32} (hq23 : ∀ (a0 : Nat) (a1 : Nat) (a2 : Nat) (a3 : Nat) (x4 : Int32) (z : Nat) (h : AH) (k n : Nat), a0 = jsb g → k + fuel * 16 ≤ 601024 → n + fuel * 4608 ≤ 7293034 → q23 a0 a1 a2 a3 x4 z h = some () → J g (ML_law nm) (jLw g) 23 [some (.ref a0), some (.ref a1), some (.ref a2), some (.ref a3), some (.int x4), none, none] [] z h k n) {z : Nat} {h : AH} {k n : Nat} (hk : k + fuel * 16 ≤ 601024) (hn : n + fuel * 4608 ≤ 7293034) (ha0 : a0 = jsb g) (hf : bL_law_525 (jsx g) (jsl g) q23 a0 a1 a2 a3 x4 z h = some ()) : J g (ML_law nm) (jLw g) 525 [some (.ref a0), some (.ref a1), some (.ref a2), some (.ref a3), some (.int x4), none, none] [] z h k n := by
  unfold bL_law_525 at hf
  refine J_goto (tgt := 1716) dL_law_525 (by decide) ?_
  refine J.sub (jsub_s (jsub_s (jsub_s (jsub_s (jsub_s (jsub_n (jsub_n (jsub_nil _)))))))) ?_
  exact wbL_law_1716 hst fuel _ hq23 hk hn ha0 hf
theorem wbL_law_457 {g : JG} {nm : String} (hst : (jl g).stackTraces = false) (fuel : Nat) (q23 : Nat → Nat → Nat → Nat → Int32 → Nat → AH → Option Unit) {a0 : Nat} {a1 : Nat} {a2 : Nat} {a3 : Nat} {x4 : Int32} (hq23 : ∀ (a0 : Nat) (a1 : Nat) (a2 : Nat) (a3 : Nat) (x4 : Int32) (z : Nat) (h : AH) (k n : Nat), a0 = jsb g → k + fuel * 16 ≤ 601024 → n + fuel * 4608 ≤ 7293034 → q23 a0 a1 a2 a3 x4 z h = some () → J g (ML_law nm) (jLw g) 23 [some (.ref a0), some (.ref a1), some (.ref a2), some (.ref a3), some (.int x4), none, none] [] z h k n) {z : Nat} {h : AH} {k n : Nat} (hk : k + fuel * 16 ≤ 601024) (hn : n + fuel * 4608 ≤ 7293034) (ha0 : a0 = jsb g) (hf : bL_law_457 (jsx g) (jsl g) q23 a0 a1 a2 a3 x4 z h = some ()) : J g (ML_law nm) (jLw g) 457 [some (.ref a0), some (.ref a1), some (.ref a2), some (.ref a3), some (.int x4), none, none] [] z h k n := by
  unfold bL_law_457 at hf
  refine J_goto (tgt := 1716) dL_law_457 (by decide) ?_
  refine J.sub (jsub_s (jsub_s (jsub_s (jsub_s (jsub_s (jsub_n (jsub_n (jsub_nil _)))))))) ?_
  exact wbL_law_1716 hst fuel _ hq23 hk hn ha0 hf
theorem wbL_law_401 {g : JG} {nm : String} (hst : (jl g).stackTraces = false) (fuel : Nat) (q23 : Nat → Nat → Nat → Nat → Int32 → Nat → AH → Option Unit) {a0 : Nat} {a1 : Nat} {a2 : Nat} {a3 : Nat} {x4 : Int32} (hq23 : ∀ (a0 : Nat) (a1 : Nat) (a2 : Nat) (a3 : Nat) (x4 : Int32) (z : Nat) (h : AH) (k n : Nat), a0 = jsb g → k + fuel * 16 ≤ 601024 → n + fuel * 4608 ≤ 7293034 → q23 a0 a1 a2 a3 x4 z h = some () → J g (ML_law nm) (jLw g) 23 [some (.ref a0), some (.ref a1), some (.ref a2), some (.ref a3), some (.int x4), none, none] [] z h k n) {z : Nat} {h : AH} {k n : Nat} (hk : k + fuel * 16 ≤ 601024) (hn : n + fuel * 4608 ≤ 7293034) (ha0 : a0 = jsb g) (hf : bL_law_401 (jsx g) (jsl g) q23 a0 a1 a2 a3 x4 z h = some ()) : J g (ML_law nm) (jLw g) 401 [some (.ref a0), some (.ref a1), some (.ref a2), some (.ref a3), some (.int x4), none, none] [] z h k n := by
  unfold bL_law_401 at hf
  refine J_goto (tgt := 1716) dL_law_401 (by decide) ?_
  refine J.sub (jsub_s (jsub_s (jsub_s (jsub_s (jsub_s (jsub_n (jsub_n (jsub_nil _)))))))) ?_
  exact wbL_law_1716 hst fuel _ hq23 hk hn ha0 hf
theorem wbL_law_395 {g : JG} {nm : String} (hst : (jl g).stackTraces = false) (fuel : Nat) (q23 : Nat → Nat → Nat → Nat → Int32 → Nat → AH → Option Unit) {a0 : Nat} {a1 : Nat} {a2 : Nat} {a3 : Nat} {x4 : Int32} {t0 : Int64} {t1 : Int64} (hq23 : ∀ (a0 : Nat) (a1 : Nat) (a2 : Nat) (a3 : Nat) (x4 : Int32) (z : Nat) (h : AH) (k n : Nat), a0 = jsb g → k + fuel * 16 ≤ 601024 → n + fuel * 4608 ≤ 7293034 → q23 a0 a1 a2 a3 x4 z h = some () → J g (ML_law nm) (jLw g) 23 [some (.ref a0), some (.ref a1), some (.ref a2), some (.ref a3), some (.int x4), none, none] [] z h k n) {z : Nat} {h : AH} {k n : Nat} (hk : k + fuel * 16 ≤ 601024) (hn : n + fuel * 4608 ≤ 7293034) (ha0 : a0 = jsb g) (hf : bL_law_395 (jsx g) (jsl g) q23 a0 a1 a2 a3 x4 t0 t1 z h = some ()) : J g (ML_law nm) (jLw g) 395 [some (.ref a0), some (.ref a1), some (.ref a2), some (.ref a3), some (.int x4), none, none] [.long t1, .long t0] z h k n := by
  unfold bL_law_395 at hf
  refine J_lcmp dL_law_395 ?_
  rcases br hf with ⟨c1, hf⟩ | ⟨c1, hf⟩
  · refine J_if_eq (tgt := 401) dL_law_396 (by decide) (fun _ => ?_) (fun w => absurd c1 w)
    refine J.sub (jsub_s (jsub_s (jsub_s (jsub_s (jsub_s (jsub_n (jsub_n (jsub_nil _)))))))) ?_
    exact wbL_law_401 hst fuel _ hq23 hk hn ha0 hf
  · refine J_if_eq (tgt := 401) dL_law_396 (by decide) (fun w => absurd w c1) (fun _ => ?_)
    refine J_iconst (v := 0) dL_law_399 (by decide) ?_
    cases hf
theorem wbL_law_326 {g : JG} {nm : String} (hst : (jl g).stackTraces = false) (fuel : Nat) (q23 : Nat → Nat → Nat → Nat → Int32 → Nat → AH → Option Unit) {a0 : Nat} {a1 : Nat} {a2 : Nat} {a3 : Nat} {x4 : Int32} (hq23 : ∀ (a0 : Nat) (a1 : Nat) (a2 : Nat) (a3 : Nat) (x4 : Int32) (z : Nat) (h : AH) (k n : Nat), a0 = jsb g → k + fuel * 16 ≤ 601024 → n + fuel * 4608 ≤ 7293034 → q23 a0 a1 a2 a3 x4 z h = some () → J g (ML_law nm) (jLw g) 23 [some (.ref a0), some (.ref a1), some (.ref a2), some (.ref a3), some (.int x4), none, none] [] z h k n) {z : Nat} {h : AH} {k n : Nat} (hk : k + fuel * 16 ≤ 601024) (hn : n + fuel * 4608 ≤ 7293034) (ha0 : a0 = jsb g) (hf : bL_law_326 (jsx g) (jsl g) q23 a0 a1 a2 a3 x4 z h = some ()) : J g (ML_law nm) (jLw g) 326 [some (.ref a0), some (.ref a1), some (.ref a2), some (.ref a3), some (.int x4), none, none] [] z h k n := by
  unfold bL_law_326 at hf
  refine J_goto (tgt := 1716) dL_law_326 (by decide) ?_
  refine J.sub (jsub_s (jsub_s (jsub_s (jsub_s (jsub_s (jsub_n (jsub_n (jsub_nil _)))))))) ?_
  exact wbL_law_1716 hst fuel _ hq23 hk hn ha0 hf
theorem wbL_law_245 {g : JG} {nm : String} (hst : (jl g).stackTraces = false) (fuel : Nat) (q23 : Nat → Nat → Nat → Nat → Int32 → Nat → AH → Option Unit) {a0 : Nat} {a1 : Nat} {a2 : Nat} {a3 : Nat} {x4 : Int32} (hq23 : ∀ (a0 : Nat) (a1 : Nat) (a2 : Nat) (a3 : Nat) (x4 : Int32) (z : Nat) (h : AH) (k n : Nat), a0 = jsb g → k + fuel * 16 ≤ 601024 → n + fuel * 4608 ≤ 7293034 → q23 a0 a1 a2 a3 x4 z h = some () → J g (ML_law nm) (jLw g) 23 [some (.ref a0), some (.ref a1), some (.ref a2), some (.ref a3), some (.int x4), none, none] [] z h k n) {z : Nat} {h : AH} {k n : Nat} (hk : k + fuel * 16 ≤ 601024) (hn : n + fuel * 4608 ≤ 7293034) (ha0 : a0 = jsb g) (hf : bL_law_245 (jsx g) (jsl g) q23 a0 a1 a2 a3 x4 z h = some ()) : J g (ML_law nm) (jLw g) 245 [some (.ref a0), some (.ref a1), some (.ref a2), some (.ref a3), some (.int x4), none, none] [] z h k n := by
  unfold bL_law_245 at hf
  refine J_goto (tgt := 1716) dL_law_245 (by decide) ?_
  refine J.sub (jsub_s (jsub_s (jsub_s (jsub_s (jsub_s (jsub_n (jsub_n (jsub_nil _)))))))) ?_
  exact wbL_law_1716 hst fuel _ hq23 hk hn ha0 hf
theorem wlL_law_23 {g : JG} {nm : String} (hst : (jl g).stackTraces = false) : ∀ (fuel : Nat) (a0 : Nat) (a1 : Nat) (a2 : Nat) (a3 : Nat) (x4 : Int32) (z : Nat) (h : AH) (k n : Nat), a0 = jsb g → k + fuel * 16 ≤ 601024 → n + fuel * 4608 ≤ 7293034 → lL_law_23 (jsx g) (jsl g) fuel a0 a1 a2 a3 x4 z h = some () → J g (ML_law nm) (jLw g) 23 [some (.ref a0), some (.ref a1), some (.ref a2), some (.ref a3), some (.int x4), none, none] [] z h k n := by
  intro fuel
  induction fuel with
  | zero => intro a0 a1 a2 a3 x4 z h k n ha0 hk hn hf; cases hf
  | succ fuel ih =>
    intro a0 a1 a2 a3 x4 z h k n ha0 hk hn hf
    have hk0 : k + fuel * 16 + 16 ≤ 601024 := by rw [Nat.add_mul, Nat.one_mul, ← Nat.add_assoc] at hk; exact hk
    have hn0 : n + fuel * 4608 + 4608 ≤ 7293034 := by rw [Nat.add_mul, Nat.one_mul, ← Nat.add_assoc] at hn; exact hn
    clear hk hn
    have hq23 := ih
    have hf : lL_law_23B (jsx g) (jsl g) (lL_law_23 (jsx g) (jsl g) fuel) a0 a1 a2 a3 x4 z h = some () := hf
    generalize lL_law_23 (jsx g) (jsl g) fuel = q23 at hf hq23
    unfold lL_law_23B at hf
    refine J_iload dL_law_23 rfl ?_
    refine J_aload_n dL_law_25 rfl rfl ?_
    refine J_scrLen ha0 dL_law_26 ?_
    refine J_iconst (v := 3) dL_law_27 (by decide) ?_
    refine J_isub dL_law_28 ?_
    rcases br hf with ⟨c1, hf⟩ | ⟨c1, hf⟩
    · refine J_icmp_gt (tgt := 1722) dL_law_29 (by decide) (fun _ => ?_) (fun w => absurd c1 w)
      refine J_iconst (v := 1) dL_law_1722 (by decide) ?_
      exact J_lawret dL_law_1723 (by omega) (by omega)
    · refine J_icmp_gt (tgt := 1722) dL_law_29 (by decide) (fun w => absurd w c1) (fun _ => ?_)
      refine J_aload_n dL_law_32 rfl rfl ?_
      refine J_iload dL_law_33 rfl ?_
      obtain ⟨n2, hf⟩ := gds hf
      refine J_scrLoad ha0 dL_law_35 n2 ?_
      refine J_bipush (v := 63) dL_law_36 (by decide) ?_
      refine J_iand dL_law_38 ?_
      rcases br hf with ⟨c3, hf⟩ | ⟨c3, hf⟩
      · refine J_tableC (off := 153) (tgt := 192) c3 dL_law_39 (by decide) (by decide) (by decide) (by decide) ?_
        refine J_aload_n dL_law_192 rfl rfl ?_
        refine J_aload_n dL_law_193 rfl rfl ?_
        refine J_iload dL_law_194 rfl ?_
        refine J_iconst (v := 1) dL_law_196 (by decide) ?_
        refine J_iadd dL_law_197 ?_
        obtain ⟨n4, hf⟩ := gds hf
        refine J_scrLoad ha0 dL_law_198 n4 ?_
        refine J_aload_n dL_law_199 rfl rfl ?_
        obtain ⟨vo5, zo5, ho5h, ho5, hf⟩ := rfs3 hf
        refine CSW3i dL_law_200 (mL_addResource hst ho5) tk_543 iL_addResource ⟨Nat.le_of_ble_eq_true rfl, Nat.le_of_ble_eq_true rfl⟩ ⟨(by show k + 16 ≤ 601024; omega), (by show n + 292 ≤ 7293034; omega)⟩ (Nat.le_of_ble_eq_true rfl) ?_
        refine J.kn (k' := k + 16) (n' := n + 292) rfl rfl ?_
        refine S_istore_5 dL_law_203 rfl (Nat.le_of_ble_eq_true rfl) ?_
        refine J_aload_n dL_law_205 rfl rfl ?_
        refine J_aload_n dL_law_206 rfl rfl ?_
        refine J_iload dL_law_207 rfl ?_
        refine J_iconst (v := 1) dL_law_209 (by decide) ?_
        refine J_iadd dL_law_210 ?_
        obtain ⟨n6, hf⟩ := gds hf
        refine J_scrLoad ha0 dL_law_211 n6 ?_
        obtain ⟨k7, hf⟩ := gds hf
        obtain ⟨vo8, zo8, ho8h, ho8, hf⟩ := rfs3 hf
        refine CV1i dL_law_212 (mX9_addResource hst ho8) tk_988 iX9_addResource k7 (by decide) rfl ⟨Nat.le_of_ble_eq_true rfl, Nat.le_of_ble_eq_true rfl⟩ ⟨(by show k + 16 + 0 ≤ 601024; omega), (by show n + 292 + 0 ≤ 7293034; omega)⟩ (Nat.le_of_ble_eq_true rfl) ?_
        refine J.kn (k' := k + 16) (n' := n + 292) (Nat.add_zero _) (Nat.add_zero _) ?_
        refine S_istore_6 dL_law_215 rfl (Nat.le_of_ble_eq_true rfl) ?_
        refine J_aload_n dL_law_217 rfl rfl ?_
        obtain ⟨k9, hf⟩ := gds hf
        obtain ⟨vo10, zo10, ho10h, ho10, hf⟩ := rfs3 hf
        refine CV0i dL_law_218 (mX9_thrown hst ho10) tk_980 iX9_thrown k9 (by decide) rfl ⟨Nat.le_of_ble_eq_true rfl, Nat.le_of_ble_eq_true rfl⟩ ⟨(by show k + 16 + 0 ≤ 601024; omega), (by show n + 292 + 0 ≤ 7293034; omega)⟩ (Nat.le_of_ble_eq_true rfl) ?_
        refine J.kn (k' := k + 16) (n' := n + 292) (Nat.add_zero _) (Nat.add_zero _) ?_
        refine J_iload dL_law_221 rfl ?_
        rcases br hf with ⟨c11, hf⟩ | ⟨c11, hf⟩
        · refine J_icmp_eq (tgt := 228) dL_law_223 (by decide) (fun _ => ?_) (fun w => absurd c11 w)
          refine J_iload dL_law_228 rfl ?_
          rcases br hf with ⟨c12, hf⟩ | ⟨c12, hf⟩
          · refine J_if_ne (tgt := 245) dL_law_230 (by decide) (fun w => absurd c12 w) (fun _ => ?_)
            refine J_aload_n dL_law_233 rfl rfl ?_
            refine J_iconst (v := 0) dL_law_234 (by decide) ?_
            obtain ⟨k13, hf⟩ := gds hf
            obtain ⟨n14, hf⟩ := gds hf
            refine J_laload dL_law_235 k13 n14 ?_
            refine J_iload dL_law_236 rfl ?_
            refine J_i2l dL_law_238 ?_
            refine J_lcmp dL_law_239 ?_
            rcases br hf with ⟨c15, hf⟩ | ⟨c15, hf⟩
            · refine J_if_eq (tgt := 245) dL_law_240 (by decide) (fun _ => ?_) (fun w => absurd c15 w)
              refine J.sub (jsub_s (jsub_s (jsub_s (jsub_s (jsub_s (jsub_n (jsub_n (jsub_nil _)))))))) ?_
              exact wbL_law_245 hst fuel _ hq23 (by show k + 16 + fuel * 16 ≤ 601024; omega) (by show n + 292 + fuel * 4608 ≤ 7293034; omega) ha0 hf
            · refine J_if_eq (tgt := 245) dL_law_240 (by decide) (fun w => absurd w c15) (fun _ => ?_)
              refine J_iconst (v := 0) dL_law_243 (by decide) ?_
              cases hf
          · refine J_if_ne (tgt := 245) dL_law_230 (by decide) (fun _ => ?_) (fun w => absurd w c12)
            refine J.sub (jsub_s (jsub_s (jsub_s (jsub_s (jsub_s (jsub_n (jsub_n (jsub_nil _)))))))) ?_
            exact wbL_law_245 hst fuel _ hq23 (by show k + 16 + fuel * 16 ≤ 601024; omega) (by show n + 292 + fuel * 4608 ≤ 7293034; omega) ha0 hf
        · refine J_icmp_eq (tgt := 228) dL_law_223 (by decide) (fun w => absurd w c11) (fun _ => ?_)
          refine J_iconst (v := 0) dL_law_226 (by decide) ?_
          cases hf
      · skip
        rcases br hf with ⟨c16, hf⟩ | ⟨c16, hf⟩
        · refine J_tableC (off := 209) (tgt := 248) c16 dL_law_39 (by decide) (by decide) (by decide) (by decide) ?_
          refine J_aload_n dL_law_248 rfl rfl ?_
          obtain ⟨k17, hf⟩ := gds hf
          obtain ⟨vo18, zo18, ho18h, ho18, hf⟩ := rfs3 hf
          refine CV0i dL_law_249 (mX8_resources hst ho18) tk_269 iX8_resources k17 (by decide) rfl ⟨Nat.le_of_ble_eq_true rfl, Nat.le_of_ble_eq_true rfl⟩ ⟨(by show k + 0 ≤ 601024; omega), (by show n + 0 ≤ 7293034; omega)⟩ (Nat.le_of_ble_eq_true rfl) ?_
          refine J.kn (k' := k) (n' := n) (Nat.add_zero _) (Nat.add_zero _) ?_
          refine J_aload_n dL_law_252 rfl rfl ?_
          obtain ⟨k19, hf⟩ := gds hf
          obtain ⟨vo20, zo20, ho20h, ho20, hf⟩ := rfs3 hf
          refine CV0i dL_law_253 (mX9_resources hst ho20) tk_1007 iX9_resources k19 (by decide) rfl ⟨Nat.le_of_ble_eq_true rfl, Nat.le_of_ble_eq_true rfl⟩ ⟨(by show k + 0 ≤ 601024; omega), (by show n + 0 ≤ 7293034; omega)⟩ (Nat.le_of_ble_eq_true rfl) ?_
          refine J.kn (k' := k) (n' := n) (Nat.add_zero _) (Nat.add_zero _) ?_
          rcases br hf with ⟨c21, hf⟩ | ⟨c21, hf⟩
          · refine J_icmp_eq (tgt := 1716) dL_law_256 (by decide) (fun _ => ?_) (fun w => absurd c21 w)
            refine J.sub (jsub_s (jsub_s (jsub_s (jsub_s (jsub_s (jsub_n (jsub_n (jsub_nil _)))))))) ?_
            exact wbL_law_1716 hst fuel _ hq23 (Nat.le_of_add_right_le hk0) (Nat.le_of_add_right_le hn0) ha0 hf
          · refine J_icmp_eq (tgt := 1716) dL_law_256 (by decide) (fun w => absurd w c21) (fun _ => ?_)
            refine J_iconst (v := 0) dL_law_259 (by decide) ?_
            cases hf
        · skip
          rcases br hf with ⟨c22, hf⟩ | ⟨c22, hf⟩
          · refine J_tableC (off := 222) (tgt := 261) c22 dL_law_39 (by decide) (by decide) (by decide) (by decide) ?_
            refine J_aload_n dL_law_261 rfl rfl ?_
            refine J_aload_n dL_law_262 rfl rfl ?_
            refine J_iload dL_law_263 rfl ?_
            refine J_iconst (v := 1) dL_law_265 (by decide) ?_
            refine J_iadd dL_law_266 ?_
            obtain ⟨n23, hf⟩ := gds hf
            refine J_scrLoad ha0 dL_law_267 n23 ?_
            refine J_aload_n dL_law_268 rfl rfl ?_
            refine J_iload dL_law_269 rfl ?_
            refine J_iconst (v := 2) dL_law_271 (by decide) ?_
            refine J_iadd dL_law_272 ?_
            obtain ⟨n24, hf⟩ := gds hf
            refine J_scrLoad ha0 dL_law_273 n24 ?_
            refine J_aload_n dL_law_274 rfl rfl ?_
            obtain ⟨vo25, zo25, ho25h, ho25, hf⟩ := rfs3 hf
            refine CSW4i dL_law_275 (mL_resource hst ho25) tk_588 iL_resource ⟨Nat.le_of_ble_eq_true rfl, Nat.le_of_ble_eq_true rfl⟩ ⟨(by show k + 1 ≤ 601024; omega), (by show n + 6 ≤ 7293034; omega)⟩ (Nat.le_of_ble_eq_true rfl) ?_
            refine J.kn (k' := k + 1) (n' := n + 6) rfl rfl ?_
            refine S_istore_5 dL_law_278 rfl (Nat.le_of_ble_eq_true rfl) ?_
            refine J_aload_n dL_law_280 rfl rfl ?_
            refine J_aload_n dL_law_281 rfl rfl ?_
            refine J_iload dL_law_282 rfl ?_
            refine J_iconst (v := 1) dL_law_284 (by decide) ?_
            refine J_iadd dL_law_285 ?_
            obtain ⟨n26, hf⟩ := gds hf
            refine J_scrLoad ha0 dL_law_286 n26 ?_
            refine J_aload_n dL_law_287 rfl rfl ?_
            refine J_iload dL_law_288 rfl ?_
            refine J_iconst (v := 2) dL_law_290 (by decide) ?_
            refine J_iadd dL_law_291 ?_
            obtain ⟨n27, hf⟩ := gds hf
            refine J_scrLoad ha0 dL_law_292 n27 ?_
            obtain ⟨k28, hf⟩ := gds hf
            obtain ⟨vo29, zo29, ho29h, ho29, hf⟩ := rfs3 hf
            refine CV2i dL_law_293 (mX9_resource hst ho29) tk_1011 iX9_resource k28 (by decide) rfl ⟨Nat.le_of_ble_eq_true rfl, Nat.le_of_ble_eq_true rfl⟩ ⟨(by show k + 1 + 0 ≤ 601024; omega), (by show n + 6 + 0 ≤ 7293034; omega)⟩ (Nat.le_of_ble_eq_true rfl) ?_
            refine J.kn (k' := k + 1) (n' := n + 6) (Nat.add_zero _) (Nat.add_zero _) ?_
            refine S_istore_6 dL_law_296 rfl (Nat.le_of_ble_eq_true rfl) ?_
            refine J_aload_n dL_law_298 rfl rfl ?_
            obtain ⟨k30, hf⟩ := gds hf
            obtain ⟨vo31, zo31, ho31h, ho31, hf⟩ := rfs3 hf
            refine CV0i dL_law_299 (mX9_thrown hst ho31) tk_980 iX9_thrown k30 (by decide) rfl ⟨Nat.le_of_ble_eq_true rfl, Nat.le_of_ble_eq_true rfl⟩ ⟨(by show k + 1 + 0 ≤ 601024; omega), (by show n + 6 + 0 ≤ 7293034; omega)⟩ (Nat.le_of_ble_eq_true rfl) ?_
            refine J.kn (k' := k + 1) (n' := n + 6) (Nat.add_zero _) (Nat.add_zero _) ?_
            refine J_iload dL_law_302 rfl ?_
            rcases br hf with ⟨c32, hf⟩ | ⟨c32, hf⟩
            · refine J_icmp_eq (tgt := 309) dL_law_304 (by decide) (fun _ => ?_) (fun w => absurd c32 w)
              refine J_iload dL_law_309 rfl ?_
              rcases br hf with ⟨c33, hf⟩ | ⟨c33, hf⟩
              · refine J_if_ne (tgt := 326) dL_law_311 (by decide) (fun w => absurd c33 w) (fun _ => ?_)
                refine J_aload_n dL_law_314 rfl rfl ?_
                refine J_iconst (v := 0) dL_law_315 (by decide) ?_
                obtain ⟨k34, hf⟩ := gds hf
                obtain ⟨n35, hf⟩ := gds hf
                refine J_laload dL_law_316 k34 n35 ?_
                refine J_iload dL_law_317 rfl ?_
                refine J_i2l dL_law_319 ?_
                refine J_lcmp dL_law_320 ?_
                rcases br hf with ⟨c36, hf⟩ | ⟨c36, hf⟩
                · refine J_if_eq (tgt := 326) dL_law_321 (by decide) (fun _ => ?_) (fun w => absurd c36 w)
                  refine J.sub (jsub_s (jsub_s (jsub_s (jsub_s (jsub_s (jsub_n (jsub_n (jsub_nil _)))))))) ?_
                  exact wbL_law_326 hst fuel _ hq23 (by show k + 1 + fuel * 16 ≤ 601024; omega) (by show n + 6 + fuel * 4608 ≤ 7293034; omega) ha0 hf
                · refine J_if_eq (tgt := 326) dL_law_321 (by decide) (fun w => absurd w c36) (fun _ => ?_)
                  refine J_iconst (v := 0) dL_law_324 (by decide) ?_
                  cases hf
              · refine J_if_ne (tgt := 326) dL_law_311 (by decide) (fun _ => ?_) (fun w => absurd w c33)
                refine J.sub (jsub_s (jsub_s (jsub_s (jsub_s (jsub_s (jsub_n (jsub_n (jsub_nil _)))))))) ?_
                exact wbL_law_326 hst fuel _ hq23 (by show k + 1 + fuel * 16 ≤ 601024; omega) (by show n + 6 + fuel * 4608 ≤ 7293034; omega) ha0 hf
            · refine J_icmp_eq (tgt := 309) dL_law_304 (by decide) (fun w => absurd w c32) (fun _ => ?_)
              refine J_iconst (v := 0) dL_law_307 (by decide) ?_
              cases hf
          · skip
            rcases br hf with ⟨c37, hf⟩ | ⟨c37, hf⟩
            · refine J_tableC (off := 290) (tgt := 329) c37 dL_law_39 (by decide) (by decide) (by decide) (by decide) ?_
              refine J_aload_n dL_law_329 rfl rfl ?_
              refine J_aload_n dL_law_330 rfl rfl ?_
              refine J_iload dL_law_331 rfl ?_
              refine J_iconst (v := 1) dL_law_333 (by decide) ?_
              refine J_iadd dL_law_334 ?_
              obtain ⟨n38, hf⟩ := gds hf
              refine J_scrLoad ha0 dL_law_335 n38 ?_
              refine J_aload_n dL_law_336 rfl rfl ?_
              refine J_iload dL_law_337 rfl ?_
              refine J_iconst (v := 2) dL_law_339 (by decide) ?_
              refine J_iadd dL_law_340 ?_
              obtain ⟨n39, hf⟩ := gds hf
              refine J_scrLoad ha0 dL_law_341 n39 ?_
              refine J_aload_n dL_law_342 rfl rfl ?_
              obtain ⟨vo40, zo40, ho40h, ho40, hf⟩ := rfs3 hf
              refine CSW4i dL_law_343 (mL_overlap hst ho40) tk_606 iL_overlap ⟨Nat.le_of_ble_eq_true rfl, Nat.le_of_ble_eq_true rfl⟩ ⟨(by show k + 1 ≤ 601024; omega), (by show n + 6 ≤ 7293034; omega)⟩ (Nat.le_of_ble_eq_true rfl) ?_
              refine J.kn (k' := k + 1) (n' := n + 6) rfl rfl ?_
              refine S_istore_5 dL_law_346 rfl (Nat.le_of_ble_eq_true rfl) ?_
              refine J_aload_n dL_law_348 rfl rfl ?_
              refine J_aload_n dL_law_349 rfl rfl ?_
              refine J_iload dL_law_350 rfl ?_
              refine J_iconst (v := 1) dL_law_352 (by decide) ?_
              refine J_iadd dL_law_353 ?_
              obtain ⟨n41, hf⟩ := gds hf
              refine J_scrLoad ha0 dL_law_354 n41 ?_
              refine J_aload_n dL_law_355 rfl rfl ?_
              refine J_iload dL_law_356 rfl ?_
              refine J_iconst (v := 2) dL_law_358 (by decide) ?_
              refine J_iadd dL_law_359 ?_
              obtain ⟨n42, hf⟩ := gds hf
              refine J_scrLoad ha0 dL_law_360 n42 ?_
              obtain ⟨k43, hf⟩ := gds hf
              obtain ⟨vo44, zo44, ho44h, ho44, hf⟩ := rfs3 hf
              refine CV2i dL_law_361 (mX9_overlap hst ho44) tk_1031 iX9_overlap k43 (by decide) rfl ⟨Nat.le_of_ble_eq_true rfl, Nat.le_of_ble_eq_true rfl⟩ ⟨(by show k + 1 + 0 ≤ 601024; omega), (by show n + 6 + 0 ≤ 7293034; omega)⟩ (Nat.le_of_ble_eq_true rfl) ?_
              refine J.kn (k' := k + 1) (n' := n + 6) (Nat.add_zero _) (Nat.add_zero _) ?_
              refine S_istore_6 dL_law_364 rfl (Nat.le_of_ble_eq_true rfl) ?_
              refine J_aload_n dL_law_366 rfl rfl ?_
              obtain ⟨k45, hf⟩ := gds hf
              obtain ⟨vo46, zo46, ho46h, ho46, hf⟩ := rfs3 hf
              refine CV0i dL_law_367 (mX9_thrown hst ho46) tk_980 iX9_thrown k45 (by decide) rfl ⟨Nat.le_of_ble_eq_true rfl, Nat.le_of_ble_eq_true rfl⟩ ⟨(by show k + 1 + 0 ≤ 601024; omega), (by show n + 6 + 0 ≤ 7293034; omega)⟩ (Nat.le_of_ble_eq_true rfl) ?_
              refine J.kn (k' := k + 1) (n' := n + 6) (Nat.add_zero _) (Nat.add_zero _) ?_
              refine J_iload dL_law_370 rfl ?_
              rcases br hf with ⟨c47, hf⟩ | ⟨c47, hf⟩
              · refine J_icmp_eq (tgt := 377) dL_law_372 (by decide) (fun _ => ?_) (fun w => absurd c47 w)
                refine J_iload dL_law_377 rfl ?_
                rcases br hf with ⟨c48, hf⟩ | ⟨c48, hf⟩
                · refine J_if_ne (tgt := 401) dL_law_379 (by decide) (fun w => absurd c48 w) (fun _ => ?_)
                  refine J_aload_n dL_law_382 rfl rfl ?_
                  refine J_iconst (v := 0) dL_law_383 (by decide) ?_
                  obtain ⟨k49, hf⟩ := gds hf
                  obtain ⟨n50, hf⟩ := gds hf
                  refine J_laload dL_law_384 k49 n50 ?_
                  refine J_iload dL_law_385 rfl ?_
                  rcases br hf with ⟨c51, hf⟩ | ⟨c51, hf⟩
                  · refine J_if_eq (tgt := 394) dL_law_387 (by decide) (fun _ => ?_) (fun w => absurd c51 w)
                    refine J_lconst (v := 0) dL_law_394 (by decide) ?_
                    refine J.sub (jsub_s (jsub_s (jsub_s (jsub_s (jsub_s (jsub_n (jsub_n (jsub_nil _)))))))) ?_
                    exact wbL_law_395 hst fuel _ hq23 (by show k + 1 + fuel * 16 ≤ 601024; omega) (by show n + 6 + fuel * 4608 ≤ 7293034; omega) ha0 hf
                  · refine J_if_eq (tgt := 394) dL_law_387 (by decide) (fun w => absurd w c51) (fun _ => ?_)
                    refine J_lconst (v := 1) dL_law_390 (by decide) ?_
                    refine J_goto (tgt := 395) dL_law_391 (by decide) ?_
                    refine J.sub (jsub_s (jsub_s (jsub_s (jsub_s (jsub_s (jsub_n (jsub_n (jsub_nil _)))))))) ?_
                    exact wbL_law_395 hst fuel _ hq23 (by show k + 1 + fuel * 16 ≤ 601024; omega) (by show n + 6 + fuel * 4608 ≤ 7293034; omega) ha0 hf
                · refine J_if_ne (tgt := 401) dL_law_379 (by decide) (fun _ => ?_) (fun w => absurd w c48)
                  refine J.sub (jsub_s (jsub_s (jsub_s (jsub_s (jsub_s (jsub_n (jsub_n (jsub_nil _)))))))) ?_
                  exact wbL_law_401 hst fuel _ hq23 (by show k + 1 + fuel * 16 ≤ 601024; omega) (by show n + 6 + fuel * 4608 ≤ 7293034; omega) ha0 hf
              · refine J_icmp_eq (tgt := 377) dL_law_372 (by decide) (fun w => absurd w c47) (fun _ => ?_)
                refine J_iconst (v := 0) dL_law_375 (by decide) ?_
                cases hf
            · skip
              rcases br hf with ⟨c52, hf⟩ | ⟨c52, hf⟩
              · refine J_tableC (off := 365) (tgt := 404) c52 dL_law_39 (by decide) (by decide) (by decide) (by decide) ?_
                refine J_aload_n dL_law_404 rfl rfl ?_
                refine J_aload_n dL_law_405 rfl rfl ?_
                refine J_iload dL_law_406 rfl ?_
                refine J_iconst (v := 1) dL_law_408 (by decide) ?_
                refine J_iadd dL_law_409 ?_
                obtain ⟨n53, hf⟩ := gds hf
                refine J_scrLoad ha0 dL_law_410 n53 ?_
                refine J_aload_n dL_law_411 rfl rfl ?_
                obtain ⟨vo54, zo54, ho54h, ho54, hf⟩ := rfs3 hf
                refine CSW3i dL_law_412 (mL_create hst ho54) tk_614 iL_create ⟨Nat.le_of_ble_eq_true rfl, Nat.le_of_ble_eq_true rfl⟩ ⟨(by show k + 16 ≤ 601024; omega), (by show n + 292 ≤ 7293034; omega)⟩ (Nat.le_of_ble_eq_true rfl) ?_
                refine J.kn (k' := k + 16) (n' := n + 292) rfl rfl ?_
                refine S_istore_5 dL_law_415 rfl (Nat.le_of_ble_eq_true rfl) ?_
                refine J_aload_n dL_law_417 rfl rfl ?_
                refine J_aload_n dL_law_418 rfl rfl ?_
                refine J_iload dL_law_419 rfl ?_
                refine J_iconst (v := 1) dL_law_421 (by decide) ?_
                refine J_iadd dL_law_422 ?_
                obtain ⟨n55, hf⟩ := gds hf
                refine J_scrLoad ha0 dL_law_423 n55 ?_
                obtain ⟨k56, hf⟩ := gds hf
                obtain ⟨vo57, zo57, ho57h, ho57, hf⟩ := rfs3 hf
                refine CV1i dL_law_424 (mX9_create hst ho57) tk_1035 iX9_create k56 (by decide) rfl ⟨Nat.le_of_ble_eq_true rfl, Nat.le_of_ble_eq_true rfl⟩ ⟨(by show k + 16 + 0 ≤ 601024; omega), (by show n + 292 + 0 ≤ 7293034; omega)⟩ (Nat.le_of_ble_eq_true rfl) ?_
                refine J.kn (k' := k + 16) (n' := n + 292) (Nat.add_zero _) (Nat.add_zero _) ?_
                refine S_istore_6 dL_law_427 rfl (Nat.le_of_ble_eq_true rfl) ?_
                refine J_aload_n dL_law_429 rfl rfl ?_
                obtain ⟨k58, hf⟩ := gds hf
                obtain ⟨vo59, zo59, ho59h, ho59, hf⟩ := rfs3 hf
                refine CV0i dL_law_430 (mX9_thrown hst ho59) tk_980 iX9_thrown k58 (by decide) rfl ⟨Nat.le_of_ble_eq_true rfl, Nat.le_of_ble_eq_true rfl⟩ ⟨(by show k + 16 + 0 ≤ 601024; omega), (by show n + 292 + 0 ≤ 7293034; omega)⟩ (Nat.le_of_ble_eq_true rfl) ?_
                refine J.kn (k' := k + 16) (n' := n + 292) (Nat.add_zero _) (Nat.add_zero _) ?_
                refine J_iload dL_law_433 rfl ?_
                rcases br hf with ⟨c60, hf⟩ | ⟨c60, hf⟩
                · refine J_icmp_eq (tgt := 440) dL_law_435 (by decide) (fun _ => ?_) (fun w => absurd c60 w)
                  refine J_iload dL_law_440 rfl ?_
                  rcases br hf with ⟨c61, hf⟩ | ⟨c61, hf⟩
                  · refine J_if_ne (tgt := 457) dL_law_442 (by decide) (fun w => absurd c61 w) (fun _ => ?_)
                    refine J_aload_n dL_law_445 rfl rfl ?_
                    refine J_iconst (v := 0) dL_law_446 (by decide) ?_
                    obtain ⟨k62, hf⟩ := gds hf
                    obtain ⟨n63, hf⟩ := gds hf
                    refine J_laload dL_law_447 k62 n63 ?_
                    refine J_iload dL_law_448 rfl ?_
                    refine J_i2l dL_law_450 ?_
                    refine J_lcmp dL_law_451 ?_
                    rcases br hf with ⟨c64, hf⟩ | ⟨c64, hf⟩
                    · refine J_if_eq (tgt := 457) dL_law_452 (by decide) (fun _ => ?_) (fun w => absurd c64 w)
                      refine J.sub (jsub_s (jsub_s (jsub_s (jsub_s (jsub_s (jsub_n (jsub_n (jsub_nil _)))))))) ?_
                      exact wbL_law_457 hst fuel _ hq23 (by show k + 16 + fuel * 16 ≤ 601024; omega) (by show n + 292 + fuel * 4608 ≤ 7293034; omega) ha0 hf
                    · refine J_if_eq (tgt := 457) dL_law_452 (by decide) (fun w => absurd w c64) (fun _ => ?_)
                      refine J_iconst (v := 0) dL_law_455 (by decide) ?_
                      cases hf
                  · refine J_if_ne (tgt := 457) dL_law_442 (by decide) (fun _ => ?_) (fun w => absurd w c61)
                    refine J.sub (jsub_s (jsub_s (jsub_s (jsub_s (jsub_s (jsub_n (jsub_n (jsub_nil _)))))))) ?_
                    exact wbL_law_457 hst fuel _ hq23 (by show k + 16 + fuel * 16 ≤ 601024; omega) (by show n + 292 + fuel * 4608 ≤ 7293034; omega) ha0 hf
                · refine J_icmp_eq (tgt := 440) dL_law_435 (by decide) (fun w => absurd w c60) (fun _ => ?_)
                  refine J_iconst (v := 0) dL_law_438 (by decide) ?_
                  cases hf
              · skip
                rcases br hf with ⟨c65, hf⟩ | ⟨c65, hf⟩
                · refine J_tableC (off := 421) (tgt := 460) c65 dL_law_39 (by decide) (by decide) (by decide) (by decide) ?_
                  refine J_aload_n dL_law_460 rfl rfl ?_
                  refine J_aload_n dL_law_461 rfl rfl ?_
                  refine J_iload dL_law_462 rfl ?_
                  refine J_iconst (v := 1) dL_law_464 (by decide) ?_
                  refine J_iadd dL_law_465 ?_
                  obtain ⟨n66, hf⟩ := gds hf
                  refine J_scrLoad ha0 dL_law_466 n66 ?_
                  refine J_aload_n dL_law_467 rfl rfl ?_
                  refine J_iload dL_law_468 rfl ?_
                  refine J_iconst (v := 2) dL_law_470 (by decide) ?_
                  refine J_iadd dL_law_471 ?_
                  obtain ⟨n67, hf⟩ := gds hf
                  refine J_scrLoad ha0 dL_law_472 n67 ?_
                  refine J_aload_n dL_law_473 rfl rfl ?_
                  obtain ⟨vo68, zo68, ho68h, ho68, hf⟩ := rfs3 hf
                  refine CSW4i dL_law_474 (mL_request hst ho68) tk_631 iL_request ⟨Nat.le_of_ble_eq_true rfl, Nat.le_of_ble_eq_true rfl⟩ ⟨(by show k + 16 ≤ 601024; omega), (by show n + 292 ≤ 7293034; omega)⟩ (Nat.le_of_ble_eq_true rfl) ?_
                  refine J.kn (k' := k + 16) (n' := n + 292) rfl rfl ?_
                  refine S_istore_5 dL_law_477 rfl (Nat.le_of_ble_eq_true rfl) ?_
                  refine J_aload_n dL_law_479 rfl rfl ?_
                  refine J_aload_n dL_law_480 rfl rfl ?_
                  refine J_iload dL_law_481 rfl ?_
                  refine J_iconst (v := 1) dL_law_483 (by decide) ?_
                  refine J_iadd dL_law_484 ?_
                  obtain ⟨n69, hf⟩ := gds hf
                  refine J_scrLoad ha0 dL_law_485 n69 ?_
                  refine J_aload_n dL_law_486 rfl rfl ?_
                  refine J_iload dL_law_487 rfl ?_
                  refine J_iconst (v := 2) dL_law_489 (by decide) ?_
                  refine J_iadd dL_law_490 ?_
                  obtain ⟨n70, hf⟩ := gds hf
                  refine J_scrLoad ha0 dL_law_491 n70 ?_
                  obtain ⟨k71, hf⟩ := gds hf
                  obtain ⟨vo72, zo72, ho72h, ho72, hf⟩ := rfs3 hf
                  refine CV2i dL_law_492 (mX9_request hst ho72) tk_1043 iX9_request k71 (by decide) rfl ⟨Nat.le_of_ble_eq_true rfl, Nat.le_of_ble_eq_true rfl⟩ ⟨(by show k + 16 + 0 ≤ 601024; omega), (by show n + 292 + 0 ≤ 7293034; omega)⟩ (Nat.le_of_ble_eq_true rfl) ?_
                  refine J.kn (k' := k + 16) (n' := n + 292) (Nat.add_zero _) (Nat.add_zero _) ?_
                  refine S_istore_6 dL_law_495 rfl (Nat.le_of_ble_eq_true rfl) ?_
                  refine J_aload_n dL_law_497 rfl rfl ?_
                  obtain ⟨k73, hf⟩ := gds hf
                  obtain ⟨vo74, zo74, ho74h, ho74, hf⟩ := rfs3 hf
                  refine CV0i dL_law_498 (mX9_thrown hst ho74) tk_980 iX9_thrown k73 (by decide) rfl ⟨Nat.le_of_ble_eq_true rfl, Nat.le_of_ble_eq_true rfl⟩ ⟨(by show k + 16 + 0 ≤ 601024; omega), (by show n + 292 + 0 ≤ 7293034; omega)⟩ (Nat.le_of_ble_eq_true rfl) ?_
                  refine J.kn (k' := k + 16) (n' := n + 292) (Nat.add_zero _) (Nat.add_zero _) ?_
                  refine J_iload dL_law_501 rfl ?_
                  rcases br hf with ⟨c75, hf⟩ | ⟨c75, hf⟩
                  · refine J_icmp_eq (tgt := 508) dL_law_503 (by decide) (fun _ => ?_) (fun w => absurd c75 w)
                    refine J_iload dL_law_508 rfl ?_
                    rcases br hf with ⟨c76, hf⟩ | ⟨c76, hf⟩
                    · refine J_if_ne (tgt := 525) dL_law_510 (by decide) (fun w => absurd c76 w) (fun _ => ?_)
                      refine J_aload_n dL_law_513 rfl rfl ?_
                      refine J_iconst (v := 0) dL_law_514 (by decide) ?_
                      obtain ⟨k77, hf⟩ := gds hf
                      obtain ⟨n78, hf⟩ := gds hf
                      refine J_laload dL_law_515 k77 n78 ?_
                      refine J_iload dL_law_516 rfl ?_
                      refine J_i2l dL_law_518 ?_
                      refine J_lcmp dL_law_519 ?_
                      rcases br hf with ⟨c79, hf⟩ | ⟨c79, hf⟩
                      · refine J_if_eq (tgt := 525) dL_law_520 (by decide) (fun _ => ?_) (fun w => absurd c79 w)
                        refine J.sub (jsub_s (jsub_s (jsub_s (jsub_s (jsub_s (jsub_n (jsub_n (jsub_nil _)))))))) ?_
                        exact wbL_law_525 hst fuel _ hq23 (by show k + 16 + fuel * 16 ≤ 601024; omega) (by show n + 292 + fuel * 4608 ≤ 7293034; omega) ha0 hf
                      · refine J_if_eq (tgt := 525) dL_law_520 (by decide) (fun w => absurd w c79) (fun _ => ?_)
                        refine J_iconst (v := 0) dL_law_523 (by decide) ?_
                        cases hf
                    · refine J_if_ne (tgt := 525) dL_law_510 (by decide) (fun _ => ?_) (fun w => absurd w c76)
                      refine J.sub (jsub_s (jsub_s (jsub_s (jsub_s (jsub_s (jsub_n (jsub_n (jsub_nil _)))))))) ?_
                      exact wbL_law_525 hst fuel _ hq23 (by show k + 16 + fuel * 16 ≤ 601024; omega) (by show n + 292 + fuel * 4608 ≤ 7293034; omega) ha0 hf
                  · refine J_icmp_eq (tgt := 508) dL_law_503 (by decide) (fun w => absurd w c75) (fun _ => ?_)
                    refine J_iconst (v := 0) dL_law_506 (by decide) ?_
                    cases hf
                · skip
                  rcases br hf with ⟨c80, hf⟩ | ⟨c80, hf⟩
                  · refine J_tableC (off := 489) (tgt := 528) c80 dL_law_39 (by decide) (by decide) (by decide) (by decide) ?_
                    refine J_aload_n dL_law_528 rfl rfl ?_
                    refine J_aload_n dL_law_529 rfl rfl ?_
                    refine J_iload dL_law_530 rfl ?_
                    refine J_iconst (v := 1) dL_law_532 (by decide) ?_
                    refine J_iadd dL_law_533 ?_
                    obtain ⟨n81, hf⟩ := gds hf
                    refine J_scrLoad ha0 dL_law_534 n81 ?_
                    refine J_aload_n dL_law_535 rfl rfl ?_
                    refine J_iload dL_law_536 rfl ?_
                    refine J_iconst (v := 2) dL_law_538 (by decide) ?_
                    refine J_iadd dL_law_539 ?_
                    obtain ⟨n82, hf⟩ := gds hf
                    refine J_scrLoad ha0 dL_law_540 n82 ?_
                    refine J_aload_n dL_law_541 rfl rfl ?_
                    obtain ⟨vo83, zo83, ho83h, ho83, hf⟩ := rfs3 hf
                    refine CSW4i dL_law_542 (mL_release hst ho83) tk_677 iL_release ⟨Nat.le_of_ble_eq_true rfl, Nat.le_of_ble_eq_true rfl⟩ ⟨(by show k + 16 ≤ 601024; omega), (by show n + 292 ≤ 7293034; omega)⟩ (Nat.le_of_ble_eq_true rfl) ?_
                    refine J.kn (k' := k + 16) (n' := n + 292) rfl rfl ?_
                    refine S_istore_5 dL_law_545 rfl (Nat.le_of_ble_eq_true rfl) ?_
                    refine J_aload_n dL_law_547 rfl rfl ?_
                    refine J_aload_n dL_law_548 rfl rfl ?_
                    refine J_iload dL_law_549 rfl ?_
                    refine J_iconst (v := 1) dL_law_551 (by decide) ?_
                    refine J_iadd dL_law_552 ?_
                    obtain ⟨n84, hf⟩ := gds hf
                    refine J_scrLoad ha0 dL_law_553 n84 ?_
                    refine J_aload_n dL_law_554 rfl rfl ?_
                    refine J_iload dL_law_555 rfl ?_
                    refine J_iconst (v := 2) dL_law_557 (by decide) ?_
                    refine J_iadd dL_law_558 ?_
                    obtain ⟨n85, hf⟩ := gds hf
                    refine J_scrLoad ha0 dL_law_559 n85 ?_
                    obtain ⟨k86, hf⟩ := gds hf
                    obtain ⟨vo87, zo87, ho87h, ho87, hf⟩ := rfs3 hf
                    refine CV2i dL_law_560 (mX9_release hst ho87) tk_1111 iX9_release k86 (by decide) rfl ⟨Nat.le_of_ble_eq_true rfl, Nat.le_of_ble_eq_true rfl⟩ ⟨(by show k + 16 + 0 ≤ 601024; omega), (by show n + 292 + 0 ≤ 7293034; omega)⟩ (Nat.le_of_ble_eq_true rfl) ?_
                    refine J.kn (k' := k + 16) (n' := n + 292) (Nat.add_zero _) (Nat.add_zero _) ?_
                    refine S_istore_6 dL_law_563 rfl (Nat.le_of_ble_eq_true rfl) ?_
                    refine J_aload_n dL_law_565 rfl rfl ?_
                    obtain ⟨k88, hf⟩ := gds hf
                    obtain ⟨vo89, zo89, ho89h, ho89, hf⟩ := rfs3 hf
                    refine CV0i dL_law_566 (mX9_thrown hst ho89) tk_980 iX9_thrown k88 (by decide) rfl ⟨Nat.le_of_ble_eq_true rfl, Nat.le_of_ble_eq_true rfl⟩ ⟨(by show k + 16 + 0 ≤ 601024; omega), (by show n + 292 + 0 ≤ 7293034; omega)⟩ (Nat.le_of_ble_eq_true rfl) ?_
                    refine J.kn (k' := k + 16) (n' := n + 292) (Nat.add_zero _) (Nat.add_zero _) ?_
                    refine J_iload dL_law_569 rfl ?_
                    rcases br hf with ⟨c90, hf⟩ | ⟨c90, hf⟩
                    · refine J_icmp_eq (tgt := 576) dL_law_571 (by decide) (fun _ => ?_) (fun w => absurd c90 w)
                      refine J_iload dL_law_576 rfl ?_
                      rcases br hf with ⟨c91, hf⟩ | ⟨c91, hf⟩
                      · refine J_if_ne (tgt := 593) dL_law_578 (by decide) (fun w => absurd c91 w) (fun _ => ?_)
                        refine J_aload_n dL_law_581 rfl rfl ?_
                        refine J_iconst (v := 0) dL_law_582 (by decide) ?_
                        obtain ⟨k92, hf⟩ := gds hf
                        obtain ⟨n93, hf⟩ := gds hf
                        refine J_laload dL_law_583 k92 n93 ?_
                        refine J_iload dL_law_584 rfl ?_
                        refine J_i2l dL_law_586 ?_
                        refine J_lcmp dL_law_587 ?_
                        rcases br hf with ⟨c94, hf⟩ | ⟨c94, hf⟩
                        · refine J_if_eq (tgt := 593) dL_law_588 (by decide) (fun _ => ?_) (fun w => absurd c94 w)
                          refine J.sub (jsub_s (jsub_s (jsub_s (jsub_s (jsub_s (jsub_n (jsub_n (jsub_nil _)))))))) ?_
                          exact wbL_law_593 hst fuel _ hq23 (by show k + 16 + fuel * 16 ≤ 601024; omega) (by show n + 292 + fuel * 4608 ≤ 7293034; omega) ha0 hf
                        · refine J_if_eq (tgt := 593) dL_law_588 (by decide) (fun w => absurd w c94) (fun _ => ?_)
                          refine J_iconst (v := 0) dL_law_591 (by decide) ?_
                          cases hf
                      · refine J_if_ne (tgt := 593) dL_law_578 (by decide) (fun _ => ?_) (fun w => absurd w c91)
                        refine J.sub (jsub_s (jsub_s (jsub_s (jsub_s (jsub_s (jsub_n (jsub_n (jsub_nil _)))))))) ?_
                        exact wbL_law_593 hst fuel _ hq23 (by show k + 16 + fuel * 16 ≤ 601024; omega) (by show n + 292 + fuel * 4608 ≤ 7293034; omega) ha0 hf
                    · refine J_icmp_eq (tgt := 576) dL_law_571 (by decide) (fun w => absurd w c90) (fun _ => ?_)
                      refine J_iconst (v := 0) dL_law_574 (by decide) ?_
                      cases hf
                  · skip
                    rcases br hf with ⟨c95, hf⟩ | ⟨c95, hf⟩
                    · refine J_tableC (off := 557) (tgt := 596) c95 dL_law_39 (by decide) (by decide) (by decide) (by decide) ?_
                      refine J_aload_n dL_law_596 rfl rfl ?_
                      refine J_aload_n dL_law_597 rfl rfl ?_
                      refine J_iload dL_law_598 rfl ?_
                      refine J_iconst (v := 1) dL_law_600 (by decide) ?_
                      refine J_iadd dL_law_601 ?_
                      obtain ⟨n96, hf⟩ := gds hf
                      refine J_scrLoad ha0 dL_law_602 n96 ?_
                      refine J_aload_n dL_law_603 rfl rfl ?_
                      obtain ⟨vo97, zo97, ho97h, ho97, hf⟩ := rfs3 hf
                      refine CSW3i dL_law_604 (mL_finish hst ho97) tk_702 iL_finish ⟨Nat.le_of_ble_eq_true rfl, Nat.le_of_ble_eq_true rfl⟩ ⟨(by show k + 16 ≤ 601024; omega), (by show n + 292 ≤ 7293034; omega)⟩ (Nat.le_of_ble_eq_true rfl) ?_
                      refine J.kn (k' := k + 16) (n' := n + 292) rfl rfl ?_
                      refine S_istore_5 dL_law_607 rfl (Nat.le_of_ble_eq_true rfl) ?_
                      refine J_aload_n dL_law_609 rfl rfl ?_
                      refine J_aload_n dL_law_610 rfl rfl ?_
                      refine J_iload dL_law_611 rfl ?_
                      refine J_iconst (v := 1) dL_law_613 (by decide) ?_
                      refine J_iadd dL_law_614 ?_
                      obtain ⟨n98, hf⟩ := gds hf
                      refine J_scrLoad ha0 dL_law_615 n98 ?_
                      obtain ⟨k99, hf⟩ := gds hf
                      obtain ⟨vo100, zo100, ho100h, ho100, hf⟩ := rfs3 hf
                      refine CV1i dL_law_616 (mX9_finish hst ho100) tk_1126 iX9_finish k99 (by decide) rfl ⟨Nat.le_of_ble_eq_true rfl, Nat.le_of_ble_eq_true rfl⟩ ⟨(by show k + 16 + 0 ≤ 601024; omega), (by show n + 292 + 0 ≤ 7293034; omega)⟩ (Nat.le_of_ble_eq_true rfl) ?_
                      refine J.kn (k' := k + 16) (n' := n + 292) (Nat.add_zero _) (Nat.add_zero _) ?_
                      refine S_istore_6 dL_law_619 rfl (Nat.le_of_ble_eq_true rfl) ?_
                      refine J_aload_n dL_law_621 rfl rfl ?_
                      obtain ⟨k101, hf⟩ := gds hf
                      obtain ⟨vo102, zo102, ho102h, ho102, hf⟩ := rfs3 hf
                      refine CV0i dL_law_622 (mX9_thrown hst ho102) tk_980 iX9_thrown k101 (by decide) rfl ⟨Nat.le_of_ble_eq_true rfl, Nat.le_of_ble_eq_true rfl⟩ ⟨(by show k + 16 + 0 ≤ 601024; omega), (by show n + 292 + 0 ≤ 7293034; omega)⟩ (Nat.le_of_ble_eq_true rfl) ?_
                      refine J.kn (k' := k + 16) (n' := n + 292) (Nat.add_zero _) (Nat.add_zero _) ?_
                      refine J_iload dL_law_625 rfl ?_
                      rcases br hf with ⟨c103, hf⟩ | ⟨c103, hf⟩
                      · refine J_icmp_eq (tgt := 632) dL_law_627 (by decide) (fun _ => ?_) (fun w => absurd c103 w)
                        refine J_iload dL_law_632 rfl ?_
                        rcases br hf with ⟨c104, hf⟩ | ⟨c104, hf⟩
                        · refine J_if_ne (tgt := 649) dL_law_634 (by decide) (fun w => absurd c104 w) (fun _ => ?_)
                          refine J_aload_n dL_law_637 rfl rfl ?_
                          refine J_iconst (v := 0) dL_law_638 (by decide) ?_
                          obtain ⟨k105, hf⟩ := gds hf
                          obtain ⟨n106, hf⟩ := gds hf
                          refine J_laload dL_law_639 k105 n106 ?_
                          refine J_iload dL_law_640 rfl ?_
                          refine J_i2l dL_law_642 ?_
                          refine J_lcmp dL_law_643 ?_
                          rcases br hf with ⟨c107, hf⟩ | ⟨c107, hf⟩
                          · refine J_if_eq (tgt := 649) dL_law_644 (by decide) (fun _ => ?_) (fun w => absurd c107 w)
                            refine J.sub (jsub_s (jsub_s (jsub_s (jsub_s (jsub_s (jsub_n (jsub_n (jsub_nil _)))))))) ?_
                            exact wbL_law_649 hst fuel _ hq23 (by show k + 16 + fuel * 16 ≤ 601024; omega) (by show n + 292 + fuel * 4608 ≤ 7293034; omega) ha0 hf
                          · refine J_if_eq (tgt := 649) dL_law_644 (by decide) (fun w => absurd w c107) (fun _ => ?_)
                            refine J_iconst (v := 0) dL_law_647 (by decide) ?_
                            cases hf
                        · refine J_if_ne (tgt := 649) dL_law_634 (by decide) (fun _ => ?_) (fun w => absurd w c104)
                          refine J.sub (jsub_s (jsub_s (jsub_s (jsub_s (jsub_s (jsub_n (jsub_n (jsub_nil _)))))))) ?_
                          exact wbL_law_649 hst fuel _ hq23 (by show k + 16 + fuel * 16 ≤ 601024; omega) (by show n + 292 + fuel * 4608 ≤ 7293034; omega) ha0 hf
                      · refine J_icmp_eq (tgt := 632) dL_law_627 (by decide) (fun w => absurd w c103) (fun _ => ?_)
                        refine J_iconst (v := 0) dL_law_630 (by decide) ?_
                        cases hf
                    · skip
                      rcases br hf with ⟨c108, hf⟩ | ⟨c108, hf⟩
                      · refine J_tableC (off := 613) (tgt := 652) c108 dL_law_39 (by decide) (by decide) (by decide) (by decide) ?_
                        refine J_aload_n dL_law_652 rfl rfl ?_
                        refine J_aload_n dL_law_653 rfl rfl ?_
                        refine J_iload dL_law_654 rfl ?_
                        refine J_iconst (v := 1) dL_law_656 (by decide) ?_
                        refine J_iadd dL_law_657 ?_
                        obtain ⟨n109, hf⟩ := gds hf
                        refine J_scrLoad ha0 dL_law_658 n109 ?_
                        refine J_aload_n dL_law_659 rfl rfl ?_
                        obtain ⟨vo110, zo110, ho110h, ho110, hf⟩ := rfs3 hf
                        refine CSW3i dL_law_660 (mL_abort hst ho110) tk_714 iL_abort ⟨Nat.le_of_ble_eq_true rfl, Nat.le_of_ble_eq_true rfl⟩ ⟨(by show k + 16 ≤ 601024; omega), (by show n + 292 ≤ 7293034; omega)⟩ (Nat.le_of_ble_eq_true rfl) ?_
                        refine J.kn (k' := k + 16) (n' := n + 292) rfl rfl ?_
                        refine S_istore_5 dL_law_663 rfl (Nat.le_of_ble_eq_true rfl) ?_
                        refine J_aload_n dL_law_665 rfl rfl ?_
                        refine J_aload_n dL_law_666 rfl rfl ?_
                        refine J_iload dL_law_667 rfl ?_
                        refine J_iconst (v := 1) dL_law_669 (by decide) ?_
                        refine J_iadd dL_law_670 ?_
                        obtain ⟨n111, hf⟩ := gds hf
                        refine J_scrLoad ha0 dL_law_671 n111 ?_
                        obtain ⟨k112, hf⟩ := gds hf
                        obtain ⟨vo113, zo113, ho113h, ho113, hf⟩ := rfs3 hf
                        refine CV1i dL_law_672 (mX9_abort hst ho113) tk_1138 iX9_abort k112 (by decide) rfl ⟨Nat.le_of_ble_eq_true rfl, Nat.le_of_ble_eq_true rfl⟩ ⟨(by show k + 16 + 0 ≤ 601024; omega), (by show n + 292 + 0 ≤ 7293034; omega)⟩ (Nat.le_of_ble_eq_true rfl) ?_
                        refine J.kn (k' := k + 16) (n' := n + 292) (Nat.add_zero _) (Nat.add_zero _) ?_
                        refine S_istore_6 dL_law_675 rfl (Nat.le_of_ble_eq_true rfl) ?_
                        refine J_aload_n dL_law_677 rfl rfl ?_
                        obtain ⟨k114, hf⟩ := gds hf
                        obtain ⟨vo115, zo115, ho115h, ho115, hf⟩ := rfs3 hf
                        refine CV0i dL_law_678 (mX9_thrown hst ho115) tk_980 iX9_thrown k114 (by decide) rfl ⟨Nat.le_of_ble_eq_true rfl, Nat.le_of_ble_eq_true rfl⟩ ⟨(by show k + 16 + 0 ≤ 601024; omega), (by show n + 292 + 0 ≤ 7293034; omega)⟩ (Nat.le_of_ble_eq_true rfl) ?_
                        refine J.kn (k' := k + 16) (n' := n + 292) (Nat.add_zero _) (Nat.add_zero _) ?_
                        refine J_iload dL_law_681 rfl ?_
                        rcases br hf with ⟨c116, hf⟩ | ⟨c116, hf⟩
                        · refine J_icmp_eq (tgt := 688) dL_law_683 (by decide) (fun _ => ?_) (fun w => absurd c116 w)
                          refine J_iload dL_law_688 rfl ?_
                          rcases br hf with ⟨c117, hf⟩ | ⟨c117, hf⟩
                          · refine J_if_ne (tgt := 705) dL_law_690 (by decide) (fun w => absurd c117 w) (fun _ => ?_)
                            refine J_aload_n dL_law_693 rfl rfl ?_
                            refine J_iconst (v := 0) dL_law_694 (by decide) ?_
                            obtain ⟨k118, hf⟩ := gds hf
                            obtain ⟨n119, hf⟩ := gds hf
                            refine J_laload dL_law_695 k118 n119 ?_
                            refine J_iload dL_law_696 rfl ?_
                            refine J_i2l dL_law_698 ?_
                            refine J_lcmp dL_law_699 ?_
                            rcases br hf with ⟨c120, hf⟩ | ⟨c120, hf⟩
                            · refine J_if_eq (tgt := 705) dL_law_700 (by decide) (fun _ => ?_) (fun w => absurd c120 w)
                              refine J.sub (jsub_s (jsub_s (jsub_s (jsub_s (jsub_s (jsub_n (jsub_n (jsub_nil _)))))))) ?_
                              exact wbL_law_705 hst fuel _ hq23 (by show k + 16 + fuel * 16 ≤ 601024; omega) (by show n + 292 + fuel * 4608 ≤ 7293034; omega) ha0 hf
                            · refine J_if_eq (tgt := 705) dL_law_700 (by decide) (fun w => absurd w c120) (fun _ => ?_)
                              refine J_iconst (v := 0) dL_law_703 (by decide) ?_
                              cases hf
                          · refine J_if_ne (tgt := 705) dL_law_690 (by decide) (fun _ => ?_) (fun w => absurd w c117)
                            refine J.sub (jsub_s (jsub_s (jsub_s (jsub_s (jsub_s (jsub_n (jsub_n (jsub_nil _)))))))) ?_
                            exact wbL_law_705 hst fuel _ hq23 (by show k + 16 + fuel * 16 ≤ 601024; omega) (by show n + 292 + fuel * 4608 ≤ 7293034; omega) ha0 hf
                        · refine J_icmp_eq (tgt := 688) dL_law_683 (by decide) (fun w => absurd w c116) (fun _ => ?_)
                          refine J_iconst (v := 0) dL_law_686 (by decide) ?_
                          cases hf
                      · skip
                        rcases br hf with ⟨c121, hf⟩ | ⟨c121, hf⟩
                        · refine J_tableC (off := 669) (tgt := 708) c121 dL_law_39 (by decide) (by decide) (by decide) (by decide) ?_
                          refine J_aload_n dL_law_708 rfl rfl ?_
                          refine J_aload_n dL_law_709 rfl rfl ?_
                          refine J_iload dL_law_710 rfl ?_
                          refine J_iconst (v := 1) dL_law_712 (by decide) ?_
                          refine J_iadd dL_law_713 ?_
                          obtain ⟨n122, hf⟩ := gds hf
                          refine J_scrLoad ha0 dL_law_714 n122 ?_
                          refine J_aload_n dL_law_715 rfl rfl ?_
                          obtain ⟨vo123, zo123, ho123h, ho123, hf⟩ := rfs3 hf
                          refine CSW3i dL_law_716 (mL_restart hst ho123) tk_725 iL_restart ⟨Nat.le_of_ble_eq_true rfl, Nat.le_of_ble_eq_true rfl⟩ ⟨(by show k + 16 ≤ 601024; omega), (by show n + 292 ≤ 7293034; omega)⟩ (Nat.le_of_ble_eq_true rfl) ?_
                          refine J.kn (k' := k + 16) (n' := n + 292) rfl rfl ?_
                          refine S_istore_5 dL_law_719 rfl (Nat.le_of_ble_eq_true rfl) ?_
                          refine J_aload_n dL_law_721 rfl rfl ?_
                          refine J_aload_n dL_law_722 rfl rfl ?_
                          refine J_iload dL_law_723 rfl ?_
                          refine J_iconst (v := 1) dL_law_725 (by decide) ?_
                          refine J_iadd dL_law_726 ?_
                          obtain ⟨n124, hf⟩ := gds hf
                          refine J_scrLoad ha0 dL_law_727 n124 ?_
                          obtain ⟨k125, hf⟩ := gds hf
                          obtain ⟨vo126, zo126, ho126h, ho126, hf⟩ := rfs3 hf
                          refine CV1i dL_law_728 (mX9_restart hst ho126) tk_1150 iX9_restart k125 (by decide) rfl ⟨Nat.le_of_ble_eq_true rfl, Nat.le_of_ble_eq_true rfl⟩ ⟨(by show k + 16 + 0 ≤ 601024; omega), (by show n + 292 + 0 ≤ 7293034; omega)⟩ (Nat.le_of_ble_eq_true rfl) ?_
                          refine J.kn (k' := k + 16) (n' := n + 292) (Nat.add_zero _) (Nat.add_zero _) ?_
                          refine S_istore_6 dL_law_731 rfl (Nat.le_of_ble_eq_true rfl) ?_
                          refine J_aload_n dL_law_733 rfl rfl ?_
                          obtain ⟨k127, hf⟩ := gds hf
                          obtain ⟨vo128, zo128, ho128h, ho128, hf⟩ := rfs3 hf
                          refine CV0i dL_law_734 (mX9_thrown hst ho128) tk_980 iX9_thrown k127 (by decide) rfl ⟨Nat.le_of_ble_eq_true rfl, Nat.le_of_ble_eq_true rfl⟩ ⟨(by show k + 16 + 0 ≤ 601024; omega), (by show n + 292 + 0 ≤ 7293034; omega)⟩ (Nat.le_of_ble_eq_true rfl) ?_
                          refine J.kn (k' := k + 16) (n' := n + 292) (Nat.add_zero _) (Nat.add_zero _) ?_
                          refine J_iload dL_law_737 rfl ?_
                          rcases br hf with ⟨c129, hf⟩ | ⟨c129, hf⟩
                          · refine J_icmp_eq (tgt := 744) dL_law_739 (by decide) (fun _ => ?_) (fun w => absurd c129 w)
                            refine J_iload dL_law_744 rfl ?_
                            rcases br hf with ⟨c130, hf⟩ | ⟨c130, hf⟩
                            · refine J_if_ne (tgt := 761) dL_law_746 (by decide) (fun w => absurd c130 w) (fun _ => ?_)
                              refine J_aload_n dL_law_749 rfl rfl ?_
                              refine J_iconst (v := 0) dL_law_750 (by decide) ?_
                              obtain ⟨k131, hf⟩ := gds hf
                              obtain ⟨n132, hf⟩ := gds hf
                              refine J_laload dL_law_751 k131 n132 ?_
                              refine J_iload dL_law_752 rfl ?_
                              refine J_i2l dL_law_754 ?_
                              refine J_lcmp dL_law_755 ?_
                              rcases br hf with ⟨c133, hf⟩ | ⟨c133, hf⟩
                              · refine J_if_eq (tgt := 761) dL_law_756 (by decide) (fun _ => ?_) (fun w => absurd c133 w)
                                refine J.sub (jsub_s (jsub_s (jsub_s (jsub_s (jsub_s (jsub_n (jsub_n (jsub_nil _)))))))) ?_
                                exact wbL_law_761 hst fuel _ hq23 (by show k + 16 + fuel * 16 ≤ 601024; omega) (by show n + 292 + fuel * 4608 ≤ 7293034; omega) ha0 hf
                              · refine J_if_eq (tgt := 761) dL_law_756 (by decide) (fun w => absurd w c133) (fun _ => ?_)
                                refine J_iconst (v := 0) dL_law_759 (by decide) ?_
                                cases hf
                            · refine J_if_ne (tgt := 761) dL_law_746 (by decide) (fun _ => ?_) (fun w => absurd w c130)
                              refine J.sub (jsub_s (jsub_s (jsub_s (jsub_s (jsub_s (jsub_n (jsub_n (jsub_nil _)))))))) ?_
                              exact wbL_law_761 hst fuel _ hq23 (by show k + 16 + fuel * 16 ≤ 601024; omega) (by show n + 292 + fuel * 4608 ≤ 7293034; omega) ha0 hf
                          · refine J_icmp_eq (tgt := 744) dL_law_739 (by decide) (fun w => absurd w c129) (fun _ => ?_)
                            refine J_iconst (v := 0) dL_law_742 (by decide) ?_
                            cases hf
                        · skip
                          rcases br hf with ⟨c134, hf⟩ | ⟨c134, hf⟩
                          · refine J_tableC (off := 725) (tgt := 764) c134 dL_law_39 (by decide) (by decide) (by decide) (by decide) ?_
                            refine J_aload_n dL_law_764 rfl rfl ?_
                            obtain ⟨k135, hf⟩ := gds hf
                            obtain ⟨vo136, zo136, ho136h, ho136, hf⟩ := rfs3 hf
                            refine CV0i dL_law_765 (mX8_tasks hst ho136) tk_273 iX8_tasks k135 (by decide) rfl ⟨Nat.le_of_ble_eq_true rfl, Nat.le_of_ble_eq_true rfl⟩ ⟨(by show k + 0 ≤ 601024; omega), (by show n + 0 ≤ 7293034; omega)⟩ (Nat.le_of_ble_eq_true rfl) ?_
                            refine J.kn (k' := k) (n' := n) (Nat.add_zero _) (Nat.add_zero _) ?_
                            refine J_aload_n dL_law_768 rfl rfl ?_
                            obtain ⟨k137, hf⟩ := gds hf
                            obtain ⟨vo138, zo138, ho138h, ho138, hf⟩ := rfs3 hf
                            refine CV0i dL_law_769 (mX9_tasks hst ho138) tk_1158 iX9_tasks k137 (by decide) rfl ⟨Nat.le_of_ble_eq_true rfl, Nat.le_of_ble_eq_true rfl⟩ ⟨(by show k + 0 ≤ 601024; omega), (by show n + 0 ≤ 7293034; omega)⟩ (Nat.le_of_ble_eq_true rfl) ?_
                            refine J.kn (k' := k) (n' := n) (Nat.add_zero _) (Nat.add_zero _) ?_
                            rcases br hf with ⟨c139, hf⟩ | ⟨c139, hf⟩
                            · refine J_icmp_eq (tgt := 1716) dL_law_772 (by decide) (fun _ => ?_) (fun w => absurd c139 w)
                              refine J.sub (jsub_s (jsub_s (jsub_s (jsub_s (jsub_s (jsub_n (jsub_n (jsub_nil _)))))))) ?_
                              exact wbL_law_1716 hst fuel _ hq23 (Nat.le_of_add_right_le hk0) (Nat.le_of_add_right_le hn0) ha0 hf
                            · refine J_icmp_eq (tgt := 1716) dL_law_772 (by decide) (fun w => absurd w c139) (fun _ => ?_)
                              refine J_iconst (v := 0) dL_law_775 (by decide) ?_
                              cases hf
                          · skip
                            rcases br hf with ⟨c140, hf⟩ | ⟨c140, hf⟩
                            · refine J_tableC (off := 738) (tgt := 777) c140 dL_law_39 (by decide) (by decide) (by decide) (by decide) ?_
                              refine J_aload_n dL_law_777 rfl rfl ?_
                              refine J_aload_n dL_law_778 rfl rfl ?_
                              refine J_iload dL_law_779 rfl ?_
                              refine J_iconst (v := 1) dL_law_781 (by decide) ?_
                              refine J_iadd dL_law_782 ?_
                              obtain ⟨n141, hf⟩ := gds hf
                              refine J_scrLoad ha0 dL_law_783 n141 ?_
                              refine J_aload_n dL_law_784 rfl rfl ?_
                              refine J_iload dL_law_785 rfl ?_
                              refine J_iconst (v := 2) dL_law_787 (by decide) ?_
                              refine J_iadd dL_law_788 ?_
                              obtain ⟨n142, hf⟩ := gds hf
                              refine J_scrLoad ha0 dL_law_789 n142 ?_
                              refine J_aload_n dL_law_790 rfl rfl ?_
                              obtain ⟨vo143, zo143, ho143h, ho143, hf⟩ := rfs3 hf
                              refine CSW4i dL_law_791 (mL_task hst ho143) tk_736 iL_task ⟨Nat.le_of_ble_eq_true rfl, Nat.le_of_ble_eq_true rfl⟩ ⟨(by show k + 1 ≤ 601024; omega), (by show n + 6 ≤ 7293034; omega)⟩ (Nat.le_of_ble_eq_true rfl) ?_
                              refine J.kn (k' := k + 1) (n' := n + 6) rfl rfl ?_
                              refine S_istore_5 dL_law_794 rfl (Nat.le_of_ble_eq_true rfl) ?_
                              refine J_aload_n dL_law_796 rfl rfl ?_
                              refine J_aload_n dL_law_797 rfl rfl ?_
                              refine J_iload dL_law_798 rfl ?_
                              refine J_iconst (v := 1) dL_law_800 (by decide) ?_
                              refine J_iadd dL_law_801 ?_
                              obtain ⟨n144, hf⟩ := gds hf
                              refine J_scrLoad ha0 dL_law_802 n144 ?_
                              refine J_aload_n dL_law_803 rfl rfl ?_
                              refine J_iload dL_law_804 rfl ?_
                              refine J_iconst (v := 2) dL_law_806 (by decide) ?_
                              refine J_iadd dL_law_807 ?_
                              obtain ⟨n145, hf⟩ := gds hf
                              refine J_scrLoad ha0 dL_law_808 n145 ?_
                              obtain ⟨k146, hf⟩ := gds hf
                              obtain ⟨vo147, zo147, ho147h, ho147, hf⟩ := rfs3 hf
                              refine CV2i dL_law_809 (mX9_task hst ho147) tk_1166 iX9_task k146 (by decide) rfl ⟨Nat.le_of_ble_eq_true rfl, Nat.le_of_ble_eq_true rfl⟩ ⟨(by show k + 1 + 0 ≤ 601024; omega), (by show n + 6 + 0 ≤ 7293034; omega)⟩ (Nat.le_of_ble_eq_true rfl) ?_
                              refine J.kn (k' := k + 1) (n' := n + 6) (Nat.add_zero _) (Nat.add_zero _) ?_
                              refine S_istore_6 dL_law_812 rfl (Nat.le_of_ble_eq_true rfl) ?_
                              refine J_aload_n dL_law_814 rfl rfl ?_
                              obtain ⟨k148, hf⟩ := gds hf
                              obtain ⟨vo149, zo149, ho149h, ho149, hf⟩ := rfs3 hf
                              refine CV0i dL_law_815 (mX9_thrown hst ho149) tk_980 iX9_thrown k148 (by decide) rfl ⟨Nat.le_of_ble_eq_true rfl, Nat.le_of_ble_eq_true rfl⟩ ⟨(by show k + 1 + 0 ≤ 601024; omega), (by show n + 6 + 0 ≤ 7293034; omega)⟩ (Nat.le_of_ble_eq_true rfl) ?_
                              refine J.kn (k' := k + 1) (n' := n + 6) (Nat.add_zero _) (Nat.add_zero _) ?_
                              refine J_iload dL_law_818 rfl ?_
                              rcases br hf with ⟨c150, hf⟩ | ⟨c150, hf⟩
                              · refine J_icmp_eq (tgt := 825) dL_law_820 (by decide) (fun _ => ?_) (fun w => absurd c150 w)
                                refine J_iload dL_law_825 rfl ?_
                                rcases br hf with ⟨c151, hf⟩ | ⟨c151, hf⟩
                                · refine J_if_ne (tgt := 842) dL_law_827 (by decide) (fun w => absurd c151 w) (fun _ => ?_)
                                  refine J_aload_n dL_law_830 rfl rfl ?_
                                  refine J_iconst (v := 0) dL_law_831 (by decide) ?_
                                  obtain ⟨k152, hf⟩ := gds hf
                                  obtain ⟨n153, hf⟩ := gds hf
                                  refine J_laload dL_law_832 k152 n153 ?_
                                  refine J_iload dL_law_833 rfl ?_
                                  refine J_i2l dL_law_835 ?_
                                  refine J_lcmp dL_law_836 ?_
                                  rcases br hf with ⟨c154, hf⟩ | ⟨c154, hf⟩
                                  · refine J_if_eq (tgt := 842) dL_law_837 (by decide) (fun _ => ?_) (fun w => absurd c154 w)
                                    refine J.sub (jsub_s (jsub_s (jsub_s (jsub_s (jsub_s (jsub_n (jsub_n (jsub_nil _)))))))) ?_
                                    exact wbL_law_842 hst fuel _ hq23 (by show k + 1 + fuel * 16 ≤ 601024; omega) (by show n + 6 + fuel * 4608 ≤ 7293034; omega) ha0 hf
                                  · refine J_if_eq (tgt := 842) dL_law_837 (by decide) (fun w => absurd w c154) (fun _ => ?_)
                                    refine J_iconst (v := 0) dL_law_840 (by decide) ?_
                                    cases hf
                                · refine J_if_ne (tgt := 842) dL_law_827 (by decide) (fun _ => ?_) (fun w => absurd w c151)
                                  refine J.sub (jsub_s (jsub_s (jsub_s (jsub_s (jsub_s (jsub_n (jsub_n (jsub_nil _)))))))) ?_
                                  exact wbL_law_842 hst fuel _ hq23 (by show k + 1 + fuel * 16 ≤ 601024; omega) (by show n + 6 + fuel * 4608 ≤ 7293034; omega) ha0 hf
                              · refine J_icmp_eq (tgt := 825) dL_law_820 (by decide) (fun w => absurd w c150) (fun _ => ?_)
                                refine J_iconst (v := 0) dL_law_823 (by decide) ?_
                                cases hf
                            · skip
                              rcases br hf with ⟨c155, hf⟩ | ⟨c155, hf⟩
                              · refine J_tableC (off := 806) (tgt := 845) c155 dL_law_39 (by decide) (by decide) (by decide) (by decide) ?_
                                refine J_aload_n dL_law_845 rfl rfl ?_
                                refine J_aload_n dL_law_846 rfl rfl ?_
                                refine J_iload dL_law_847 rfl ?_
                                refine J_iconst (v := 1) dL_law_849 (by decide) ?_
                                refine J_iadd dL_law_850 ?_
                                obtain ⟨n156, hf⟩ := gds hf
                                refine J_scrLoad ha0 dL_law_851 n156 ?_
                                obtain ⟨k157, hf⟩ := gds hf
                                obtain ⟨vo158, zo158, ho158h, ho158, hf⟩ := rfs3 hf
                                refine CV1i dL_law_852 (mX8_waiting hst ho158) tk_277 iX8_waiting k157 (by decide) rfl ⟨Nat.le_of_ble_eq_true rfl, Nat.le_of_ble_eq_true rfl⟩ ⟨(by show k + 0 ≤ 601024; omega), (by show n + 0 ≤ 7293034; omega)⟩ (Nat.le_of_ble_eq_true rfl) ?_
                                refine J.kn (k' := k) (n' := n) (Nat.add_zero _) (Nat.add_zero _) ?_
                                refine J_aload_n dL_law_855 rfl rfl ?_
                                refine J_aload_n dL_law_856 rfl rfl ?_
                                refine J_iload dL_law_857 rfl ?_
                                refine J_iconst (v := 1) dL_law_859 (by decide) ?_
                                refine J_iadd dL_law_860 ?_
                                obtain ⟨n159, hf⟩ := gds hf
                                refine J_scrLoad ha0 dL_law_861 n159 ?_
                                obtain ⟨k160, hf⟩ := gds hf
                                obtain ⟨vo161, zo161, ho161h, ho161, hf⟩ := rfs3 hf
                                refine CV1i dL_law_862 (mX9_waiting hst ho161) tk_1174 iX9_waiting k160 (by decide) rfl ⟨Nat.le_of_ble_eq_true rfl, Nat.le_of_ble_eq_true rfl⟩ ⟨(by show k + 0 ≤ 601024; omega), (by show n + 0 ≤ 7293034; omega)⟩ (Nat.le_of_ble_eq_true rfl) ?_
                                refine J.kn (k' := k) (n' := n) (Nat.add_zero _) (Nat.add_zero _) ?_
                                rcases br hf with ⟨c162, hf⟩ | ⟨c162, hf⟩
                                · refine J_icmp_eq (tgt := 1716) dL_law_865 (by decide) (fun _ => ?_) (fun w => absurd c162 w)
                                  refine J.sub (jsub_s (jsub_s (jsub_s (jsub_s (jsub_s (jsub_n (jsub_n (jsub_nil _)))))))) ?_
                                  exact wbL_law_1716 hst fuel _ hq23 (Nat.le_of_add_right_le hk0) (Nat.le_of_add_right_le hn0) ha0 hf
                                · refine J_icmp_eq (tgt := 1716) dL_law_865 (by decide) (fun w => absurd w c162) (fun _ => ?_)
                                  refine J_iconst (v := 0) dL_law_868 (by decide) ?_
                                  cases hf
                              · skip
                                rcases br hf with ⟨c163, hf⟩ | ⟨c163, hf⟩
                                · refine J_tableC (off := 831) (tgt := 870) c163 dL_law_39 (by decide) (by decide) (by decide) (by decide) ?_
                                  refine J_aload_n dL_law_870 rfl rfl ?_
                                  refine J_aload_n dL_law_871 rfl rfl ?_
                                  refine J_iload dL_law_872 rfl ?_
                                  refine J_iconst (v := 1) dL_law_874 (by decide) ?_
                                  refine J_iadd dL_law_875 ?_
                                  obtain ⟨n164, hf⟩ := gds hf
                                  refine J_scrLoad ha0 dL_law_876 n164 ?_
                                  refine J_aload_n dL_law_877 rfl rfl ?_
                                  refine J_iload dL_law_878 rfl ?_
                                  refine J_iconst (v := 2) dL_law_880 (by decide) ?_
                                  refine J_iadd dL_law_881 ?_
                                  obtain ⟨n165, hf⟩ := gds hf
                                  refine J_scrLoad ha0 dL_law_882 n165 ?_
                                  refine J_aload_n dL_law_883 rfl rfl ?_
                                  obtain ⟨vo166, zo166, ho166h, ho166, hf⟩ := rfs3 hf
                                  refine CSW4i dL_law_884 (mL_wouldHappen hst ho166) tk_740 iL_wouldHappen ⟨Nat.le_of_ble_eq_true rfl, Nat.le_of_ble_eq_true rfl⟩ ⟨(by show k + 1 ≤ 601024; omega), (by show n + 6 ≤ 7293034; omega)⟩ (Nat.le_of_ble_eq_true rfl) ?_
                                  refine J.kn (k' := k + 1) (n' := n + 6) rfl rfl ?_
                                  refine S_istore_5 dL_law_887 rfl (Nat.le_of_ble_eq_true rfl) ?_
                                  refine J_aload_n dL_law_889 rfl rfl ?_
                                  refine J_aload_n dL_law_890 rfl rfl ?_
                                  refine J_iload dL_law_891 rfl ?_
                                  refine J_iconst (v := 1) dL_law_893 (by decide) ?_
                                  refine J_iadd dL_law_894 ?_
                                  obtain ⟨n167, hf⟩ := gds hf
                                  refine J_scrLoad ha0 dL_law_895 n167 ?_
                                  refine J_aload_n dL_law_896 rfl rfl ?_
                                  refine J_iload dL_law_897 rfl ?_
                                  refine J_iconst (v := 2) dL_law_899 (by decide) ?_
                                  refine J_iadd dL_law_900 ?_
                                  obtain ⟨n168, hf⟩ := gds hf
                                  refine J_scrLoad ha0 dL_law_901 n168 ?_
                                  obtain ⟨k169, hf⟩ := gds hf
                                  obtain ⟨vo170, zo170, ho170h, ho170, hf⟩ := rfs3 hf
                                  refine CV2i dL_law_902 (mX9_wouldHappen hst ho170) tk_1107 iX9_wouldHappen k169 (by decide) rfl ⟨Nat.le_of_ble_eq_true rfl, Nat.le_of_ble_eq_true rfl⟩ ⟨(by show k + 1 + 0 ≤ 601024; omega), (by show n + 6 + 0 ≤ 7293034; omega)⟩ (Nat.le_of_ble_eq_true rfl) ?_
                                  refine J.kn (k' := k + 1) (n' := n + 6) (Nat.add_zero _) (Nat.add_zero _) ?_
                                  refine S_istore_6 dL_law_905 rfl (Nat.le_of_ble_eq_true rfl) ?_
                                  refine J_aload_n dL_law_907 rfl rfl ?_
                                  obtain ⟨k171, hf⟩ := gds hf
                                  obtain ⟨vo172, zo172, ho172h, ho172, hf⟩ := rfs3 hf
                                  refine CV0i dL_law_908 (mX9_thrown hst ho172) tk_980 iX9_thrown k171 (by decide) rfl ⟨Nat.le_of_ble_eq_true rfl, Nat.le_of_ble_eq_true rfl⟩ ⟨(by show k + 1 + 0 ≤ 601024; omega), (by show n + 6 + 0 ≤ 7293034; omega)⟩ (Nat.le_of_ble_eq_true rfl) ?_
                                  refine J.kn (k' := k + 1) (n' := n + 6) (Nat.add_zero _) (Nat.add_zero _) ?_
                                  refine J_iload dL_law_911 rfl ?_
                                  rcases br hf with ⟨c173, hf⟩ | ⟨c173, hf⟩
                                  · refine J_icmp_eq (tgt := 918) dL_law_913 (by decide) (fun _ => ?_) (fun w => absurd c173 w)
                                    refine J_iload dL_law_918 rfl ?_
                                    rcases br hf with ⟨c174, hf⟩ | ⟨c174, hf⟩
                                    · refine J_if_ne (tgt := 935) dL_law_920 (by decide) (fun w => absurd c174 w) (fun _ => ?_)
                                      refine J_aload_n dL_law_923 rfl rfl ?_
                                      refine J_iconst (v := 0) dL_law_924 (by decide) ?_
                                      obtain ⟨k175, hf⟩ := gds hf
                                      obtain ⟨n176, hf⟩ := gds hf
                                      refine J_laload dL_law_925 k175 n176 ?_
                                      refine J_iload dL_law_926 rfl ?_
                                      refine J_i2l dL_law_928 ?_
                                      refine J_lcmp dL_law_929 ?_
                                      rcases br hf with ⟨c177, hf⟩ | ⟨c177, hf⟩
                                      · refine J_if_eq (tgt := 935) dL_law_930 (by decide) (fun _ => ?_) (fun w => absurd c177 w)
                                        refine J.sub (jsub_s (jsub_s (jsub_s (jsub_s (jsub_s (jsub_n (jsub_n (jsub_nil _)))))))) ?_
                                        exact wbL_law_935 hst fuel _ hq23 (by show k + 1 + fuel * 16 ≤ 601024; omega) (by show n + 6 + fuel * 4608 ≤ 7293034; omega) ha0 hf
                                      · refine J_if_eq (tgt := 935) dL_law_930 (by decide) (fun w => absurd w c177) (fun _ => ?_)
                                        refine J_iconst (v := 0) dL_law_933 (by decide) ?_
                                        cases hf
                                    · refine J_if_ne (tgt := 935) dL_law_920 (by decide) (fun _ => ?_) (fun w => absurd w c174)
                                      refine J.sub (jsub_s (jsub_s (jsub_s (jsub_s (jsub_s (jsub_n (jsub_n (jsub_nil _)))))))) ?_
                                      exact wbL_law_935 hst fuel _ hq23 (by show k + 1 + fuel * 16 ≤ 601024; omega) (by show n + 6 + fuel * 4608 ≤ 7293034; omega) ha0 hf
                                  · refine J_icmp_eq (tgt := 918) dL_law_913 (by decide) (fun w => absurd w c173) (fun _ => ?_)
                                    refine J_iconst (v := 0) dL_law_916 (by decide) ?_
                                    cases hf
                                · skip
                                  rcases br hf with ⟨c178, hf⟩ | ⟨c178, hf⟩
                                  · refine J_tableC (off := 899) (tgt := 938) c178 dL_law_39 (by decide) (by decide) (by decide) (by decide) ?_
                                    refine J_aload_n dL_law_938 rfl rfl ?_
                                    refine J_aload_n dL_law_939 rfl rfl ?_
                                    refine J_iload dL_law_940 rfl ?_
                                    refine J_iconst (v := 1) dL_law_942 (by decide) ?_
                                    refine J_iadd dL_law_943 ?_
                                    obtain ⟨n179, hf⟩ := gds hf
                                    refine J_scrLoad ha0 dL_law_944 n179 ?_
                                    refine J_aload_n dL_law_945 rfl rfl ?_
                                    obtain ⟨vo180, zo180, ho180h, ho180, hf⟩ := rfs3 hf
                                    refine CSW3i dL_law_946 (mL_setPolicy hst ho180) tk_748 iL_setPolicy ⟨Nat.le_of_ble_eq_true rfl, Nat.le_of_ble_eq_true rfl⟩ ⟨(by show k + 16 ≤ 601024; omega), (by show n + 292 ≤ 7293034; omega)⟩ (Nat.le_of_ble_eq_true rfl) ?_
                                    refine J.kn (k' := k + 16) (n' := n + 292) rfl rfl ?_
                                    refine S_istore_5 dL_law_949 rfl (Nat.le_of_ble_eq_true rfl) ?_
                                    refine J_aload_n dL_law_951 rfl rfl ?_
                                    refine J_aload_n dL_law_952 rfl rfl ?_
                                    refine J_iload dL_law_953 rfl ?_
                                    refine J_iconst (v := 1) dL_law_955 (by decide) ?_
                                    refine J_iadd dL_law_956 ?_
                                    obtain ⟨n181, hf⟩ := gds hf
                                    refine J_scrLoad ha0 dL_law_957 n181 ?_
                                    obtain ⟨k182, hf⟩ := gds hf
                                    obtain ⟨vo183, zo183, ho183h, ho183, hf⟩ := rfs3 hf
                                    refine CV1i dL_law_958 (mX9_setPolicy hst ho183) tk_1178 iX9_setPolicy k182 (by decide) rfl ⟨Nat.le_of_ble_eq_true rfl, Nat.le_of_ble_eq_true rfl⟩ ⟨(by show k + 16 + 0 ≤ 601024; omega), (by show n + 292 + 0 ≤ 7293034; omega)⟩ (Nat.le_of_ble_eq_true rfl) ?_
                                    refine J.kn (k' := k + 16) (n' := n + 292) (Nat.add_zero _) (Nat.add_zero _) ?_
                                    refine S_istore_6 dL_law_961 rfl (Nat.le_of_ble_eq_true rfl) ?_
                                    refine J_aload_n dL_law_963 rfl rfl ?_
                                    obtain ⟨k184, hf⟩ := gds hf
                                    obtain ⟨vo185, zo185, ho185h, ho185, hf⟩ := rfs3 hf
                                    refine CV0i dL_law_964 (mX9_thrown hst ho185) tk_980 iX9_thrown k184 (by decide) rfl ⟨Nat.le_of_ble_eq_true rfl, Nat.le_of_ble_eq_true rfl⟩ ⟨(by show k + 16 + 0 ≤ 601024; omega), (by show n + 292 + 0 ≤ 7293034; omega)⟩ (Nat.le_of_ble_eq_true rfl) ?_
                                    refine J.kn (k' := k + 16) (n' := n + 292) (Nat.add_zero _) (Nat.add_zero _) ?_
                                    refine J_iload dL_law_967 rfl ?_
                                    rcases br hf with ⟨c186, hf⟩ | ⟨c186, hf⟩
                                    · refine J_icmp_eq (tgt := 974) dL_law_969 (by decide) (fun _ => ?_) (fun w => absurd c186 w)
                                      refine J_iload dL_law_974 rfl ?_
                                      rcases br hf with ⟨c187, hf⟩ | ⟨c187, hf⟩
                                      · refine J_if_ne (tgt := 991) dL_law_976 (by decide) (fun w => absurd c187 w) (fun _ => ?_)
                                        refine J_aload_n dL_law_979 rfl rfl ?_
                                        refine J_iconst (v := 0) dL_law_980 (by decide) ?_
                                        obtain ⟨k188, hf⟩ := gds hf
                                        obtain ⟨n189, hf⟩ := gds hf
                                        refine J_laload dL_law_981 k188 n189 ?_
                                        refine J_iload dL_law_982 rfl ?_
                                        refine J_i2l dL_law_984 ?_
                                        refine J_lcmp dL_law_985 ?_
                                        rcases br hf with ⟨c190, hf⟩ | ⟨c190, hf⟩
                                        · refine J_if_eq (tgt := 991) dL_law_986 (by decide) (fun _ => ?_) (fun w => absurd c190 w)
                                          refine J.sub (jsub_s (jsub_s (jsub_s (jsub_s (jsub_s (jsub_n (jsub_n (jsub_nil _)))))))) ?_
                                          exact wbL_law_991 hst fuel _ hq23 (by show k + 16 + fuel * 16 ≤ 601024; omega) (by show n + 292 + fuel * 4608 ≤ 7293034; omega) ha0 hf
                                        · refine J_if_eq (tgt := 991) dL_law_986 (by decide) (fun w => absurd w c190) (fun _ => ?_)
                                          refine J_iconst (v := 0) dL_law_989 (by decide) ?_
                                          cases hf
                                      · refine J_if_ne (tgt := 991) dL_law_976 (by decide) (fun _ => ?_) (fun w => absurd w c187)
                                        refine J.sub (jsub_s (jsub_s (jsub_s (jsub_s (jsub_s (jsub_n (jsub_n (jsub_nil _)))))))) ?_
                                        exact wbL_law_991 hst fuel _ hq23 (by show k + 16 + fuel * 16 ≤ 601024; omega) (by show n + 292 + fuel * 4608 ≤ 7293034; omega) ha0 hf
                                    · refine J_icmp_eq (tgt := 974) dL_law_969 (by decide) (fun w => absurd w c186) (fun _ => ?_)
                                      refine J_iconst (v := 0) dL_law_972 (by decide) ?_
                                      cases hf
                                  · skip
                                    rcases br hf with ⟨c191, hf⟩ | ⟨c191, hf⟩
                                    · refine J_tableC (off := 955) (tgt := 994) c191 dL_law_39 (by decide) (by decide) (by decide) (by decide) ?_
                                      refine J_aload_n dL_law_994 rfl rfl ?_
                                      refine J_aload_n dL_law_995 rfl rfl ?_
                                      refine J_iload dL_law_996 rfl ?_
                                      refine J_iconst (v := 1) dL_law_998 (by decide) ?_
                                      refine J_iadd dL_law_999 ?_
                                      obtain ⟨n192, hf⟩ := gds hf
                                      refine J_scrLoad ha0 dL_law_1000 n192 ?_
                                      refine J_aload_n dL_law_1001 rfl rfl ?_
                                      obtain ⟨vo193, zo193, ho193h, ho193, hf⟩ := rfs3 hf
                                      refine CSW3i dL_law_1002 (mL_setRule hst ho193) tk_755 iL_setRule ⟨Nat.le_of_ble_eq_true rfl, Nat.le_of_ble_eq_true rfl⟩ ⟨(by show k + 16 ≤ 601024; omega), (by show n + 292 ≤ 7293034; omega)⟩ (Nat.le_of_ble_eq_true rfl) ?_
                                      refine J.kn (k' := k + 16) (n' := n + 292) rfl rfl ?_
                                      refine S_istore_5 dL_law_1005 rfl (Nat.le_of_ble_eq_true rfl) ?_
                                      refine J_aload_n dL_law_1007 rfl rfl ?_
                                      refine J_aload_n dL_law_1008 rfl rfl ?_
                                      refine J_iload dL_law_1009 rfl ?_
                                      refine J_iconst (v := 1) dL_law_1011 (by decide) ?_
                                      refine J_iadd dL_law_1012 ?_
                                      obtain ⟨n194, hf⟩ := gds hf
                                      refine J_scrLoad ha0 dL_law_1013 n194 ?_
                                      obtain ⟨k195, hf⟩ := gds hf
                                      obtain ⟨vo196, zo196, ho196h, ho196, hf⟩ := rfs3 hf
                                      refine CV1i dL_law_1014 (mX9_setRule hst ho196) tk_1186 iX9_setRule k195 (by decide) rfl ⟨Nat.le_of_ble_eq_true rfl, Nat.le_of_ble_eq_true rfl⟩ ⟨(by show k + 16 + 0 ≤ 601024; omega), (by show n + 292 + 0 ≤ 7293034; omega)⟩ (Nat.le_of_ble_eq_true rfl) ?_
                                      refine J.kn (k' := k + 16) (n' := n + 292) (Nat.add_zero _) (Nat.add_zero _) ?_
                                      refine S_istore_6 dL_law_1017 rfl (Nat.le_of_ble_eq_true rfl) ?_
                                      refine J_aload_n dL_law_1019 rfl rfl ?_
                                      obtain ⟨k197, hf⟩ := gds hf
                                      obtain ⟨vo198, zo198, ho198h, ho198, hf⟩ := rfs3 hf
                                      refine CV0i dL_law_1020 (mX9_thrown hst ho198) tk_980 iX9_thrown k197 (by decide) rfl ⟨Nat.le_of_ble_eq_true rfl, Nat.le_of_ble_eq_true rfl⟩ ⟨(by show k + 16 + 0 ≤ 601024; omega), (by show n + 292 + 0 ≤ 7293034; omega)⟩ (Nat.le_of_ble_eq_true rfl) ?_
                                      refine J.kn (k' := k + 16) (n' := n + 292) (Nat.add_zero _) (Nat.add_zero _) ?_
                                      refine J_iload dL_law_1023 rfl ?_
                                      rcases br hf with ⟨c199, hf⟩ | ⟨c199, hf⟩
                                      · refine J_icmp_eq (tgt := 1030) dL_law_1025 (by decide) (fun _ => ?_) (fun w => absurd c199 w)
                                        refine J_iload dL_law_1030 rfl ?_
                                        rcases br hf with ⟨c200, hf⟩ | ⟨c200, hf⟩
                                        · refine J_if_ne (tgt := 1047) dL_law_1032 (by decide) (fun w => absurd c200 w) (fun _ => ?_)
                                          refine J_aload_n dL_law_1035 rfl rfl ?_
                                          refine J_iconst (v := 0) dL_law_1036 (by decide) ?_
                                          obtain ⟨k201, hf⟩ := gds hf
                                          obtain ⟨n202, hf⟩ := gds hf
                                          refine J_laload dL_law_1037 k201 n202 ?_
                                          refine J_iload dL_law_1038 rfl ?_
                                          refine J_i2l dL_law_1040 ?_
                                          refine J_lcmp dL_law_1041 ?_
                                          rcases br hf with ⟨c203, hf⟩ | ⟨c203, hf⟩
                                          · refine J_if_eq (tgt := 1047) dL_law_1042 (by decide) (fun _ => ?_) (fun w => absurd c203 w)
                                            refine J.sub (jsub_s (jsub_s (jsub_s (jsub_s (jsub_s (jsub_n (jsub_n (jsub_nil _)))))))) ?_
                                            exact wbL_law_1047 hst fuel _ hq23 (by show k + 16 + fuel * 16 ≤ 601024; omega) (by show n + 292 + fuel * 4608 ≤ 7293034; omega) ha0 hf
                                          · refine J_if_eq (tgt := 1047) dL_law_1042 (by decide) (fun w => absurd w c203) (fun _ => ?_)
                                            refine J_iconst (v := 0) dL_law_1045 (by decide) ?_
                                            cases hf
                                        · refine J_if_ne (tgt := 1047) dL_law_1032 (by decide) (fun _ => ?_) (fun w => absurd w c200)
                                          refine J.sub (jsub_s (jsub_s (jsub_s (jsub_s (jsub_s (jsub_n (jsub_n (jsub_nil _)))))))) ?_
                                          exact wbL_law_1047 hst fuel _ hq23 (by show k + 16 + fuel * 16 ≤ 601024; omega) (by show n + 292 + fuel * 4608 ≤ 7293034; omega) ha0 hf
                                      · refine J_icmp_eq (tgt := 1030) dL_law_1025 (by decide) (fun w => absurd w c199) (fun _ => ?_)
                                        refine J_iconst (v := 0) dL_law_1028 (by decide) ?_
                                        cases hf
                                    · skip
                                      rcases br hf with ⟨c204, hf⟩ | ⟨c204, hf⟩
                                      · refine J_tableC (off := 1011) (tgt := 1050) c204 dL_law_39 (by decide) (by decide) (by decide) (by decide) ?_
                                        refine J_aload_n dL_law_1050 rfl rfl ?_
                                        refine J_aload_n dL_law_1051 rfl rfl ?_
                                        refine J_iload dL_law_1052 rfl ?_
                                        refine J_iconst (v := 1) dL_law_1054 (by decide) ?_
                                        refine J_iadd dL_law_1055 ?_
                                        obtain ⟨n205, hf⟩ := gds hf
                                        refine J_scrLoad ha0 dL_law_1056 n205 ?_
                                        refine J_aload_n dL_law_1057 rfl rfl ?_
                                        obtain ⟨vo206, zo206, ho206h, ho206, hf⟩ := rfs3 hf
                                        refine CSW3i dL_law_1058 (mL_setBudget hst ho206) tk_762 iL_setBudget ⟨Nat.le_of_ble_eq_true rfl, Nat.le_of_ble_eq_true rfl⟩ ⟨(by show k + 16 ≤ 601024; omega), (by show n + 292 ≤ 7293034; omega)⟩ (Nat.le_of_ble_eq_true rfl) ?_
                                        refine J.kn (k' := k + 16) (n' := n + 292) rfl rfl ?_
                                        refine S_istore_5 dL_law_1061 rfl (Nat.le_of_ble_eq_true rfl) ?_
                                        refine J_aload_n dL_law_1063 rfl rfl ?_
                                        refine J_aload_n dL_law_1064 rfl rfl ?_
                                        refine J_iload dL_law_1065 rfl ?_
                                        refine J_iconst (v := 1) dL_law_1067 (by decide) ?_
                                        refine J_iadd dL_law_1068 ?_
                                        obtain ⟨n207, hf⟩ := gds hf
                                        refine J_scrLoad ha0 dL_law_1069 n207 ?_
                                        obtain ⟨k208, hf⟩ := gds hf
                                        obtain ⟨vo209, zo209, ho209h, ho209, hf⟩ := rfs3 hf
                                        refine CV1i dL_law_1070 (mX9_setBudget hst ho209) tk_1190 iX9_setBudget k208 (by decide) rfl ⟨Nat.le_of_ble_eq_true rfl, Nat.le_of_ble_eq_true rfl⟩ ⟨(by show k + 16 + 0 ≤ 601024; omega), (by show n + 292 + 0 ≤ 7293034; omega)⟩ (Nat.le_of_ble_eq_true rfl) ?_
                                        refine J.kn (k' := k + 16) (n' := n + 292) (Nat.add_zero _) (Nat.add_zero _) ?_
                                        refine S_istore_6 dL_law_1073 rfl (Nat.le_of_ble_eq_true rfl) ?_
                                        refine J_aload_n dL_law_1075 rfl rfl ?_
                                        obtain ⟨k210, hf⟩ := gds hf
                                        obtain ⟨vo211, zo211, ho211h, ho211, hf⟩ := rfs3 hf
                                        refine CV0i dL_law_1076 (mX9_thrown hst ho211) tk_980 iX9_thrown k210 (by decide) rfl ⟨Nat.le_of_ble_eq_true rfl, Nat.le_of_ble_eq_true rfl⟩ ⟨(by show k + 16 + 0 ≤ 601024; omega), (by show n + 292 + 0 ≤ 7293034; omega)⟩ (Nat.le_of_ble_eq_true rfl) ?_
                                        refine J.kn (k' := k + 16) (n' := n + 292) (Nat.add_zero _) (Nat.add_zero _) ?_
                                        refine J_iload dL_law_1079 rfl ?_
                                        rcases br hf with ⟨c212, hf⟩ | ⟨c212, hf⟩
                                        · refine J_icmp_eq (tgt := 1086) dL_law_1081 (by decide) (fun _ => ?_) (fun w => absurd c212 w)
                                          refine J_iload dL_law_1086 rfl ?_
                                          rcases br hf with ⟨c213, hf⟩ | ⟨c213, hf⟩
                                          · refine J_if_ne (tgt := 1103) dL_law_1088 (by decide) (fun w => absurd c213 w) (fun _ => ?_)
                                            refine J_aload_n dL_law_1091 rfl rfl ?_
                                            refine J_iconst (v := 0) dL_law_1092 (by decide) ?_
                                            obtain ⟨k214, hf⟩ := gds hf
                                            obtain ⟨n215, hf⟩ := gds hf
                                            refine J_laload dL_law_1093 k214 n215 ?_
                                            refine J_iload dL_law_1094 rfl ?_
                                            refine J_i2l dL_law_1096 ?_
                                            refine J_lcmp dL_law_1097 ?_
                                            rcases br hf with ⟨c216, hf⟩ | ⟨c216, hf⟩
                                            · refine J_if_eq (tgt := 1103) dL_law_1098 (by decide) (fun _ => ?_) (fun w => absurd c216 w)
                                              refine J.sub (jsub_s (jsub_s (jsub_s (jsub_s (jsub_s (jsub_n (jsub_n (jsub_nil _)))))))) ?_
                                              exact wbL_law_1103 hst fuel _ hq23 (by show k + 16 + fuel * 16 ≤ 601024; omega) (by show n + 292 + fuel * 4608 ≤ 7293034; omega) ha0 hf
                                            · refine J_if_eq (tgt := 1103) dL_law_1098 (by decide) (fun w => absurd w c216) (fun _ => ?_)
                                              refine J_iconst (v := 0) dL_law_1101 (by decide) ?_
                                              cases hf
                                          · refine J_if_ne (tgt := 1103) dL_law_1088 (by decide) (fun _ => ?_) (fun w => absurd w c213)
                                            refine J.sub (jsub_s (jsub_s (jsub_s (jsub_s (jsub_s (jsub_n (jsub_n (jsub_nil _)))))))) ?_
                                            exact wbL_law_1103 hst fuel _ hq23 (by show k + 16 + fuel * 16 ≤ 601024; omega) (by show n + 292 + fuel * 4608 ≤ 7293034; omega) ha0 hf
                                        · refine J_icmp_eq (tgt := 1086) dL_law_1081 (by decide) (fun w => absurd w c212) (fun _ => ?_)
                                          refine J_iconst (v := 0) dL_law_1084 (by decide) ?_
                                          cases hf
                                      · skip
                                        rcases br hf with ⟨c217, hf⟩ | ⟨c217, hf⟩
                                        · refine J_tableC (off := 1067) (tgt := 1106) c217 dL_law_39 (by decide) (by decide) (by decide) (by decide) ?_
                                          refine J_aload_n dL_law_1106 rfl rfl ?_
                                          refine J_aload_n dL_law_1107 rfl rfl ?_
                                          refine J_iload dL_law_1108 rfl ?_
                                          refine J_iconst (v := 1) dL_law_1110 (by decide) ?_
                                          refine J_iadd dL_law_1111 ?_
                                          obtain ⟨n218, hf⟩ := gds hf
                                          refine J_scrLoad ha0 dL_law_1112 n218 ?_
                                          refine J_aload_n dL_law_1113 rfl rfl ?_
                                          obtain ⟨vo219, zo219, ho219h, ho219, hf⟩ := rfs3 hf
                                          refine CSW3i dL_law_1114 (mL_probe hst ho219) tk_769 iL_probe ⟨Nat.le_of_ble_eq_true rfl, Nat.le_of_ble_eq_true rfl⟩ ⟨(by show k + 16 ≤ 601024; omega), (by show n + 292 ≤ 7293034; omega)⟩ (Nat.le_of_ble_eq_true rfl) ?_
                                          refine J.kn (k' := k + 16) (n' := n + 292) rfl rfl ?_
                                          refine S_istore_5 dL_law_1117 rfl (Nat.le_of_ble_eq_true rfl) ?_
                                          refine J_aload_n dL_law_1119 rfl rfl ?_
                                          refine J_aload_n dL_law_1120 rfl rfl ?_
                                          refine J_iload dL_law_1121 rfl ?_
                                          refine J_iconst (v := 1) dL_law_1123 (by decide) ?_
                                          refine J_iadd dL_law_1124 ?_
                                          obtain ⟨n220, hf⟩ := gds hf
                                          refine J_scrLoad ha0 dL_law_1125 n220 ?_
                                          obtain ⟨k221, hf⟩ := gds hf
                                          obtain ⟨vo222, zo222, ho222h, ho222, hf⟩ := rfs3 hf
                                          refine CV1i dL_law_1126 (mX9_probe hst ho222) tk_1194 iX9_probe k221 (by decide) rfl ⟨Nat.le_of_ble_eq_true rfl, Nat.le_of_ble_eq_true rfl⟩ ⟨(by show k + 16 + 0 ≤ 601024; omega), (by show n + 292 + 0 ≤ 7293034; omega)⟩ (Nat.le_of_ble_eq_true rfl) ?_
                                          refine J.kn (k' := k + 16) (n' := n + 292) (Nat.add_zero _) (Nat.add_zero _) ?_
                                          refine S_istore_6 dL_law_1129 rfl (Nat.le_of_ble_eq_true rfl) ?_
                                          refine J_aload_n dL_law_1131 rfl rfl ?_
                                          obtain ⟨k223, hf⟩ := gds hf
                                          obtain ⟨vo224, zo224, ho224h, ho224, hf⟩ := rfs3 hf
                                          refine CV0i dL_law_1132 (mX9_thrown hst ho224) tk_980 iX9_thrown k223 (by decide) rfl ⟨Nat.le_of_ble_eq_true rfl, Nat.le_of_ble_eq_true rfl⟩ ⟨(by show k + 16 + 0 ≤ 601024; omega), (by show n + 292 + 0 ≤ 7293034; omega)⟩ (Nat.le_of_ble_eq_true rfl) ?_
                                          refine J.kn (k' := k + 16) (n' := n + 292) (Nat.add_zero _) (Nat.add_zero _) ?_
                                          refine J_iload dL_law_1135 rfl ?_
                                          rcases br hf with ⟨c225, hf⟩ | ⟨c225, hf⟩
                                          · refine J_icmp_eq (tgt := 1142) dL_law_1137 (by decide) (fun _ => ?_) (fun w => absurd c225 w)
                                            refine J_iload dL_law_1142 rfl ?_
                                            rcases br hf with ⟨c226, hf⟩ | ⟨c226, hf⟩
                                            · refine J_if_ne (tgt := 1159) dL_law_1144 (by decide) (fun w => absurd c226 w) (fun _ => ?_)
                                              refine J_aload_n dL_law_1147 rfl rfl ?_
                                              refine J_iconst (v := 0) dL_law_1148 (by decide) ?_
                                              obtain ⟨k227, hf⟩ := gds hf
                                              obtain ⟨n228, hf⟩ := gds hf
                                              refine J_laload dL_law_1149 k227 n228 ?_
                                              refine J_iload dL_law_1150 rfl ?_
                                              refine J_i2l dL_law_1152 ?_
                                              refine J_lcmp dL_law_1153 ?_
                                              rcases br hf with ⟨c229, hf⟩ | ⟨c229, hf⟩
                                              · refine J_if_eq (tgt := 1159) dL_law_1154 (by decide) (fun _ => ?_) (fun w => absurd c229 w)
                                                refine J.sub (jsub_s (jsub_s (jsub_s (jsub_s (jsub_s (jsub_n (jsub_n (jsub_nil _)))))))) ?_
                                                exact wbL_law_1159 hst fuel _ hq23 (by show k + 16 + fuel * 16 ≤ 601024; omega) (by show n + 292 + fuel * 4608 ≤ 7293034; omega) ha0 hf
                                              · refine J_if_eq (tgt := 1159) dL_law_1154 (by decide) (fun w => absurd w c229) (fun _ => ?_)
                                                refine J_iconst (v := 0) dL_law_1157 (by decide) ?_
                                                cases hf
                                            · refine J_if_ne (tgt := 1159) dL_law_1144 (by decide) (fun _ => ?_) (fun w => absurd w c226)
                                              refine J.sub (jsub_s (jsub_s (jsub_s (jsub_s (jsub_s (jsub_n (jsub_n (jsub_nil _)))))))) ?_
                                              exact wbL_law_1159 hst fuel _ hq23 (by show k + 16 + fuel * 16 ≤ 601024; omega) (by show n + 292 + fuel * 4608 ≤ 7293034; omega) ha0 hf
                                          · refine J_icmp_eq (tgt := 1142) dL_law_1137 (by decide) (fun w => absurd w c225) (fun _ => ?_)
                                            refine J_iconst (v := 0) dL_law_1140 (by decide) ?_
                                            cases hf
                                        · skip
                                          rcases br hf with ⟨c230, hf⟩ | ⟨c230, hf⟩
                                          · refine J_tableC (off := 1123) (tgt := 1162) c230 dL_law_39 (by decide) (by decide) (by decide) (by decide) ?_
                                            refine J_aload_n dL_law_1162 rfl rfl ?_
                                            refine J_aload_n dL_law_1163 rfl rfl ?_
                                            refine J_iload dL_law_1164 rfl ?_
                                            refine J_iconst (v := 1) dL_law_1166 (by decide) ?_
                                            refine J_iadd dL_law_1167 ?_
                                            obtain ⟨n231, hf⟩ := gds hf
                                            refine J_scrLoad ha0 dL_law_1168 n231 ?_
                                            refine J_aload_n dL_law_1169 rfl rfl ?_
                                            obtain ⟨vo232, zo232, ho232h, ho232, hf⟩ := rfs3 hf
                                            refine CSW3i dL_law_1170 (mL_deliver hst ho232) tk_793 iL_deliver ⟨Nat.le_of_ble_eq_true rfl, Nat.le_of_ble_eq_true rfl⟩ ⟨(by show k + 16 ≤ 601024; omega), (by show n + 292 ≤ 7293034; omega)⟩ (Nat.le_of_ble_eq_true rfl) ?_
                                            refine J.kn (k' := k + 16) (n' := n + 292) rfl rfl ?_
                                            refine S_istore_5 dL_law_1173 rfl (Nat.le_of_ble_eq_true rfl) ?_
                                            refine J_aload_n dL_law_1175 rfl rfl ?_
                                            refine J_aload_n dL_law_1176 rfl rfl ?_
                                            refine J_iload dL_law_1177 rfl ?_
                                            refine J_iconst (v := 1) dL_law_1179 (by decide) ?_
                                            refine J_iadd dL_law_1180 ?_
                                            obtain ⟨n233, hf⟩ := gds hf
                                            refine J_scrLoad ha0 dL_law_1181 n233 ?_
                                            obtain ⟨k234, hf⟩ := gds hf
                                            obtain ⟨vo235, zo235, ho235h, ho235, hf⟩ := rfs3 hf
                                            refine CV1i dL_law_1182 (mX9_deliver hst ho235) tk_1214 iX9_deliver k234 (by decide) rfl ⟨Nat.le_of_ble_eq_true rfl, Nat.le_of_ble_eq_true rfl⟩ ⟨(by show k + 16 + 0 ≤ 601024; omega), (by show n + 292 + 0 ≤ 7293034; omega)⟩ (Nat.le_of_ble_eq_true rfl) ?_
                                            refine J.kn (k' := k + 16) (n' := n + 292) (Nat.add_zero _) (Nat.add_zero _) ?_
                                            refine S_istore_6 dL_law_1185 rfl (Nat.le_of_ble_eq_true rfl) ?_
                                            refine J_aload_n dL_law_1187 rfl rfl ?_
                                            obtain ⟨k236, hf⟩ := gds hf
                                            obtain ⟨vo237, zo237, ho237h, ho237, hf⟩ := rfs3 hf
                                            refine CV0i dL_law_1188 (mX9_thrown hst ho237) tk_980 iX9_thrown k236 (by decide) rfl ⟨Nat.le_of_ble_eq_true rfl, Nat.le_of_ble_eq_true rfl⟩ ⟨(by show k + 16 + 0 ≤ 601024; omega), (by show n + 292 + 0 ≤ 7293034; omega)⟩ (Nat.le_of_ble_eq_true rfl) ?_
                                            refine J.kn (k' := k + 16) (n' := n + 292) (Nat.add_zero _) (Nat.add_zero _) ?_
                                            refine J_iload dL_law_1191 rfl ?_
                                            rcases br hf with ⟨c238, hf⟩ | ⟨c238, hf⟩
                                            · refine J_icmp_eq (tgt := 1198) dL_law_1193 (by decide) (fun _ => ?_) (fun w => absurd c238 w)
                                              refine J_iload dL_law_1198 rfl ?_
                                              rcases br hf with ⟨c239, hf⟩ | ⟨c239, hf⟩
                                              · refine J_if_ne (tgt := 1215) dL_law_1200 (by decide) (fun w => absurd c239 w) (fun _ => ?_)
                                                refine J_aload_n dL_law_1203 rfl rfl ?_
                                                refine J_iconst (v := 0) dL_law_1204 (by decide) ?_
                                                obtain ⟨k240, hf⟩ := gds hf
                                                obtain ⟨n241, hf⟩ := gds hf
                                                refine J_laload dL_law_1205 k240 n241 ?_
                                                refine J_iload dL_law_1206 rfl ?_
                                                refine J_i2l dL_law_1208 ?_
                                                refine J_lcmp dL_law_1209 ?_
                                                rcases br hf with ⟨c242, hf⟩ | ⟨c242, hf⟩
                                                · refine J_if_eq (tgt := 1215) dL_law_1210 (by decide) (fun _ => ?_) (fun w => absurd c242 w)
                                                  refine J.sub (jsub_s (jsub_s (jsub_s (jsub_s (jsub_s (jsub_n (jsub_n (jsub_nil _)))))))) ?_
                                                  exact wbL_law_1215 hst fuel _ hq23 (by show k + 16 + fuel * 16 ≤ 601024; omega) (by show n + 292 + fuel * 4608 ≤ 7293034; omega) ha0 hf
                                                · refine J_if_eq (tgt := 1215) dL_law_1210 (by decide) (fun w => absurd w c242) (fun _ => ?_)
                                                  refine J_iconst (v := 0) dL_law_1213 (by decide) ?_
                                                  cases hf
                                              · refine J_if_ne (tgt := 1215) dL_law_1200 (by decide) (fun _ => ?_) (fun w => absurd w c239)
                                                refine J.sub (jsub_s (jsub_s (jsub_s (jsub_s (jsub_s (jsub_n (jsub_n (jsub_nil _)))))))) ?_
                                                exact wbL_law_1215 hst fuel _ hq23 (by show k + 16 + fuel * 16 ≤ 601024; omega) (by show n + 292 + fuel * 4608 ≤ 7293034; omega) ha0 hf
                                            · refine J_icmp_eq (tgt := 1198) dL_law_1193 (by decide) (fun w => absurd w c238) (fun _ => ?_)
                                              refine J_iconst (v := 0) dL_law_1196 (by decide) ?_
                                              cases hf
                                          · skip
                                            rcases br hf with ⟨c243, hf⟩ | ⟨c243, hf⟩
                                            · refine J_tableC (off := 1179) (tgt := 1218) c243 dL_law_39 (by decide) (by decide) (by decide) (by decide) ?_
                                              refine J_aload_n dL_law_1218 rfl rfl ?_
                                              obtain ⟨k244, hf⟩ := gds hf
                                              obtain ⟨vo245, zo245, ho245h, ho245, hf⟩ := rfs3 hf
                                              refine CV0i dL_law_1219 (mX8_messages hst ho245) tk_284 iX8_messages k244 (by decide) rfl ⟨Nat.le_of_ble_eq_true rfl, Nat.le_of_ble_eq_true rfl⟩ ⟨(by show k + 0 ≤ 601024; omega), (by show n + 0 ≤ 7293034; omega)⟩ (Nat.le_of_ble_eq_true rfl) ?_
                                              refine J.kn (k' := k) (n' := n) (Nat.add_zero _) (Nat.add_zero _) ?_
                                              refine J_aload_n dL_law_1222 rfl rfl ?_
                                              obtain ⟨k246, hf⟩ := gds hf
                                              obtain ⟨vo247, zo247, ho247h, ho247, hf⟩ := rfs3 hf
                                              refine CV0i dL_law_1223 (mX9_messages hst ho247) tk_1250 iX9_messages k246 (by decide) rfl ⟨Nat.le_of_ble_eq_true rfl, Nat.le_of_ble_eq_true rfl⟩ ⟨(by show k + 0 ≤ 601024; omega), (by show n + 0 ≤ 7293034; omega)⟩ (Nat.le_of_ble_eq_true rfl) ?_
                                              refine J.kn (k' := k) (n' := n) (Nat.add_zero _) (Nat.add_zero _) ?_
                                              rcases br hf with ⟨c248, hf⟩ | ⟨c248, hf⟩
                                              · refine J_icmp_eq (tgt := 1716) dL_law_1226 (by decide) (fun _ => ?_) (fun w => absurd c248 w)
                                                refine J.sub (jsub_s (jsub_s (jsub_s (jsub_s (jsub_s (jsub_n (jsub_n (jsub_nil _)))))))) ?_
                                                exact wbL_law_1716 hst fuel _ hq23 (Nat.le_of_add_right_le hk0) (Nat.le_of_add_right_le hn0) ha0 hf
                                              · refine J_icmp_eq (tgt := 1716) dL_law_1226 (by decide) (fun w => absurd w c248) (fun _ => ?_)
                                                refine J_iconst (v := 0) dL_law_1229 (by decide) ?_
                                                cases hf
                                            · skip
                                              rcases br hf with ⟨c249, hf⟩ | ⟨c249, hf⟩
                                              · refine J_tableC (off := 1192) (tgt := 1231) c249 dL_law_39 (by decide) (by decide) (by decide) (by decide) ?_
                                                refine J_aload_n dL_law_1231 rfl rfl ?_
                                                refine J_aload_n dL_law_1232 rfl rfl ?_
                                                refine J_iload dL_law_1233 rfl ?_
                                                refine J_iconst (v := 1) dL_law_1235 (by decide) ?_
                                                refine J_iadd dL_law_1236 ?_
                                                obtain ⟨n250, hf⟩ := gds hf
                                                refine J_scrLoad ha0 dL_law_1237 n250 ?_
                                                refine J_aload_n dL_law_1238 rfl rfl ?_
                                                refine J_iload dL_law_1239 rfl ?_
                                                refine J_iconst (v := 2) dL_law_1241 (by decide) ?_
                                                refine J_iadd dL_law_1242 ?_
                                                obtain ⟨n251, hf⟩ := gds hf
                                                refine J_scrLoad ha0 dL_law_1243 n251 ?_
                                                refine J_aload_n dL_law_1244 rfl rfl ?_
                                                obtain ⟨vo252, zo252, ho252h, ho252, hf⟩ := rfs3 hf
                                                refine CSW4i dL_law_1245 (mL_message hst ho252) tk_843 iL_message ⟨Nat.le_of_ble_eq_true rfl, Nat.le_of_ble_eq_true rfl⟩ ⟨(by show k + 1 ≤ 601024; omega), (by show n + 6 ≤ 7293034; omega)⟩ (Nat.le_of_ble_eq_true rfl) ?_
                                                refine J.kn (k' := k + 1) (n' := n + 6) rfl rfl ?_
                                                refine S_istore_5 dL_law_1248 rfl (Nat.le_of_ble_eq_true rfl) ?_
                                                refine J_aload_n dL_law_1250 rfl rfl ?_
                                                refine J_aload_n dL_law_1251 rfl rfl ?_
                                                refine J_iload dL_law_1252 rfl ?_
                                                refine J_iconst (v := 1) dL_law_1254 (by decide) ?_
                                                refine J_iadd dL_law_1255 ?_
                                                obtain ⟨n253, hf⟩ := gds hf
                                                refine J_scrLoad ha0 dL_law_1256 n253 ?_
                                                refine J_aload_n dL_law_1257 rfl rfl ?_
                                                refine J_iload dL_law_1258 rfl ?_
                                                refine J_iconst (v := 2) dL_law_1260 (by decide) ?_
                                                refine J_iadd dL_law_1261 ?_
                                                obtain ⟨n254, hf⟩ := gds hf
                                                refine J_scrLoad ha0 dL_law_1262 n254 ?_
                                                obtain ⟨k255, hf⟩ := gds hf
                                                obtain ⟨vo256, zo256, ho256h, ho256, hf⟩ := rfs3 hf
                                                refine CV2i dL_law_1263 (mX9_message hst ho256) tk_1254 iX9_message k255 (by decide) rfl ⟨Nat.le_of_ble_eq_true rfl, Nat.le_of_ble_eq_true rfl⟩ ⟨(by show k + 1 + 0 ≤ 601024; omega), (by show n + 6 + 0 ≤ 7293034; omega)⟩ (Nat.le_of_ble_eq_true rfl) ?_
                                                refine J.kn (k' := k + 1) (n' := n + 6) (Nat.add_zero _) (Nat.add_zero _) ?_
                                                refine S_istore_6 dL_law_1266 rfl (Nat.le_of_ble_eq_true rfl) ?_
                                                refine J_aload_n dL_law_1268 rfl rfl ?_
                                                obtain ⟨k257, hf⟩ := gds hf
                                                obtain ⟨vo258, zo258, ho258h, ho258, hf⟩ := rfs3 hf
                                                refine CV0i dL_law_1269 (mX9_thrown hst ho258) tk_980 iX9_thrown k257 (by decide) rfl ⟨Nat.le_of_ble_eq_true rfl, Nat.le_of_ble_eq_true rfl⟩ ⟨(by show k + 1 + 0 ≤ 601024; omega), (by show n + 6 + 0 ≤ 7293034; omega)⟩ (Nat.le_of_ble_eq_true rfl) ?_
                                                refine J.kn (k' := k + 1) (n' := n + 6) (Nat.add_zero _) (Nat.add_zero _) ?_
                                                refine J_iload dL_law_1272 rfl ?_
                                                rcases br hf with ⟨c259, hf⟩ | ⟨c259, hf⟩
                                                · refine J_icmp_eq (tgt := 1279) dL_law_1274 (by decide) (fun _ => ?_) (fun w => absurd c259 w)
                                                  refine J_iload dL_law_1279 rfl ?_
                                                  rcases br hf with ⟨c260, hf⟩ | ⟨c260, hf⟩
                                                  · refine J_if_ne (tgt := 1296) dL_law_1281 (by decide) (fun w => absurd c260 w) (fun _ => ?_)
                                                    refine J_aload_n dL_law_1284 rfl rfl ?_
                                                    refine J_iconst (v := 0) dL_law_1285 (by decide) ?_
                                                    obtain ⟨k261, hf⟩ := gds hf
                                                    obtain ⟨n262, hf⟩ := gds hf
                                                    refine J_laload dL_law_1286 k261 n262 ?_
                                                    refine J_iload dL_law_1287 rfl ?_
                                                    refine J_i2l dL_law_1289 ?_
                                                    refine J_lcmp dL_law_1290 ?_
                                                    rcases br hf with ⟨c263, hf⟩ | ⟨c263, hf⟩
                                                    · refine J_if_eq (tgt := 1296) dL_law_1291 (by decide) (fun _ => ?_) (fun w => absurd c263 w)
                                                      refine J.sub (jsub_s (jsub_s (jsub_s (jsub_s (jsub_s (jsub_n (jsub_n (jsub_nil _)))))))) ?_
                                                      exact wbL_law_1296 hst fuel _ hq23 (by show k + 1 + fuel * 16 ≤ 601024; omega) (by show n + 6 + fuel * 4608 ≤ 7293034; omega) ha0 hf
                                                    · refine J_if_eq (tgt := 1296) dL_law_1291 (by decide) (fun w => absurd w c263) (fun _ => ?_)
                                                      refine J_iconst (v := 0) dL_law_1294 (by decide) ?_
                                                      cases hf
                                                  · refine J_if_ne (tgt := 1296) dL_law_1281 (by decide) (fun _ => ?_) (fun w => absurd w c260)
                                                    refine J.sub (jsub_s (jsub_s (jsub_s (jsub_s (jsub_s (jsub_n (jsub_n (jsub_nil _)))))))) ?_
                                                    exact wbL_law_1296 hst fuel _ hq23 (by show k + 1 + fuel * 16 ≤ 601024; omega) (by show n + 6 + fuel * 4608 ≤ 7293034; omega) ha0 hf
                                                · refine J_icmp_eq (tgt := 1279) dL_law_1274 (by decide) (fun w => absurd w c259) (fun _ => ?_)
                                                  refine J_iconst (v := 0) dL_law_1277 (by decide) ?_
                                                  cases hf
                                              · skip
                                                rcases br hf with ⟨c264, hf⟩ | ⟨c264, hf⟩
                                                · refine J_tableC (off := 1260) (tgt := 1299) c264 dL_law_39 (by decide) (by decide) (by decide) (by decide) ?_
                                                  refine J_aload_n dL_law_1299 rfl rfl ?_
                                                  refine J_aload_n dL_law_1300 rfl rfl ?_
                                                  refine J_iload dL_law_1301 rfl ?_
                                                  refine J_iconst (v := 1) dL_law_1303 (by decide) ?_
                                                  refine J_iadd dL_law_1304 ?_
                                                  obtain ⟨n265, hf⟩ := gds hf
                                                  refine J_scrLoad ha0 dL_law_1305 n265 ?_
                                                  refine J_aload_n dL_law_1306 rfl rfl ?_
                                                  obtain ⟨vo266, zo266, ho266h, ho266, hf⟩ := rfs3 hf
                                                  refine CSW3i dL_law_1307 (mL_told hst ho266) tk_850 iL_told ⟨Nat.le_of_ble_eq_true rfl, Nat.le_of_ble_eq_true rfl⟩ ⟨(by show k + 1 ≤ 601024; omega), (by show n + 6 ≤ 7293034; omega)⟩ (Nat.le_of_ble_eq_true rfl) ?_
                                                  refine J.kn (k' := k + 1) (n' := n + 6) rfl rfl ?_
                                                  refine S_istore_5 dL_law_1310 rfl (Nat.le_of_ble_eq_true rfl) ?_
                                                  refine J_aload_n dL_law_1312 rfl rfl ?_
                                                  refine J_aload_n dL_law_1313 rfl rfl ?_
                                                  refine J_iload dL_law_1314 rfl ?_
                                                  refine J_iconst (v := 1) dL_law_1316 (by decide) ?_
                                                  refine J_iadd dL_law_1317 ?_
                                                  obtain ⟨n267, hf⟩ := gds hf
                                                  refine J_scrLoad ha0 dL_law_1318 n267 ?_
                                                  obtain ⟨k268, hf⟩ := gds hf
                                                  obtain ⟨vo269, zo269, ho269h, ho269, hf⟩ := rfs3 hf
                                                  refine CV1i dL_law_1319 (mX9_told hst ho269) tk_1262 iX9_told k268 (by decide) rfl ⟨Nat.le_of_ble_eq_true rfl, Nat.le_of_ble_eq_true rfl⟩ ⟨(by show k + 1 + 0 ≤ 601024; omega), (by show n + 6 + 0 ≤ 7293034; omega)⟩ (Nat.le_of_ble_eq_true rfl) ?_
                                                  refine J.kn (k' := k + 1) (n' := n + 6) (Nat.add_zero _) (Nat.add_zero _) ?_
                                                  refine S_istore_6 dL_law_1322 rfl (Nat.le_of_ble_eq_true rfl) ?_
                                                  refine J_aload_n dL_law_1324 rfl rfl ?_
                                                  obtain ⟨k270, hf⟩ := gds hf
                                                  obtain ⟨vo271, zo271, ho271h, ho271, hf⟩ := rfs3 hf
                                                  refine CV0i dL_law_1325 (mX9_thrown hst ho271) tk_980 iX9_thrown k270 (by decide) rfl ⟨Nat.le_of_ble_eq_true rfl, Nat.le_of_ble_eq_true rfl⟩ ⟨(by show k + 1 + 0 ≤ 601024; omega), (by show n + 6 + 0 ≤ 7293034; omega)⟩ (Nat.le_of_ble_eq_true rfl) ?_
                                                  refine J.kn (k' := k + 1) (n' := n + 6) (Nat.add_zero _) (Nat.add_zero _) ?_
                                                  refine J_iload dL_law_1328 rfl ?_
                                                  rcases br hf with ⟨c272, hf⟩ | ⟨c272, hf⟩
                                                  · refine J_icmp_eq (tgt := 1335) dL_law_1330 (by decide) (fun _ => ?_) (fun w => absurd c272 w)
                                                    refine J_iload dL_law_1335 rfl ?_
                                                    rcases br hf with ⟨c273, hf⟩ | ⟨c273, hf⟩
                                                    · refine J_if_ne (tgt := 1352) dL_law_1337 (by decide) (fun w => absurd c273 w) (fun _ => ?_)
                                                      refine J_aload_n dL_law_1340 rfl rfl ?_
                                                      refine J_iconst (v := 0) dL_law_1341 (by decide) ?_
                                                      obtain ⟨k274, hf⟩ := gds hf
                                                      obtain ⟨n275, hf⟩ := gds hf
                                                      refine J_laload dL_law_1342 k274 n275 ?_
                                                      refine J_iload dL_law_1343 rfl ?_
                                                      refine J_i2l dL_law_1345 ?_
                                                      refine J_lcmp dL_law_1346 ?_
                                                      rcases br hf with ⟨c276, hf⟩ | ⟨c276, hf⟩
                                                      · refine J_if_eq (tgt := 1352) dL_law_1347 (by decide) (fun _ => ?_) (fun w => absurd c276 w)
                                                        refine J.sub (jsub_s (jsub_s (jsub_s (jsub_s (jsub_s (jsub_n (jsub_n (jsub_nil _)))))))) ?_
                                                        exact wbL_law_1352 hst fuel _ hq23 (by show k + 1 + fuel * 16 ≤ 601024; omega) (by show n + 6 + fuel * 4608 ≤ 7293034; omega) ha0 hf
                                                      · refine J_if_eq (tgt := 1352) dL_law_1347 (by decide) (fun w => absurd w c276) (fun _ => ?_)
                                                        refine J_iconst (v := 0) dL_law_1350 (by decide) ?_
                                                        cases hf
                                                    · refine J_if_ne (tgt := 1352) dL_law_1337 (by decide) (fun _ => ?_) (fun w => absurd w c273)
                                                      refine J.sub (jsub_s (jsub_s (jsub_s (jsub_s (jsub_s (jsub_n (jsub_n (jsub_nil _)))))))) ?_
                                                      exact wbL_law_1352 hst fuel _ hq23 (by show k + 1 + fuel * 16 ≤ 601024; omega) (by show n + 6 + fuel * 4608 ≤ 7293034; omega) ha0 hf
                                                  · refine J_icmp_eq (tgt := 1335) dL_law_1330 (by decide) (fun w => absurd w c272) (fun _ => ?_)
                                                    refine J_iconst (v := 0) dL_law_1333 (by decide) ?_
                                                    cases hf
                                                · skip
                                                  rcases br hf with ⟨c277, hf⟩ | ⟨c277, hf⟩
                                                  · refine J_tableC (off := 1316) (tgt := 1355) c277 dL_law_39 (by decide) (by decide) (by decide) (by decide) ?_
                                                    refine J_aload_n dL_law_1355 rfl rfl ?_
                                                    obtain ⟨k278, hf⟩ := gds hf
                                                    obtain ⟨vo279, zo279, ho279h, ho279, hf⟩ := rfs3 hf
                                                    refine CV0i dL_law_1356 (mX8_onCycles hst ho279) tk_288 iX8_onCycles k278 (by decide) rfl ⟨Nat.le_of_ble_eq_true rfl, Nat.le_of_ble_eq_true rfl⟩ ⟨(by show k + 0 ≤ 601024; omega), (by show n + 0 ≤ 7293034; omega)⟩ (Nat.le_of_ble_eq_true rfl) ?_
                                                    refine J.kn (k' := k) (n' := n) (Nat.add_zero _) (Nat.add_zero _) ?_
                                                    refine J_aload_n dL_law_1359 rfl rfl ?_
                                                    obtain ⟨k280, hf⟩ := gds hf
                                                    obtain ⟨vo281, zo281, ho281h, ho281, hf⟩ := rfs3 hf
                                                    refine CV0i dL_law_1360 (mX9_onCycles hst ho281) tk_1266 iX9_onCycles k280 (by decide) rfl ⟨Nat.le_of_ble_eq_true rfl, Nat.le_of_ble_eq_true rfl⟩ ⟨(by show k + 0 ≤ 601024; omega), (by show n + 0 ≤ 7293034; omega)⟩ (Nat.le_of_ble_eq_true rfl) ?_
                                                    refine J.kn (k' := k) (n' := n) (Nat.add_zero _) (Nat.add_zero _) ?_
                                                    rcases br hf with ⟨c282, hf⟩ | ⟨c282, hf⟩
                                                    · refine J_icmp_eq (tgt := 1716) dL_law_1363 (by decide) (fun _ => ?_) (fun w => absurd c282 w)
                                                      refine J.sub (jsub_s (jsub_s (jsub_s (jsub_s (jsub_s (jsub_n (jsub_n (jsub_nil _)))))))) ?_
                                                      exact wbL_law_1716 hst fuel _ hq23 (Nat.le_of_add_right_le hk0) (Nat.le_of_add_right_le hn0) ha0 hf
                                                    · refine J_icmp_eq (tgt := 1716) dL_law_1363 (by decide) (fun w => absurd w c282) (fun _ => ?_)
                                                      refine J_iconst (v := 0) dL_law_1366 (by decide) ?_
                                                      cases hf
                                                  · skip
                                                    rcases br hf with ⟨c283, hf⟩ | ⟨c283, hf⟩
                                                    · refine J_tableC (off := 1329) (tgt := 1368) c283 dL_law_39 (by decide) (by decide) (by decide) (by decide) ?_
                                                      refine J_aload_n dL_law_1368 rfl rfl ?_
                                                      obtain ⟨k284, hf⟩ := gds hf
                                                      obtain ⟨vo285, zo285, ho285h, ho285, hf⟩ := rfs3 hf
                                                      refine CV0i dL_law_1369 (mX8_stuck hst ho285) tk_311 iX8_stuck k284 (by decide) rfl ⟨Nat.le_of_ble_eq_true rfl, Nat.le_of_ble_eq_true rfl⟩ ⟨(by show k + 0 ≤ 601024; omega), (by show n + 0 ≤ 7293034; omega)⟩ (Nat.le_of_ble_eq_true rfl) ?_
                                                      refine J.kn (k' := k) (n' := n) (Nat.add_zero _) (Nat.add_zero _) ?_
                                                      refine J_aload_n dL_law_1372 rfl rfl ?_
                                                      obtain ⟨k286, hf⟩ := gds hf
                                                      obtain ⟨vo287, zo287, ho287h, ho287, hf⟩ := rfs3 hf
                                                      refine CV0i dL_law_1373 (mX9_stuck hst ho287) tk_1270 iX9_stuck k286 (by decide) rfl ⟨Nat.le_of_ble_eq_true rfl, Nat.le_of_ble_eq_true rfl⟩ ⟨(by show k + 0 ≤ 601024; omega), (by show n + 0 ≤ 7293034; omega)⟩ (Nat.le_of_ble_eq_true rfl) ?_
                                                      refine J.kn (k' := k) (n' := n) (Nat.add_zero _) (Nat.add_zero _) ?_
                                                      rcases br hf with ⟨c288, hf⟩ | ⟨c288, hf⟩
                                                      · refine J_icmp_eq (tgt := 1716) dL_law_1376 (by decide) (fun _ => ?_) (fun w => absurd c288 w)
                                                        refine J.sub (jsub_s (jsub_s (jsub_s (jsub_s (jsub_s (jsub_n (jsub_n (jsub_nil _)))))))) ?_
                                                        exact wbL_law_1716 hst fuel _ hq23 (Nat.le_of_add_right_le hk0) (Nat.le_of_add_right_le hn0) ha0 hf
                                                      · refine J_icmp_eq (tgt := 1716) dL_law_1376 (by decide) (fun w => absurd w c288) (fun _ => ?_)
                                                        refine J_iconst (v := 0) dL_law_1379 (by decide) ?_
                                                        cases hf
                                                    · skip
                                                      rcases br hf with ⟨c289, hf⟩ | ⟨c289, hf⟩
                                                      · refine J_tableC (off := 1342) (tgt := 1381) c289 dL_law_39 (by decide) (by decide) (by decide) (by decide) ?_
                                                        refine J_aload_n dL_law_1381 rfl rfl ?_
                                                        refine J_aload_n dL_law_1382 rfl rfl ?_
                                                        refine J_iload dL_law_1383 rfl ?_
                                                        refine J_iconst (v := 1) dL_law_1385 (by decide) ?_
                                                        refine J_iadd dL_law_1386 ?_
                                                        obtain ⟨n290, hf⟩ := gds hf
                                                        refine J_scrLoad ha0 dL_law_1387 n290 ?_
                                                        refine J_aload_n dL_law_1388 rfl rfl ?_
                                                        obtain ⟨vo291, zo291, ho291h, ho291, hf⟩ := rfs3 hf
                                                        refine CSW3i dL_law_1389 (mL_shortestCycle hst ho291) tk_857 iL_shortestCycle ⟨Nat.le_of_ble_eq_true rfl, Nat.le_of_ble_eq_true rfl⟩ ⟨(by show k + 1 ≤ 601024; omega), (by show n + 6 ≤ 7293034; omega)⟩ (Nat.le_of_ble_eq_true rfl) ?_
                                                        refine J.kn (k' := k + 1) (n' := n + 6) rfl rfl ?_
                                                        refine S_istore_5 dL_law_1392 rfl (Nat.le_of_ble_eq_true rfl) ?_
                                                        refine J_aload_n dL_law_1394 rfl rfl ?_
                                                        refine J_aload_n dL_law_1395 rfl rfl ?_
                                                        refine J_iload dL_law_1396 rfl ?_
                                                        refine J_iconst (v := 1) dL_law_1398 (by decide) ?_
                                                        refine J_iadd dL_law_1399 ?_
                                                        obtain ⟨n292, hf⟩ := gds hf
                                                        refine J_scrLoad ha0 dL_law_1400 n292 ?_
                                                        obtain ⟨k293, hf⟩ := gds hf
                                                        obtain ⟨vo294, zo294, ho294h, ho294, hf⟩ := rfs3 hf
                                                        refine CV1i dL_law_1401 (mX9_shortestCycle hst ho294) tk_1278 iX9_shortestCycle k293 (by decide) rfl ⟨Nat.le_of_ble_eq_true rfl, Nat.le_of_ble_eq_true rfl⟩ ⟨(by show k + 1 + 0 ≤ 601024; omega), (by show n + 6 + 0 ≤ 7293034; omega)⟩ (Nat.le_of_ble_eq_true rfl) ?_
                                                        refine J.kn (k' := k + 1) (n' := n + 6) (Nat.add_zero _) (Nat.add_zero _) ?_
                                                        refine S_istore_6 dL_law_1404 rfl (Nat.le_of_ble_eq_true rfl) ?_
                                                        refine J_aload_n dL_law_1406 rfl rfl ?_
                                                        obtain ⟨k295, hf⟩ := gds hf
                                                        obtain ⟨vo296, zo296, ho296h, ho296, hf⟩ := rfs3 hf
                                                        refine CV0i dL_law_1407 (mX9_thrown hst ho296) tk_980 iX9_thrown k295 (by decide) rfl ⟨Nat.le_of_ble_eq_true rfl, Nat.le_of_ble_eq_true rfl⟩ ⟨(by show k + 1 + 0 ≤ 601024; omega), (by show n + 6 + 0 ≤ 7293034; omega)⟩ (Nat.le_of_ble_eq_true rfl) ?_
                                                        refine J.kn (k' := k + 1) (n' := n + 6) (Nat.add_zero _) (Nat.add_zero _) ?_
                                                        refine J_iload dL_law_1410 rfl ?_
                                                        rcases br hf with ⟨c297, hf⟩ | ⟨c297, hf⟩
                                                        · refine J_icmp_eq (tgt := 1417) dL_law_1412 (by decide) (fun _ => ?_) (fun w => absurd c297 w)
                                                          refine J_iload dL_law_1417 rfl ?_
                                                          rcases br hf with ⟨c298, hf⟩ | ⟨c298, hf⟩
                                                          · refine J_if_ne (tgt := 1434) dL_law_1419 (by decide) (fun w => absurd c298 w) (fun _ => ?_)
                                                            refine J_aload_n dL_law_1422 rfl rfl ?_
                                                            refine J_iconst (v := 0) dL_law_1423 (by decide) ?_
                                                            obtain ⟨k299, hf⟩ := gds hf
                                                            obtain ⟨n300, hf⟩ := gds hf
                                                            refine J_laload dL_law_1424 k299 n300 ?_
                                                            refine J_iload dL_law_1425 rfl ?_
                                                            refine J_i2l dL_law_1427 ?_
                                                            refine J_lcmp dL_law_1428 ?_
                                                            rcases br hf with ⟨c301, hf⟩ | ⟨c301, hf⟩
                                                            · refine J_if_eq (tgt := 1434) dL_law_1429 (by decide) (fun _ => ?_) (fun w => absurd c301 w)
                                                              refine J.sub (jsub_s (jsub_s (jsub_s (jsub_s (jsub_s (jsub_n (jsub_n (jsub_nil _)))))))) ?_
                                                              exact wbL_law_1434 hst fuel _ hq23 (by show k + 1 + fuel * 16 ≤ 601024; omega) (by show n + 6 + fuel * 4608 ≤ 7293034; omega) ha0 hf
                                                            · refine J_if_eq (tgt := 1434) dL_law_1429 (by decide) (fun w => absurd w c301) (fun _ => ?_)
                                                              refine J_iconst (v := 0) dL_law_1432 (by decide) ?_
                                                              cases hf
                                                          · refine J_if_ne (tgt := 1434) dL_law_1419 (by decide) (fun _ => ?_) (fun w => absurd w c298)
                                                            refine J.sub (jsub_s (jsub_s (jsub_s (jsub_s (jsub_s (jsub_n (jsub_n (jsub_nil _)))))))) ?_
                                                            exact wbL_law_1434 hst fuel _ hq23 (by show k + 1 + fuel * 16 ≤ 601024; omega) (by show n + 6 + fuel * 4608 ≤ 7293034; omega) ha0 hf
                                                        · refine J_icmp_eq (tgt := 1417) dL_law_1412 (by decide) (fun w => absurd w c297) (fun _ => ?_)
                                                          refine J_iconst (v := 0) dL_law_1415 (by decide) ?_
                                                          cases hf
                                                      · skip
                                                        rcases br hf with ⟨c302, hf⟩ | ⟨c302, hf⟩
                                                        · refine J_tableC (off := 1398) (tgt := 1437) c302 dL_law_39 (by decide) (by decide) (by decide) (by decide) ?_
                                                          refine J_aload_n dL_law_1437 rfl rfl ?_
                                                          obtain ⟨k303, hf⟩ := gds hf
                                                          obtain ⟨vo304, zo304, ho304h, ho304, hf⟩ := rfs3 hf
                                                          refine CV0i dL_law_1438 (mX8_cycles hst ho304) tk_319 iX8_cycles k303 (by decide) rfl ⟨Nat.le_of_ble_eq_true rfl, Nat.le_of_ble_eq_true rfl⟩ ⟨(by show k + 1 ≤ 601024; omega), (by show n + 4608 ≤ 7293034; omega)⟩ (Nat.le_of_ble_eq_true rfl) ?_
                                                          refine J.kn (k' := k + 1) (n' := n + 4608) rfl rfl ?_
                                                          refine J_aload_n dL_law_1441 rfl rfl ?_
                                                          obtain ⟨k305, hf⟩ := gds hf
                                                          obtain ⟨vo306, zo306, ho306h, ho306, hf⟩ := rfs3 hf
                                                          refine CV0i dL_law_1442 (mX9_cycles hst ho306) tk_1282 iX9_cycles k305 (by decide) rfl ⟨Nat.le_of_ble_eq_true rfl, Nat.le_of_ble_eq_true rfl⟩ ⟨(by show k + 1 + 0 ≤ 601024; omega), (by show n + 4608 + 0 ≤ 7293034; omega)⟩ (Nat.le_of_ble_eq_true rfl) ?_
                                                          refine J.kn (k' := k + 1) (n' := n + 4608) (Nat.add_zero _) (Nat.add_zero _) ?_
                                                          rcases br hf with ⟨c307, hf⟩ | ⟨c307, hf⟩
                                                          · refine J_icmp_eq (tgt := 1716) dL_law_1445 (by decide) (fun _ => ?_) (fun w => absurd c307 w)
                                                            refine J.sub (jsub_s (jsub_s (jsub_s (jsub_s (jsub_s (jsub_n (jsub_n (jsub_nil _)))))))) ?_
                                                            exact wbL_law_1716 hst fuel _ hq23 (by show k + 1 + fuel * 16 ≤ 601024; omega) (by show n + 4608 + fuel * 4608 ≤ 7293034; omega) ha0 hf
                                                          · refine J_icmp_eq (tgt := 1716) dL_law_1445 (by decide) (fun w => absurd w c307) (fun _ => ?_)
                                                            refine J_iconst (v := 0) dL_law_1448 (by decide) ?_
                                                            cases hf
                                                        · skip
                                                          rcases br hf with ⟨c308, hf⟩ | ⟨c308, hf⟩
                                                          · refine J_tableC (off := 1411) (tgt := 1450) c308 dL_law_39 (by decide) (by decide) (by decide) (by decide) ?_
                                                            refine J_aload_n dL_law_1450 rfl rfl ?_
                                                            refine J_aload_n dL_law_1451 rfl rfl ?_
                                                            refine J_iload dL_law_1452 rfl ?_
                                                            refine J_iconst (v := 1) dL_law_1454 (by decide) ?_
                                                            refine J_iadd dL_law_1455 ?_
                                                            obtain ⟨n309, hf⟩ := gds hf
                                                            refine J_scrLoad ha0 dL_law_1456 n309 ?_
                                                            refine J_aload_n dL_law_1457 rfl rfl ?_
                                                            obtain ⟨vo310, zo310, ho310h, ho310, hf⟩ := rfs3 hf
                                                            refine CSW3i dL_law_1458 (mL_latest hst ho310) tk_868 iL_latest ⟨Nat.le_of_ble_eq_true rfl, Nat.le_of_ble_eq_true rfl⟩ ⟨(by show k + 1 ≤ 601024; omega), (by show n + 6 ≤ 7293034; omega)⟩ (Nat.le_of_ble_eq_true rfl) ?_
                                                            refine J.kn (k' := k + 1) (n' := n + 6) rfl rfl ?_
                                                            refine S_istore_5 dL_law_1461 rfl (Nat.le_of_ble_eq_true rfl) ?_
                                                            refine J_aload_n dL_law_1463 rfl rfl ?_
                                                            refine J_aload_n dL_law_1464 rfl rfl ?_
                                                            refine J_iload dL_law_1465 rfl ?_
                                                            refine J_iconst (v := 1) dL_law_1467 (by decide) ?_
                                                            refine J_iadd dL_law_1468 ?_
                                                            obtain ⟨n311, hf⟩ := gds hf
                                                            refine J_scrLoad ha0 dL_law_1469 n311 ?_
                                                            obtain ⟨k312, hf⟩ := gds hf
                                                            obtain ⟨vo313, zo313, ho313h, ho313, hf⟩ := rfs3 hf
                                                            refine CV1i dL_law_1470 (mX9_latest hst ho313) tk_1286 iX9_latest k312 (by decide) rfl ⟨Nat.le_of_ble_eq_true rfl, Nat.le_of_ble_eq_true rfl⟩ ⟨(by show k + 1 + 0 ≤ 601024; omega), (by show n + 6 + 0 ≤ 7293034; omega)⟩ (Nat.le_of_ble_eq_true rfl) ?_
                                                            refine J.kn (k' := k + 1) (n' := n + 6) (Nat.add_zero _) (Nat.add_zero _) ?_
                                                            refine S_istore_6 dL_law_1473 rfl (Nat.le_of_ble_eq_true rfl) ?_
                                                            refine J_aload_n dL_law_1475 rfl rfl ?_
                                                            obtain ⟨k314, hf⟩ := gds hf
                                                            obtain ⟨vo315, zo315, ho315h, ho315, hf⟩ := rfs3 hf
                                                            refine CV0i dL_law_1476 (mX9_thrown hst ho315) tk_980 iX9_thrown k314 (by decide) rfl ⟨Nat.le_of_ble_eq_true rfl, Nat.le_of_ble_eq_true rfl⟩ ⟨(by show k + 1 + 0 ≤ 601024; omega), (by show n + 6 + 0 ≤ 7293034; omega)⟩ (Nat.le_of_ble_eq_true rfl) ?_
                                                            refine J.kn (k' := k + 1) (n' := n + 6) (Nat.add_zero _) (Nat.add_zero _) ?_
                                                            refine J_iload dL_law_1479 rfl ?_
                                                            rcases br hf with ⟨c316, hf⟩ | ⟨c316, hf⟩
                                                            · refine J_icmp_eq (tgt := 1486) dL_law_1481 (by decide) (fun _ => ?_) (fun w => absurd c316 w)
                                                              refine J_iload dL_law_1486 rfl ?_
                                                              rcases br hf with ⟨c317, hf⟩ | ⟨c317, hf⟩
                                                              · refine J_if_ne (tgt := 1503) dL_law_1488 (by decide) (fun w => absurd c317 w) (fun _ => ?_)
                                                                refine J_aload_n dL_law_1491 rfl rfl ?_
                                                                refine J_iconst (v := 0) dL_law_1492 (by decide) ?_
                                                                obtain ⟨k318, hf⟩ := gds hf
                                                                obtain ⟨n319, hf⟩ := gds hf
                                                                refine J_laload dL_law_1493 k318 n319 ?_
                                                                refine J_iload dL_law_1494 rfl ?_
                                                                refine J_i2l dL_law_1496 ?_
                                                                refine J_lcmp dL_law_1497 ?_
                                                                rcases br hf with ⟨c320, hf⟩ | ⟨c320, hf⟩
                                                                · refine J_if_eq (tgt := 1503) dL_law_1498 (by decide) (fun _ => ?_) (fun w => absurd c320 w)
                                                                  refine J.sub (jsub_s (jsub_s (jsub_s (jsub_s (jsub_s (jsub_n (jsub_n (jsub_nil _)))))))) ?_
                                                                  exact wbL_law_1503 hst fuel _ hq23 (by show k + 1 + fuel * 16 ≤ 601024; omega) (by show n + 6 + fuel * 4608 ≤ 7293034; omega) ha0 hf
                                                                · refine J_if_eq (tgt := 1503) dL_law_1498 (by decide) (fun w => absurd w c320) (fun _ => ?_)
                                                                  refine J_iconst (v := 0) dL_law_1501 (by decide) ?_
                                                                  cases hf
                                                              · refine J_if_ne (tgt := 1503) dL_law_1488 (by decide) (fun _ => ?_) (fun w => absurd w c317)
                                                                refine J.sub (jsub_s (jsub_s (jsub_s (jsub_s (jsub_s (jsub_n (jsub_n (jsub_nil _)))))))) ?_
                                                                exact wbL_law_1503 hst fuel _ hq23 (by show k + 1 + fuel * 16 ≤ 601024; omega) (by show n + 6 + fuel * 4608 ≤ 7293034; omega) ha0 hf
                                                            · refine J_icmp_eq (tgt := 1486) dL_law_1481 (by decide) (fun w => absurd w c316) (fun _ => ?_)
                                                              refine J_iconst (v := 0) dL_law_1484 (by decide) ?_
                                                              cases hf
                                                          · skip
                                                            rcases br hf with ⟨c321, hf⟩ | ⟨c321, hf⟩
                                                            · refine J_tableC (off := 1467) (tgt := 1506) c321 dL_law_39 (by decide) (by decide) (by decide) (by decide) ?_
                                                              refine J_aload_n dL_law_1506 rfl rfl ?_
                                                              obtain ⟨k322, hf⟩ := gds hf
                                                              obtain ⟨vo323, zo323, ho323h, ho323, hf⟩ := rfs3 hf
                                                              refine CV0i dL_law_1507 (mX8_bestVictims hst ho323) tk_335 iX8_bestVictims k322 (by decide) rfl ⟨Nat.le_of_ble_eq_true rfl, Nat.le_of_ble_eq_true rfl⟩ ⟨(by show k + 0 ≤ 601024; omega), (by show n + 0 ≤ 7293034; omega)⟩ (Nat.le_of_ble_eq_true rfl) ?_
                                                              refine J.kn (k' := k) (n' := n) (Nat.add_zero _) (Nat.add_zero _) ?_
                                                              refine J_aload_n dL_law_1510 rfl rfl ?_
                                                              obtain ⟨k324, hf⟩ := gds hf
                                                              obtain ⟨vo325, zo325, ho325h, ho325, hf⟩ := rfs3 hf
                                                              refine CV0i dL_law_1511 (mX9_bestVictims hst ho325) tk_1290 iX9_bestVictims k324 (by decide) rfl ⟨Nat.le_of_ble_eq_true rfl, Nat.le_of_ble_eq_true rfl⟩ ⟨(by show k + 0 ≤ 601024; omega), (by show n + 0 ≤ 7293034; omega)⟩ (Nat.le_of_ble_eq_true rfl) ?_
                                                              refine J.kn (k' := k) (n' := n) (Nat.add_zero _) (Nat.add_zero _) ?_
                                                              rcases br hf with ⟨c326, hf⟩ | ⟨c326, hf⟩
                                                              · refine J_icmp_eq (tgt := 1716) dL_law_1514 (by decide) (fun _ => ?_) (fun w => absurd c326 w)
                                                                refine J.sub (jsub_s (jsub_s (jsub_s (jsub_s (jsub_s (jsub_n (jsub_n (jsub_nil _)))))))) ?_
                                                                exact wbL_law_1716 hst fuel _ hq23 (Nat.le_of_add_right_le hk0) (Nat.le_of_add_right_le hn0) ha0 hf
                                                              · refine J_icmp_eq (tgt := 1716) dL_law_1514 (by decide) (fun w => absurd w c326) (fun _ => ?_)
                                                                refine J_iconst (v := 0) dL_law_1517 (by decide) ?_
                                                                cases hf
                                                            · skip
                                                              rcases br hf with ⟨c327, hf⟩ | ⟨c327, hf⟩
                                                              · refine J_tableC (off := 1480) (tgt := 1519) c327 dL_law_39 (by decide) (by decide) (by decide) (by decide) ?_
                                                                refine J_aload_n dL_law_1519 rfl rfl ?_
                                                                obtain ⟨k328, hf⟩ := gds hf
                                                                obtain ⟨vo329, zo329, ho329h, ho329, hf⟩ := rfs3 hf
                                                                refine CV0i dL_law_1520 (mX8_wouldEnd hst ho329) tk_357 iX8_wouldEnd k328 (by decide) rfl ⟨Nat.le_of_ble_eq_true rfl, Nat.le_of_ble_eq_true rfl⟩ ⟨(by show k + 0 ≤ 601024; omega), (by show n + 0 ≤ 7293034; omega)⟩ (Nat.le_of_ble_eq_true rfl) ?_
                                                                refine J.kn (k' := k) (n' := n) (Nat.add_zero _) (Nat.add_zero _) ?_
                                                                refine J_aload_n dL_law_1523 rfl rfl ?_
                                                                obtain ⟨k330, hf⟩ := gds hf
                                                                obtain ⟨vo331, zo331, ho331h, ho331, hf⟩ := rfs3 hf
                                                                refine CV0i dL_law_1524 (mX9_wouldEnd hst ho331) tk_1298 iX9_wouldEnd k330 (by decide) rfl ⟨Nat.le_of_ble_eq_true rfl, Nat.le_of_ble_eq_true rfl⟩ ⟨(by show k + 0 ≤ 601024; omega), (by show n + 0 ≤ 7293034; omega)⟩ (Nat.le_of_ble_eq_true rfl) ?_
                                                                refine J.kn (k' := k) (n' := n) (Nat.add_zero _) (Nat.add_zero _) ?_
                                                                rcases br hf with ⟨c332, hf⟩ | ⟨c332, hf⟩
                                                                · refine J_icmp_eq (tgt := 1716) dL_law_1527 (by decide) (fun _ => ?_) (fun w => absurd c332 w)
                                                                  refine J.sub (jsub_s (jsub_s (jsub_s (jsub_s (jsub_s (jsub_n (jsub_n (jsub_nil _)))))))) ?_
                                                                  exact wbL_law_1716 hst fuel _ hq23 (Nat.le_of_add_right_le hk0) (Nat.le_of_add_right_le hn0) ha0 hf
                                                                · refine J_icmp_eq (tgt := 1716) dL_law_1527 (by decide) (fun w => absurd w c332) (fun _ => ?_)
                                                                  refine J_iconst (v := 0) dL_law_1530 (by decide) ?_
                                                                  cases hf
                                                              · skip
                                                                rcases br hf with ⟨c333, hf⟩ | ⟨c333, hf⟩
                                                                · refine J_tableC (off := 1493) (tgt := 1532) c333 dL_law_39 (by decide) (by decide) (by decide) (by decide) ?_
                                                                  refine J_aload_n dL_law_1532 rfl rfl ?_
                                                                  refine J_aload_n dL_law_1533 rfl rfl ?_
                                                                  refine J_iload dL_law_1534 rfl ?_
                                                                  refine J_iconst (v := 1) dL_law_1536 (by decide) ?_
                                                                  refine J_iadd dL_law_1537 ?_
                                                                  obtain ⟨n334, hf⟩ := gds hf
                                                                  refine J_scrLoad ha0 dL_law_1538 n334 ?_
                                                                  refine J_aload_n dL_law_1539 rfl rfl ?_
                                                                  obtain ⟨vo335, zo335, ho335h, ho335, hf⟩ := rfs3 hf
                                                                  refine CSW3i dL_law_1540 (mL_type hst ho335) tk_875 iL_type ⟨Nat.le_of_ble_eq_true rfl, Nat.le_of_ble_eq_true rfl⟩ ⟨(by show k + 1 ≤ 601024; omega), (by show n + 6 ≤ 7293034; omega)⟩ (Nat.le_of_ble_eq_true rfl) ?_
                                                                  refine J.kn (k' := k + 1) (n' := n + 6) rfl rfl ?_
                                                                  refine S_istore_5 dL_law_1543 rfl (Nat.le_of_ble_eq_true rfl) ?_
                                                                  refine J_aload_n dL_law_1545 rfl rfl ?_
                                                                  refine J_aload_n dL_law_1546 rfl rfl ?_
                                                                  refine J_iload dL_law_1547 rfl ?_
                                                                  refine J_iconst (v := 1) dL_law_1549 (by decide) ?_
                                                                  refine J_iadd dL_law_1550 ?_
                                                                  obtain ⟨n336, hf⟩ := gds hf
                                                                  refine J_scrLoad ha0 dL_law_1551 n336 ?_
                                                                  obtain ⟨k337, hf⟩ := gds hf
                                                                  obtain ⟨vo338, zo338, ho338h, ho338, hf⟩ := rfs3 hf
                                                                  refine CV1i dL_law_1552 (mX9_type hst ho338) tk_1302 iX9_type k337 (by decide) rfl ⟨Nat.le_of_ble_eq_true rfl, Nat.le_of_ble_eq_true rfl⟩ ⟨(by show k + 1 + 0 ≤ 601024; omega), (by show n + 6 + 0 ≤ 7293034; omega)⟩ (Nat.le_of_ble_eq_true rfl) ?_
                                                                  refine J.kn (k' := k + 1) (n' := n + 6) (Nat.add_zero _) (Nat.add_zero _) ?_
                                                                  refine S_istore_6 dL_law_1555 rfl (Nat.le_of_ble_eq_true rfl) ?_
                                                                  refine J_aload_n dL_law_1557 rfl rfl ?_
                                                                  obtain ⟨k339, hf⟩ := gds hf
                                                                  obtain ⟨vo340, zo340, ho340h, ho340, hf⟩ := rfs3 hf
                                                                  refine CV0i dL_law_1558 (mX9_thrown hst ho340) tk_980 iX9_thrown k339 (by decide) rfl ⟨Nat.le_of_ble_eq_true rfl, Nat.le_of_ble_eq_true rfl⟩ ⟨(by show k + 1 + 0 ≤ 601024; omega), (by show n + 6 + 0 ≤ 7293034; omega)⟩ (Nat.le_of_ble_eq_true rfl) ?_
                                                                  refine J.kn (k' := k + 1) (n' := n + 6) (Nat.add_zero _) (Nat.add_zero _) ?_
                                                                  refine J_iload dL_law_1561 rfl ?_
                                                                  rcases br hf with ⟨c341, hf⟩ | ⟨c341, hf⟩
                                                                  · refine J_icmp_eq (tgt := 1568) dL_law_1563 (by decide) (fun _ => ?_) (fun w => absurd c341 w)
                                                                    refine J_iload dL_law_1568 rfl ?_
                                                                    rcases br hf with ⟨c342, hf⟩ | ⟨c342, hf⟩
                                                                    · refine J_if_ne (tgt := 1585) dL_law_1570 (by decide) (fun w => absurd c342 w) (fun _ => ?_)
                                                                      refine J_aload_n dL_law_1573 rfl rfl ?_
                                                                      refine J_iconst (v := 0) dL_law_1574 (by decide) ?_
                                                                      obtain ⟨k343, hf⟩ := gds hf
                                                                      obtain ⟨n344, hf⟩ := gds hf
                                                                      refine J_laload dL_law_1575 k343 n344 ?_
                                                                      refine J_iload dL_law_1576 rfl ?_
                                                                      refine J_i2l dL_law_1578 ?_
                                                                      refine J_lcmp dL_law_1579 ?_
                                                                      rcases br hf with ⟨c345, hf⟩ | ⟨c345, hf⟩
                                                                      · refine J_if_eq (tgt := 1585) dL_law_1580 (by decide) (fun _ => ?_) (fun w => absurd c345 w)
                                                                        refine J.sub (jsub_s (jsub_s (jsub_s (jsub_s (jsub_s (jsub_n (jsub_n (jsub_nil _)))))))) ?_
                                                                        exact wbL_law_1585 hst fuel _ hq23 (by show k + 1 + fuel * 16 ≤ 601024; omega) (by show n + 6 + fuel * 4608 ≤ 7293034; omega) ha0 hf
                                                                      · refine J_if_eq (tgt := 1585) dL_law_1580 (by decide) (fun w => absurd w c345) (fun _ => ?_)
                                                                        refine J_iconst (v := 0) dL_law_1583 (by decide) ?_
                                                                        cases hf
                                                                    · refine J_if_ne (tgt := 1585) dL_law_1570 (by decide) (fun _ => ?_) (fun w => absurd w c342)
                                                                      refine J.sub (jsub_s (jsub_s (jsub_s (jsub_s (jsub_s (jsub_n (jsub_n (jsub_nil _)))))))) ?_
                                                                      exact wbL_law_1585 hst fuel _ hq23 (by show k + 1 + fuel * 16 ≤ 601024; omega) (by show n + 6 + fuel * 4608 ≤ 7293034; omega) ha0 hf
                                                                  · refine J_icmp_eq (tgt := 1568) dL_law_1563 (by decide) (fun w => absurd w c341) (fun _ => ?_)
                                                                    refine J_iconst (v := 0) dL_law_1566 (by decide) ?_
                                                                    cases hf
                                                                · skip
                                                                  rcases br hf with ⟨c346, hf⟩ | ⟨c346, hf⟩
                                                                  · refine J_tableC (off := 1549) (tgt := 1588) c346 dL_law_39 (by decide) (by decide) (by decide) (by decide) ?_
                                                                    refine J_aload_n dL_law_1588 rfl rfl ?_
                                                                    obtain ⟨k347, hf⟩ := gds hf
                                                                    obtain ⟨vo348, zo348, ho348h, ho348, hf⟩ := rfs3 hf
                                                                    refine CV0i dL_law_1589 (mX8_clearText hst ho348) tk_402 iX8_clearText k347 (by decide) rfl ⟨Nat.le_of_ble_eq_true rfl, Nat.le_of_ble_eq_true rfl⟩ ⟨(by show k + 0 ≤ 601024; omega), (by show n + 0 ≤ 7293034; omega)⟩ (Nat.le_of_ble_eq_true rfl) ?_
                                                                    refine J.kn (k' := k) (n' := n) (Nat.add_zero _) (Nat.add_zero _) ?_
                                                                    refine J_aload_n dL_law_1592 rfl rfl ?_
                                                                    obtain ⟨k349, hf⟩ := gds hf
                                                                    obtain ⟨vo350, zo350, ho350h, ho350, hf⟩ := rfs3 hf
                                                                    refine CV0i dL_law_1593 (mX9_clearText hst ho350) tk_1306 iX9_clearText k349 (by decide) rfl ⟨Nat.le_of_ble_eq_true rfl, Nat.le_of_ble_eq_true rfl⟩ ⟨(by show k + 0 ≤ 601024; omega), (by show n + 0 ≤ 7293034; omega)⟩ (Nat.le_of_ble_eq_true rfl) ?_
                                                                    refine J.kn (k' := k) (n' := n) (Nat.add_zero _) (Nat.add_zero _) ?_
                                                                    rcases br hf with ⟨c351, hf⟩ | ⟨c351, hf⟩
                                                                    · refine J_icmp_eq (tgt := 1716) dL_law_1596 (by decide) (fun _ => ?_) (fun w => absurd c351 w)
                                                                      refine J.sub (jsub_s (jsub_s (jsub_s (jsub_s (jsub_s (jsub_n (jsub_n (jsub_nil _)))))))) ?_
                                                                      exact wbL_law_1716 hst fuel _ hq23 (Nat.le_of_add_right_le hk0) (Nat.le_of_add_right_le hn0) ha0 hf
                                                                    · refine J_icmp_eq (tgt := 1716) dL_law_1596 (by decide) (fun w => absurd w c351) (fun _ => ?_)
                                                                      refine J_iconst (v := 0) dL_law_1599 (by decide) ?_
                                                                      cases hf
                                                                  · skip
                                                                    rcases br hf with ⟨c352, hf⟩ | ⟨c352, hf⟩
                                                                    · refine J_tableC (off := 1562) (tgt := 1601) c352 dL_law_39 (by decide) (by decide) (by decide) (by decide) ?_
                                                                      refine J_aload_n dL_law_1601 rfl rfl ?_
                                                                      obtain ⟨k353, hf⟩ := gds hf
                                                                      obtain ⟨vo354, zo354, ho354h, ho354, hf⟩ := rfs3 hf
                                                                      refine CV0i dL_law_1602 (mX8_fault hst ho354) tk_406 iX8_fault k353 (by decide) rfl ⟨Nat.le_of_ble_eq_true rfl, Nat.le_of_ble_eq_true rfl⟩ ⟨(by show k + 0 ≤ 601024; omega), (by show n + 0 ≤ 7293034; omega)⟩ (Nat.le_of_ble_eq_true rfl) ?_
                                                                      refine J.kn (k' := k) (n' := n) (Nat.add_zero _) (Nat.add_zero _) ?_
                                                                      refine J_aload_n dL_law_1605 rfl rfl ?_
                                                                      obtain ⟨k355, hf⟩ := gds hf
                                                                      obtain ⟨vo356, zo356, ho356h, ho356, hf⟩ := rfs3 hf
                                                                      refine CV0i dL_law_1606 (mX9_fault hst ho356) tk_1310 iX9_fault k355 (by decide) rfl ⟨Nat.le_of_ble_eq_true rfl, Nat.le_of_ble_eq_true rfl⟩ ⟨(by show k + 0 ≤ 601024; omega), (by show n + 0 ≤ 7293034; omega)⟩ (Nat.le_of_ble_eq_true rfl) ?_
                                                                      refine J.kn (k' := k) (n' := n) (Nat.add_zero _) (Nat.add_zero _) ?_
                                                                      rcases br hf with ⟨c357, hf⟩ | ⟨c357, hf⟩
                                                                      · refine J_icmp_eq (tgt := 1716) dL_law_1609 (by decide) (fun _ => ?_) (fun w => absurd c357 w)
                                                                        refine J.sub (jsub_s (jsub_s (jsub_s (jsub_s (jsub_s (jsub_n (jsub_n (jsub_nil _)))))))) ?_
                                                                        exact wbL_law_1716 hst fuel _ hq23 (Nat.le_of_add_right_le hk0) (Nat.le_of_add_right_le hn0) ha0 hf
                                                                      · refine J_icmp_eq (tgt := 1716) dL_law_1609 (by decide) (fun w => absurd w c357) (fun _ => ?_)
                                                                        refine J_iconst (v := 0) dL_law_1612 (by decide) ?_
                                                                        cases hf
                                                                    · skip
                                                                      rcases br hf with ⟨c358, hf⟩ | ⟨c358, hf⟩
                                                                      · refine J_tableC (off := 1575) (tgt := 1614) c358 dL_law_39 (by decide) (by decide) (by decide) (by decide) ?_
                                                                        refine J_aload_n dL_law_1614 rfl rfl ?_
                                                                        refine J_aload_n dL_law_1615 rfl rfl ?_
                                                                        obtain ⟨vo359, zo359, ho359h, ho359, hf⟩ := rfs3 hf
                                                                        refine CSW2i dL_law_1616 (mL_run hst ho359) tk_886 iL_run ⟨Nat.le_of_ble_eq_true rfl, Nat.le_of_ble_eq_true rfl⟩ ⟨(by show k + 16 ≤ 601024; omega), (by show n + 292 ≤ 7293034; omega)⟩ (Nat.le_of_ble_eq_true rfl) ?_
                                                                        refine J.kn (k' := k + 16) (n' := n + 292) rfl rfl ?_
                                                                        refine S_istore_5 dL_law_1619 rfl (Nat.le_of_ble_eq_true rfl) ?_
                                                                        refine J_aload_n dL_law_1621 rfl rfl ?_
                                                                        obtain ⟨k360, hf⟩ := gds hf
                                                                        obtain ⟨vo361, zo361, ho361h, ho361, hf⟩ := rfs3 hf
                                                                        refine CV0i dL_law_1622 (mX9_run hst ho361) tk_1333 iX9_run k360 (by decide) rfl ⟨Nat.le_of_ble_eq_true rfl, Nat.le_of_ble_eq_true rfl⟩ ⟨(by show k + 16 + 0 ≤ 601024; omega), (by show n + 292 + 0 ≤ 7293034; omega)⟩ (Nat.le_of_ble_eq_true rfl) ?_
                                                                        refine J.kn (k' := k + 16) (n' := n + 292) (Nat.add_zero _) (Nat.add_zero _) ?_
                                                                        refine S_istore_6 dL_law_1625 rfl (Nat.le_of_ble_eq_true rfl) ?_
                                                                        refine J_aload_n dL_law_1627 rfl rfl ?_
                                                                        obtain ⟨k362, hf⟩ := gds hf
                                                                        obtain ⟨vo363, zo363, ho363h, ho363, hf⟩ := rfs3 hf
                                                                        refine CV0i dL_law_1628 (mX9_thrown hst ho363) tk_980 iX9_thrown k362 (by decide) rfl ⟨Nat.le_of_ble_eq_true rfl, Nat.le_of_ble_eq_true rfl⟩ ⟨(by show k + 16 + 0 ≤ 601024; omega), (by show n + 292 + 0 ≤ 7293034; omega)⟩ (Nat.le_of_ble_eq_true rfl) ?_
                                                                        refine J.kn (k' := k + 16) (n' := n + 292) (Nat.add_zero _) (Nat.add_zero _) ?_
                                                                        refine J_iload dL_law_1631 rfl ?_
                                                                        rcases br hf with ⟨c364, hf⟩ | ⟨c364, hf⟩
                                                                        · refine J_icmp_eq (tgt := 1638) dL_law_1633 (by decide) (fun _ => ?_) (fun w => absurd c364 w)
                                                                          refine J_iload dL_law_1638 rfl ?_
                                                                          rcases br hf with ⟨c365, hf⟩ | ⟨c365, hf⟩
                                                                          · refine J_if_ne (tgt := 1655) dL_law_1640 (by decide) (fun w => absurd c365 w) (fun _ => ?_)
                                                                            refine J_aload_n dL_law_1643 rfl rfl ?_
                                                                            refine J_iconst (v := 0) dL_law_1644 (by decide) ?_
                                                                            obtain ⟨k366, hf⟩ := gds hf
                                                                            obtain ⟨n367, hf⟩ := gds hf
                                                                            refine J_laload dL_law_1645 k366 n367 ?_
                                                                            refine J_iload dL_law_1646 rfl ?_
                                                                            refine J_i2l dL_law_1648 ?_
                                                                            refine J_lcmp dL_law_1649 ?_
                                                                            rcases br hf with ⟨c368, hf⟩ | ⟨c368, hf⟩
                                                                            · refine J_if_eq (tgt := 1655) dL_law_1650 (by decide) (fun _ => ?_) (fun w => absurd c368 w)
                                                                              refine J.sub (jsub_s (jsub_s (jsub_s (jsub_s (jsub_s (jsub_n (jsub_n (jsub_nil _)))))))) ?_
                                                                              exact wbL_law_1655 hst fuel _ hq23 (by show k + 16 + fuel * 16 ≤ 601024; omega) (by show n + 292 + fuel * 4608 ≤ 7293034; omega) ha0 hf
                                                                            · refine J_if_eq (tgt := 1655) dL_law_1650 (by decide) (fun w => absurd w c368) (fun _ => ?_)
                                                                              refine J_iconst (v := 0) dL_law_1653 (by decide) ?_
                                                                              cases hf
                                                                          · refine J_if_ne (tgt := 1655) dL_law_1640 (by decide) (fun _ => ?_) (fun w => absurd w c365)
                                                                            refine J.sub (jsub_s (jsub_s (jsub_s (jsub_s (jsub_s (jsub_n (jsub_n (jsub_nil _)))))))) ?_
                                                                            exact wbL_law_1655 hst fuel _ hq23 (by show k + 16 + fuel * 16 ≤ 601024; omega) (by show n + 292 + fuel * 4608 ≤ 7293034; omega) ha0 hf
                                                                        · refine J_icmp_eq (tgt := 1638) dL_law_1633 (by decide) (fun w => absurd w c364) (fun _ => ?_)
                                                                          refine J_iconst (v := 0) dL_law_1636 (by decide) ?_
                                                                          cases hf
                                                                      · skip
                                                                        rcases br hf with ⟨c369, hf⟩ | ⟨c369, hf⟩
                                                                        · refine J_tableC (off := 1619) (tgt := 1658) c369 dL_law_39 (by decide) (by decide) (by decide) (by decide) ?_
                                                                          refine J_aload_n dL_law_1658 rfl rfl ?_
                                                                          refine J_aload_n dL_law_1659 rfl rfl ?_
                                                                          obtain ⟨vo370, zo370, ho370h, ho370, hf⟩ := rfs3 hf
                                                                          refine CSW2i dL_law_1660 (mL_undo hst ho370) tk_902 iL_undo ⟨Nat.le_of_ble_eq_true rfl, Nat.le_of_ble_eq_true rfl⟩ ⟨(by show k + 1 ≤ 601024; omega), (by show n + 6 ≤ 7293034; omega)⟩ (Nat.le_of_ble_eq_true rfl) ?_
                                                                          refine J.kn (k' := k + 1) (n' := n + 6) rfl rfl ?_
                                                                          refine S_istore_5 dL_law_1663 rfl (Nat.le_of_ble_eq_true rfl) ?_
                                                                          refine J_aload_n dL_law_1665 rfl rfl ?_
                                                                          obtain ⟨k371, hf⟩ := gds hf
                                                                          obtain ⟨vo372, zo372, ho372h, ho372, hf⟩ := rfs3 hf
                                                                          refine CV0i dL_law_1666 (mX9_undo hst ho372) tk_984 iX9_undo k371 (by decide) rfl ⟨Nat.le_of_ble_eq_true rfl, Nat.le_of_ble_eq_true rfl⟩ ⟨(by show k + 1 + 0 ≤ 601024; omega), (by show n + 6 + 0 ≤ 7293034; omega)⟩ (Nat.le_of_ble_eq_true rfl) ?_
                                                                          refine J.kn (k' := k + 1) (n' := n + 6) (Nat.add_zero _) (Nat.add_zero _) ?_
                                                                          refine S_istore_6 dL_law_1669 rfl (Nat.le_of_ble_eq_true rfl) ?_
                                                                          refine J_aload_n dL_law_1671 rfl rfl ?_
                                                                          obtain ⟨k373, hf⟩ := gds hf
                                                                          obtain ⟨vo374, zo374, ho374h, ho374, hf⟩ := rfs3 hf
                                                                          refine CV0i dL_law_1672 (mX9_thrown hst ho374) tk_980 iX9_thrown k373 (by decide) rfl ⟨Nat.le_of_ble_eq_true rfl, Nat.le_of_ble_eq_true rfl⟩ ⟨(by show k + 1 + 0 ≤ 601024; omega), (by show n + 6 + 0 ≤ 7293034; omega)⟩ (Nat.le_of_ble_eq_true rfl) ?_
                                                                          refine J.kn (k' := k + 1) (n' := n + 6) (Nat.add_zero _) (Nat.add_zero _) ?_
                                                                          refine J_iload dL_law_1675 rfl ?_
                                                                          rcases br hf with ⟨c375, hf⟩ | ⟨c375, hf⟩
                                                                          · refine J_icmp_eq (tgt := 1682) dL_law_1677 (by decide) (fun _ => ?_) (fun w => absurd c375 w)
                                                                            refine J_iload dL_law_1682 rfl ?_
                                                                            rcases br hf with ⟨c376, hf⟩ | ⟨c376, hf⟩
                                                                            · refine J_if_ne (tgt := 1699) dL_law_1684 (by decide) (fun w => absurd c376 w) (fun _ => ?_)
                                                                              refine J_aload_n dL_law_1687 rfl rfl ?_
                                                                              refine J_iconst (v := 0) dL_law_1688 (by decide) ?_
                                                                              obtain ⟨k377, hf⟩ := gds hf
                                                                              obtain ⟨n378, hf⟩ := gds hf
                                                                              refine J_laload dL_law_1689 k377 n378 ?_
                                                                              refine J_iload dL_law_1690 rfl ?_
                                                                              refine J_i2l dL_law_1692 ?_
                                                                              refine J_lcmp dL_law_1693 ?_
                                                                              rcases br hf with ⟨c379, hf⟩ | ⟨c379, hf⟩
                                                                              · refine J_if_eq (tgt := 1699) dL_law_1694 (by decide) (fun _ => ?_) (fun w => absurd c379 w)
                                                                                refine J.sub (jsub_s (jsub_s (jsub_s (jsub_s (jsub_s (jsub_n (jsub_n (jsub_nil _)))))))) ?_
                                                                                exact wbL_law_1699 hst fuel _ hq23 (by show k + 1 + fuel * 16 ≤ 601024; omega) (by show n + 6 + fuel * 4608 ≤ 7293034; omega) ha0 hf
                                                                              · refine J_if_eq (tgt := 1699) dL_law_1694 (by decide) (fun w => absurd w c379) (fun _ => ?_)
                                                                                refine J_iconst (v := 0) dL_law_1697 (by decide) ?_
                                                                                cases hf
                                                                            · refine J_if_ne (tgt := 1699) dL_law_1684 (by decide) (fun _ => ?_) (fun w => absurd w c376)
                                                                              refine J.sub (jsub_s (jsub_s (jsub_s (jsub_s (jsub_s (jsub_n (jsub_n (jsub_nil _)))))))) ?_
                                                                              exact wbL_law_1699 hst fuel _ hq23 (by show k + 1 + fuel * 16 ≤ 601024; omega) (by show n + 6 + fuel * 4608 ≤ 7293034; omega) ha0 hf
                                                                          · refine J_icmp_eq (tgt := 1682) dL_law_1677 (by decide) (fun w => absurd w c375) (fun _ => ?_)
                                                                            refine J_iconst (v := 0) dL_law_1680 (by decide) ?_
                                                                            cases hf
                                                                        · skip
                                                                          rcases br hf with ⟨c380, hf⟩ | ⟨c380, hf⟩
                                                                          · refine J_tableC (off := 1663) (tgt := 1702) c380 dL_law_39 (by decide) (by decide) (by decide) (by decide) ?_
                                                                            refine J_aload_n dL_law_1702 rfl rfl ?_
                                                                            obtain ⟨k381, hf⟩ := gds hf
                                                                            obtain ⟨vo382, zo382, ho382h, ho382, hf⟩ := rfs3 hf
                                                                            rcases xrs hf with ⟨v383, ev383, hf⟩ | ⟨x384, ev383, hf⟩
                                                                            · refine XV0l dL_law_1703 (by have h9 := mX8_checksumR hst ho382 ⟨_, ev383⟩; rw [ev383] at h9; exact h9) tk_420 iX8_checksum k381 (by decide) rfl ⟨Nat.le_of_ble_eq_true rfl, Nat.le_of_ble_eq_true rfl⟩ ⟨(by show k + 0 ≤ 601024; omega), (by show n + 0 ≤ 7293034; omega)⟩ (Nat.le_of_ble_eq_true rfl) ?_
                                                                              refine J.kn (k' := k) (n' := n) (Nat.add_zero _) (Nat.add_zero _) ?_
                                                                              refine J_aload_n dL_law_1706 rfl rfl ?_
                                                                              obtain ⟨k385, hf⟩ := gds hf
                                                                              obtain ⟨vo386, zo386, ho386h, ho386, hf⟩ := rfs3 hf
                                                                              refine CV0l dL_law_1707 (mX9_checksum hst ho386) tk_1341 iX9_checksum k385 (by decide) rfl ⟨Nat.le_of_ble_eq_true rfl, Nat.le_of_ble_eq_true rfl⟩ ⟨(by show k + 0 ≤ 601024; omega), (by show n + 0 ≤ 7293034; omega)⟩ (Nat.le_of_ble_eq_true rfl) ?_
                                                                              refine J.kn (k' := k) (n' := n) (Nat.add_zero _) (Nat.add_zero _) ?_
                                                                              refine J_lcmp dL_law_1710 ?_
                                                                              rcases br hf with ⟨c387, hf⟩ | ⟨c387, hf⟩
                                                                              · refine J_if_eq (tgt := 1716) dL_law_1711 (by decide) (fun _ => ?_) (fun w => absurd c387 w)
                                                                                refine J.sub (jsub_s (jsub_s (jsub_s (jsub_s (jsub_s (jsub_n (jsub_n (jsub_nil _)))))))) ?_
                                                                                exact wbL_law_1716 hst fuel _ hq23 (Nat.le_of_add_right_le hk0) (Nat.le_of_add_right_le hn0) ha0 hf
                                                                              · refine J_if_eq (tgt := 1716) dL_law_1711 (by decide) (fun w => absurd w c387) (fun _ => ?_)
                                                                                refine J_iconst (v := 0) dL_law_1714 (by decide) ?_
                                                                                cases hf
                                                                            · cases hf
                                                                          · skip
                                                                            have tc3 := tn (i := 0) c3 (by decide)
                                                                            have tc16 := tn (i := 1) c16 (by decide)
                                                                            have tc22 := tn (i := 2) c22 (by decide)
                                                                            have tc37 := tn (i := 3) c37 (by decide)
                                                                            have tc52 := tn (i := 4) c52 (by decide)
                                                                            have tc65 := tn (i := 5) c65 (by decide)
                                                                            have tc80 := tn (i := 6) c80 (by decide)
                                                                            have tc95 := tn (i := 7) c95 (by decide)
                                                                            have tc108 := tn (i := 8) c108 (by decide)
                                                                            have tc121 := tn (i := 9) c121 (by decide)
                                                                            have tc134 := tn (i := 10) c134 (by decide)
                                                                            have tc140 := tn (i := 11) c140 (by decide)
                                                                            have tc155 := tn (i := 12) c155 (by decide)
                                                                            have tc163 := tn (i := 13) c163 (by decide)
                                                                            have tc178 := tn (i := 14) c178 (by decide)
                                                                            have tc191 := tn (i := 15) c191 (by decide)
                                                                            have tc204 := tn (i := 16) c204 (by decide)
                                                                            have tc217 := tn (i := 17) c217 (by decide)
                                                                            have tc230 := tn (i := 18) c230 (by decide)
                                                                            have tc243 := tn (i := 19) c243 (by decide)
                                                                            have tc249 := tn (i := 20) c249 (by decide)
                                                                            have tc264 := tn (i := 21) c264 (by decide)
                                                                            have tc277 := tn (i := 22) c277 (by decide)
                                                                            have tc283 := tn (i := 23) c283 (by decide)
                                                                            have tc289 := tn (i := 24) c289 (by decide)
                                                                            have tc302 := tn (i := 25) c302 (by decide)
                                                                            have tc308 := tn (i := 26) c308 (by decide)
                                                                            have tc321 := tn (i := 27) c321 (by decide)
                                                                            have tc327 := tn (i := 28) c327 (by decide)
                                                                            have tc333 := tn (i := 29) c333 (by decide)
                                                                            have tc346 := tn (i := 30) c346 (by decide)
                                                                            have tc352 := tn (i := 31) c352 (by decide)
                                                                            have tc358 := tn (i := 32) c358 (by decide)
                                                                            have tc369 := tn (i := 33) c369 (by decide)
                                                                            have tc380 := tn (i := 34) c380 (by decide)
                                                                            refine J_tableOut (tgt := 1716) dL_law_39 (by omega) (by decide) ?_
                                                                            refine J.sub (jsub_s (jsub_s (jsub_s (jsub_s (jsub_s (jsub_n (jsub_n (jsub_nil _)))))))) ?_
                                                                            exact wbL_law_1716 hst fuel _ hq23 (Nat.le_of_add_right_le hk0) (Nat.le_of_add_right_le hn0) ha0 hf
theorem wfL_law {g : JG} {nm : String} (hst : (jl g).stackTraces = false)  {a0 : Nat}  {z : Nat} {h : AH} (ha0 : a0 = jsb g) (hf : fL_law (jsx g) (jsl g)  a0 z h = some ()) : J g (ML_law nm) (jLw g) 0 [some (.ref a0), none, none, none, none, none, none] [] z h 0 0 := by
  unfold fL_law at hf
  refine J_new (ci := 8) dL_law_0 (by decide) rfl inG8 tyX8 tyX8_ok tk_19 tk_20 tk_1 (by decide) (Nat.le_of_ble_eq_true rfl) (Nat.le_of_ble_eq_true rfl) ?_
  obtain ⟨h1, eh1, hf⟩ := bls hf
  refine J_h eh1 ?_
  have k2 : kd h1 z = 9 := by rw [eh1]; exact wNew_kd _ _ _ _
  refine J_dup dL_law_3 rfl ?_
  obtain ⟨zo3, ho3h, ho3, hf⟩ := rfs2 hf
  refine CI0v (host := "") dL_law_4 (mX8_init hst ho3) tk_21 iX8_init ⟨Nat.le_of_ble_eq_true rfl, Nat.le_of_ble_eq_true rfl⟩ ⟨Nat.le_of_ble_eq_true rfl, Nat.le_of_ble_eq_true rfl⟩ (Nat.le_of_ble_eq_true rfl) ?_
  refine S_astore_n_1 dL_law_7 rfl (Nat.le_of_ble_eq_true rfl) ?_
  refine J_new (ci := 9) dL_law_8 (by decide) rfl inG9 tyX9 tyX9_ok tk_913 tk_914 tk_10 (by decide) (Nat.le_of_ble_eq_true rfl) (Nat.le_of_ble_eq_true rfl) ?_
  obtain ⟨h4, eh4, hf⟩ := bls hf
  refine J_h eh4 ?_
  have k5 : kd h4 zo3 = 10 := by rw [eh4]; exact wNew_kd _ _ _ _
  refine J_dup dL_law_11 rfl ?_
  obtain ⟨zo6, ho6h, ho6, hf⟩ := rfs2 hf
  refine CI0v (host := "") dL_law_12 (mX9_init hst ho6) tk_915 iX9_init ⟨Nat.le_of_ble_eq_true rfl, Nat.le_of_ble_eq_true rfl⟩ ⟨Nat.le_of_ble_eq_true rfl, Nat.le_of_ble_eq_true rfl⟩ (Nat.le_of_ble_eq_true rfl) ?_
  refine S_astore_n_2 dL_law_15 rfl (Nat.le_of_ble_eq_true rfl) ?_
  refine J_iconst (v := 1) dL_law_16 (by decide) ?_
  refine J_newarr (ty := .long) (N := 1) (t := 3) (kk0 := 14) dL_law_17 rfl tk_90 (by decide) (by decide) (by decide) (fun _ => rfl) (fun _ _ hh => hh) (fun ca => ⟨_, rfl, rfl⟩) (Nat.le_of_ble_eq_true rfl) (Nat.le_of_ble_eq_true rfl) ?_
  obtain ⟨h7, eh7, hf⟩ := bls hf
  refine J_h eh7 ?_
  have k8 : kd h7 zo6 = 14 := by rw [eh7]; exact wNew_kd _ _ _ _
  refine S_astore_n_3 dL_law_19 rfl (Nat.le_of_ble_eq_true rfl) ?_
  refine J_iconst (v := 0) dL_law_20 (by decide) ?_
  refine S_istore_4 dL_law_21 rfl (Nat.le_of_ble_eq_true rfl) ?_
  refine J.sub (jsub_s (jsub_s (jsub_s (jsub_s (jsub_s (jsub_n (jsub_n (jsub_nil _)))))))) ?_
  exact wlL_law_23 hst 513 _ _ _ _ _ _ _ _ _ ha0 (by decide) (by decide) hf
