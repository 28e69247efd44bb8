/-! decompiled methods and their walks (printed by gen/gen.py) -/
def fJ6_bitCount_0f7a4  (x0 : Int32) (z : Nat) (h : AH) : Option (Int32 × Nat × AH) :=
  bl ((x0 - (((Int32.toUInt32 x0 >>> (Int32.toUInt32 1 &&& Int32.toUInt32 31)).toInt32) &&& 1431655765))) (fun v1 => bl (((v1 &&& 858993459) + (((Int32.toUInt32 v1 >>> (Int32.toUInt32 2 &&& Int32.toUInt32 31)).toInt32) &&& 858993459))) (fun v2 => bl (((v2 + ((Int32.toUInt32 v2 >>> (Int32.toUInt32 4 &&& Int32.toUInt32 31)).toInt32)) &&& 252645135)) (fun v3 => bl ((v3 + ((Int32.toUInt32 v3 >>> (Int32.toUInt32 8 &&& Int32.toUInt32 31)).toInt32))) (fun v4 => bl ((v4 + ((Int32.toUInt32 v4 >>> (Int32.toUInt32 16 &&& Int32.toUInt32 31)).toInt32))) (fun v5 => some ((v5 &&& 63), z, h))))))
theorem wfJ6_bitCount_0f7a4 {g : JG} (hst : (jl g).stackTraces = false)   {x0 : Int32} {z : Nat} {h : AH} {o : Int32 × Nat × AH} (hf : fJ6_bitCount_0f7a4  x0 z h = some o) : J g MJ6_bitCount_0f7a4 (jN g (some (.int o.1), o.2.1, o.2.2) rmJ6_bitCount_0f7a4.cells rmJ6_bitCount_0f7a4.slots) 0 [some (.int x0)] [] z h 0 0 := by
  unfold fJ6_bitCount_0f7a4 at hf
  refine J_iload_n dJ6_bitCount_0f7a4_0 rfl rfl ?_
  refine J_iload_n dJ6_bitCount_0f7a4_1 rfl rfl ?_
  refine J_iconst (v := 1) dJ6_bitCount_0f7a4_2 (by decide) ?_
  refine J_iushr dJ6_bitCount_0f7a4_3 ?_
  refine J_ldcw (v := 1431655765) dJ6_bitCount_0f7a4_4 tk_350 ?_
  refine J_iand dJ6_bitCount_0f7a4_7 ?_
  refine J_isub dJ6_bitCount_0f7a4_8 ?_
  obtain ⟨v1, ev1, hf⟩ := bls hf
  refine J_i ev1 ?_
  refine S_istore_n_0 dJ6_bitCount_0f7a4_9 (by decide) ?_
  refine J_iload_n dJ6_bitCount_0f7a4_10 rfl rfl ?_
  refine J_ldcw (v := 858993459) dJ6_bitCount_0f7a4_11 tk_351 ?_
  refine J_iand dJ6_bitCount_0f7a4_14 ?_
  refine J_iload_n dJ6_bitCount_0f7a4_15 rfl rfl ?_
  refine J_iconst (v := 2) dJ6_bitCount_0f7a4_16 (by decide) ?_
  refine J_iushr dJ6_bitCount_0f7a4_17 ?_
  refine J_ldcw (v := 858993459) dJ6_bitCount_0f7a4_18 tk_351 ?_
  refine J_iand dJ6_bitCount_0f7a4_21 ?_
  refine J_iadd dJ6_bitCount_0f7a4_22 ?_
  obtain ⟨v2, ev2, hf⟩ := bls hf
  refine J_i ev2 ?_
  refine S_istore_n_0 dJ6_bitCount_0f7a4_23 (by decide) ?_
  refine J_iload_n dJ6_bitCount_0f7a4_24 rfl rfl ?_
  refine J_iload_n dJ6_bitCount_0f7a4_25 rfl rfl ?_
  refine J_iconst (v := 4) dJ6_bitCount_0f7a4_26 (by decide) ?_
  refine J_iushr dJ6_bitCount_0f7a4_27 ?_
  refine J_iadd dJ6_bitCount_0f7a4_28 ?_
  refine J_ldcw (v := 252645135) dJ6_bitCount_0f7a4_29 tk_352 ?_
  refine J_iand dJ6_bitCount_0f7a4_32 ?_
  obtain ⟨v3, ev3, hf⟩ := bls hf
  refine J_i ev3 ?_
  refine S_istore_n_0 dJ6_bitCount_0f7a4_33 (by decide) ?_
  refine J_iload_n dJ6_bitCount_0f7a4_34 rfl rfl ?_
  refine J_iload_n dJ6_bitCount_0f7a4_35 rfl rfl ?_
  refine J_bipush (v := 8) dJ6_bitCount_0f7a4_36 (by decide) ?_
  refine J_iushr dJ6_bitCount_0f7a4_38 ?_
  refine J_iadd dJ6_bitCount_0f7a4_39 ?_
  obtain ⟨v4, ev4, hf⟩ := bls hf
  refine J_i ev4 ?_
  refine S_istore_n_0 dJ6_bitCount_0f7a4_40 (by decide) ?_
  refine J_iload_n dJ6_bitCount_0f7a4_41 rfl rfl ?_
  refine J_iload_n dJ6_bitCount_0f7a4_42 rfl rfl ?_
  refine J_bipush (v := 16) dJ6_bitCount_0f7a4_43 (by decide) ?_
  refine J_iushr dJ6_bitCount_0f7a4_45 ?_
  refine J_iadd dJ6_bitCount_0f7a4_46 ?_
  obtain ⟨v5, ev5, hf⟩ := bls hf
  refine J_i ev5 ?_
  refine S_istore_n_0 dJ6_bitCount_0f7a4_47 (by decide) ?_
  refine J_iload_n dJ6_bitCount_0f7a4_48 rfl rfl ?_
  refine J_bipush (v := 63) dJ6_bitCount_0f7a4_49 (by decide) ?_
  refine J_iand dJ6_bitCount_0f7a4_51 ?_
  cases hf
  exact J_iretN dJ6_bitCount_0f7a4_52 rfl (by decide) (by decide)
theorem mJ6_bitCount_0f7a4 {g : JG} (hst : (jl g).stackTraces = false) {x0 : Int32} {z : Nat} {h : AH} {o : Int32 × Nat × AH} (hf : fJ6_bitCount_0f7a4 x0 z h = some o) : jMet g yJ6_bitCount_0f7a4 (wj yJ6_bitCount_0f7a4 cJ6_bitCount_0f7a4 1 (some .int)) rmJ6_bitCount_0f7a4 [.int x0] z h (some (.int o.1), o.2.1, o.2.2) :=
  jMet_mk (by decide) (Nat.le_of_ble_eq_true rfl) [some (.int x0)] rfl (wfJ6_bitCount_0f7a4 hst hf)
def fX8_needThing  (x0 : Int32) (z : Nat) (h : AH) : Option ((Unit ⊕ String) × Nat × AH) :=
  (if x0 = 0 then (some (.inr eB, z + 1, h)) else (some (.inl (), z, h)))
theorem wfX8_needThingR {g : JG} (hst : (jl g).stackTraces = false)   {x0 : Int32} {z : Nat} {h : AH} {o : (Unit ⊕ String) × Nat × AH} (hf : fX8_needThing  x0 z h = some o) (hv : (∃ v, o.1 = .inl v)) : J g MX8_needThingR (jV g (xoV o.1, o.2.1, o.2.2) rmX8_needThingR.cells rmX8_needThingR.slots) 0 [some (.int x0)] [] z h 0 0 := by
  unfold fX8_needThing at hf
  refine J_iload_n dX8_needThing_0 rfl rfl ?_
  rcases br hf with ⟨c1, hf⟩ | ⟨c1, hf⟩
  · refine J_if_ne (tgt := 15) dX8_needThing_1 (by decide) (fun w => absurd c1 w) (fun _ => ?_)
    cases hf
    obtain ⟨_, hv⟩ := hv; cases hv
  · refine J_if_ne (tgt := 15) dX8_needThing_1 (by decide) (fun _ => ?_) (fun w => absurd w c1)
    cases hf
    exact jN_V (J_vretN dX8_needThing_15 rfl (by decide) (by decide))
theorem mX8_needThingR {g : JG} (hst : (jl g).stackTraces = false) {x0 : Int32} {z : Nat} {h : AH} {o : (Unit ⊕ String) × Nat × AH} (hf : fX8_needThing x0 z h = some o) (hv : (∃ v, o.1 = .inl v)) : jMetX g yX8_needThing (wj yX8_needThing cX8_needThing 1 none) rmX8_needThingR [.int x0] z h (xoV o.1, o.2.1, o.2.2) :=
  jMetX_mk (by decide) (Nat.le_of_ble_eq_true rfl) [some (.int x0)] rfl (wfX8_needThingR hst hf hv)
theorem wfX8_needThingT {g : JG} (hst : (jl g).stackTraces = false)   {x0 : Int32} {z : Nat} {h : AH} {o : (Unit ⊕ String) × Nat × AH} (hf : fX8_needThing  x0 z h = some o) (hv : (∃ v, o.1 = .inr v)) : J g MX8_needThingT (jV g (xoV o.1, o.2.1, o.2.2) rmX8_needThingT.cells rmX8_needThingT.slots) 0 [some (.int x0)] [] z h 0 0 := by
  unfold fX8_needThing at hf
  refine J_iload_n dX8_needThing_0 rfl rfl ?_
  rcases br hf with ⟨c1, hf⟩ | ⟨c1, hf⟩
  · refine J_if_ne (tgt := 15) dX8_needThing_1 (by decide) (fun w => absurd c1 w) (fun _ => ?_)
    cases hf
    exact J_throw (names := ["java/lang/RuntimeException", "java/lang/Exception"]) hst (by decide) (by decide) rfl tk_437 tk_14 tl_478 (by decide +kernel) (by decide +kernel) dX8_needThing_4 dX8_needThing_7 dX8_needThing_8 dX8_needThing_11 dX8_needThing_14 rfl (by decide) (by decide) (by decide) (by decide) (by decide) (by decide)
  · refine J_if_ne (tgt := 15) dX8_needThing_1 (by decide) (fun _ => ?_) (fun w => absurd w c1)
    cases hf
    obtain ⟨_, hv⟩ := hv; cases hv
theorem mX8_needThingT {g : JG} (hst : (jl g).stackTraces = false) {x0 : Int32} {z : Nat} {h : AH} {o : (Unit ⊕ String) × Nat × AH} (hf : fX8_needThing x0 z h = some o) (hv : (∃ v, o.1 = .inr v)) : jMetX g yX8_needThing (wj yX8_needThing cX8_needThing 1 none) rmX8_needThingT [.int x0] z h (xoV o.1, o.2.1, o.2.2) :=
  jMetX_mk (by decide) (Nat.le_of_ble_eq_true rfl) [some (.int x0)] rfl (wfX8_needThingT hst hf hv)
def fX8_needState  (x0 : Int32) (z : Nat) (h : AH) : Option ((Unit ⊕ String) × Nat × AH) :=
  (if x0 = 0 then (some (.inr eS, z + 1, h)) else (some (.inl (), z, h)))
theorem wfX8_needStateR {g : JG} (hst : (jl g).stackTraces = false)   {x0 : Int32} {z : Nat} {h : AH} {o : (Unit ⊕ String) × Nat × AH} (hf : fX8_needState  x0 z h = some o) (hv : (∃ v, o.1 = .inl v)) : J g MX8_needStateR (jV g (xoV o.1, o.2.1, o.2.2) rmX8_needStateR.cells rmX8_needStateR.slots) 0 [some (.int x0)] [] z h 0 0 := by
  unfold fX8_needState at hf
  refine J_iload_n dX8_needState_0 rfl rfl ?_
  rcases br hf with ⟨c1, hf⟩ | ⟨c1, hf⟩
  · refine J_if_ne (tgt := 15) dX8_needState_1 (by decide) (fun w => absurd c1 w) (fun _ => ?_)
    cases hf
    obtain ⟨_, hv⟩ := hv; cases hv
  · refine J_if_ne (tgt := 15) dX8_needState_1 (by decide) (fun _ => ?_) (fun w => absurd w c1)
    cases hf
    exact jN_V (J_vretN dX8_needState_15 rfl (by decide) (by decide))
theorem mX8_needStateR {g : JG} (hst : (jl g).stackTraces = false) {x0 : Int32} {z : Nat} {h : AH} {o : (Unit ⊕ String) × Nat × AH} (hf : fX8_needState x0 z h = some o) (hv : (∃ v, o.1 = .inl v)) : jMetX g yX8_needState (wj yX8_needState cX8_needState 1 none) rmX8_needStateR [.int x0] z h (xoV o.1, o.2.1, o.2.2) :=
  jMetX_mk (by decide) (Nat.le_of_ble_eq_true rfl) [some (.int x0)] rfl (wfX8_needStateR hst hf hv)
theorem wfX8_needStateT {g : JG} (hst : (jl g).stackTraces = false)   {x0 : Int32} {z : Nat} {h : AH} {o : (Unit ⊕ String) × Nat × AH} (hf : fX8_needState  x0 z h = some o) (hv : (∃ v, o.1 = .inr v)) : J g MX8_needStateT (jV g (xoV o.1, o.2.1, o.2.2) rmX8_needStateT.cells rmX8_needStateT.slots) 0 [some (.int x0)] [] z h 0 0 := by
  unfold fX8_needState at hf
  refine J_iload_n dX8_needState_0 rfl rfl ?_
  rcases br hf with ⟨c1, hf⟩ | ⟨c1, hf⟩
  · refine J_if_ne (tgt := 15) dX8_needState_1 (by decide) (fun w => absurd c1 w) (fun _ => ?_)
    cases hf
    exact J_throw (names := ["java/lang/RuntimeException", "java/lang/Exception"]) hst (by decide) (by decide) rfl tk_556 tk_15 tl_565 (by decide +kernel) (by decide +kernel) dX8_needState_4 dX8_needState_7 dX8_needState_8 dX8_needState_11 dX8_needState_14 rfl (by decide) (by decide) (by decide) (by decide) (by decide) (by decide)
  · refine J_if_ne (tgt := 15) dX8_needState_1 (by decide) (fun _ => ?_) (fun w => absurd w c1)
    cases hf
    obtain ⟨_, hv⟩ := hv; cases hv
theorem mX8_needStateT {g : JG} (hst : (jl g).stackTraces = false) {x0 : Int32} {z : Nat} {h : AH} {o : (Unit ⊕ String) × Nat × AH} (hf : fX8_needState x0 z h = some o) (hv : (∃ v, o.1 = .inr v)) : jMetX g yX8_needState (wj yX8_needState cX8_needState 1 none) rmX8_needStateT [.int x0] z h (xoV o.1, o.2.1, o.2.2) :=
  jMetX_mk (by decide) (Nat.le_of_ble_eq_true rfl) [some (.int x0)] rfl (wfX8_needStateT hst hf hv)
def fX8_inSet  (x0 : Int32) (x1 : Int32) (z : Nat) (h : AH) : Option (Int32 × Nat × AH) :=
  (if ((x0 >>> (x1 &&& 31)) &&& 1) = 0 then (some (0, z, h)) else (some (1, z, h)))
theorem wfX8_inSet {g : JG} (hst : (jl g).stackTraces = false)   {x0 : Int32} {x1 : Int32} {z : Nat} {h : AH} {o : Int32 × Nat × AH} (hf : fX8_inSet  x0 x1 z h = some o) : J g MX8_inSet (jN g (some (.int o.1), o.2.1, o.2.2) rmX8_inSet.cells rmX8_inSet.slots) 0 [some (.int x0), some (.int x1)] [] z h 0 0 := by
  unfold fX8_inSet at hf
  refine J_iload_n dX8_inSet_0 rfl rfl ?_
  refine J_iload_n dX8_inSet_1 rfl rfl ?_
  refine J_ishr dX8_inSet_2 ?_
  refine J_iconst (v := 1) dX8_inSet_3 (by decide) ?_
  refine J_iand dX8_inSet_4 ?_
  rcases br hf with ⟨c1, hf⟩ | ⟨c1, hf⟩
  · refine J_if_eq (tgt := 12) dX8_inSet_5 (by decide) (fun _ => ?_) (fun w => absurd c1 w)
    refine J_iconst (v := 0) dX8_inSet_12 (by decide) ?_
    cases hf
    exact J_zretN dX8_inSet_13 rfl (Or.inl rfl) (by decide) (by decide)
  · refine J_if_eq (tgt := 12) dX8_inSet_5 (by decide) (fun w => absurd w c1) (fun _ => ?_)
    refine J_iconst (v := 1) dX8_inSet_8 (by decide) ?_
    refine J_goto (tgt := 13) dX8_inSet_9 (by decide) ?_
    cases hf
    exact J_zretN dX8_inSet_13 rfl (Or.inr rfl) (by decide) (by decide)
theorem mX8_inSet {g : JG} (hst : (jl g).stackTraces = false) {x0 : Int32} {x1 : Int32} {z : Nat} {h : AH} {o : Int32 × Nat × AH} (hf : fX8_inSet x0 x1 z h = some o) : jMet g yX8_inSet (wj yX8_inSet cX8_inSet 2 (some .boolean)) rmX8_inSet [.int x0, .int x1] z h (some (.int o.1), o.2.1, o.2.2) :=
  jMet_mk (by decide) (Nat.le_of_ble_eq_true rfl) [some (.int x0), some (.int x1)] rfl (wfX8_inSet hst hf)
def fX8_isWithin  (x0 : Int32) (x1 : Int32) (x2 : Int32) (z : Nat) (h : AH) : Option (Int32 × Nat × AH) :=
  (if x0 < x1 then (some (0, z, h)) else ((if x2 < x0 then (some (0, z, h)) else (some (1, z, h)))))
theorem wfX8_isWithin {g : JG} (hst : (jl g).stackTraces = false)   {x0 : Int32} {x1 : Int32} {x2 : Int32} {z : Nat} {h : AH} {o : Int32 × Nat × AH} (hf : fX8_isWithin  x0 x1 x2 z h = some o) : J g MX8_isWithin (jN g (some (.int o.1), o.2.1, o.2.2) rmX8_isWithin.cells rmX8_isWithin.slots) 0 [some (.int x0), some (.int x1), some (.int x2)] [] z h 0 0 := by
  unfold fX8_isWithin at hf
  refine J_iload_n dX8_isWithin_0 rfl rfl ?_
  refine J_iload_n dX8_isWithin_1 rfl rfl ?_
  rcases br hf with ⟨c1, hf⟩ | ⟨c1, hf⟩
  · refine J_icmp_lt (tgt := 14) dX8_isWithin_2 (by decide) (fun _ => ?_) (fun w => absurd c1 w)
    refine J_iconst (v := 0) dX8_isWithin_14 (by decide) ?_
    cases hf
    exact J_zretN dX8_isWithin_15 rfl (Or.inl rfl) (by decide) (by decide)
  · refine J_icmp_lt (tgt := 14) dX8_isWithin_2 (by decide) (fun w => absurd w c1) (fun _ => ?_)
    refine J_iload_n dX8_isWithin_5 rfl rfl ?_
    refine J_iload_n dX8_isWithin_6 rfl rfl ?_
    rcases br hf with ⟨c2, hf⟩ | ⟨c2, hf⟩
    · refine J_icmp_gt (tgt := 14) dX8_isWithin_7 (by decide) (fun _ => ?_) (fun w => absurd c2 w)
      refine J_iconst (v := 0) dX8_isWithin_14 (by decide) ?_
      cases hf
      exact J_zretN dX8_isWithin_15 rfl (Or.inl rfl) (by decide) (by decide)
    · refine J_icmp_gt (tgt := 14) dX8_isWithin_7 (by decide) (fun w => absurd w c2) (fun _ => ?_)
      refine J_iconst (v := 1) dX8_isWithin_10 (by decide) ?_
      refine J_goto (tgt := 15) dX8_isWithin_11 (by decide) ?_
      cases hf
      exact J_zretN dX8_isWithin_15 rfl (Or.inr rfl) (by decide) (by decide)
theorem mX8_isWithin {g : JG} (hst : (jl g).stackTraces = false) {x0 : Int32} {x1 : Int32} {x2 : Int32} {z : Nat} {h : AH} {o : Int32 × Nat × AH} (hf : fX8_isWithin x0 x1 x2 z h = some o) : jMet g yX8_isWithin (wj yX8_isWithin cX8_isWithin 3 (some .boolean)) rmX8_isWithin [.int x0, .int x1, .int x2] z h (some (.int o.1), o.2.1, o.2.2) :=
  jMet_mk (by decide) (Nat.le_of_ble_eq_true rfl) [some (.int x0), some (.int x1), some (.int x2)] rfl (wfX8_isWithin hst hf)
def fX8_needValue  (x0 : Int32) (z : Nat) (h : AH) : Option ((Unit ⊕ String) × Nat × AH) :=
  (if x0 = 0 then (some (.inr eA, z + 1, h)) else (some (.inl (), z, h)))
theorem wfX8_needValueR {g : JG} (hst : (jl g).stackTraces = false)   {x0 : Int32} {z : Nat} {h : AH} {o : (Unit ⊕ String) × Nat × AH} (hf : fX8_needValue  x0 z h = some o) (hv : (∃ v, o.1 = .inl v)) : J g MX8_needValueR (jV g (xoV o.1, o.2.1, o.2.2) rmX8_needValueR.cells rmX8_needValueR.slots) 0 [some (.int x0)] [] z h 0 0 := by
  unfold fX8_needValue at hf
  refine J_iload_n dX8_needValue_0 rfl rfl ?_
  rcases br hf with ⟨c1, hf⟩ | ⟨c1, hf⟩
  · refine J_if_ne (tgt := 15) dX8_needValue_1 (by decide) (fun w => absurd c1 w) (fun _ => ?_)
    cases hf
    obtain ⟨_, hv⟩ := hv; cases hv
  · refine J_if_ne (tgt := 15) dX8_needValue_1 (by decide) (fun _ => ?_) (fun w => absurd w c1)
    cases hf
    exact jN_V (J_vretN dX8_needValue_15 rfl (by decide) (by decide))
theorem mX8_needValueR {g : JG} (hst : (jl g).stackTraces = false) {x0 : Int32} {z : Nat} {h : AH} {o : (Unit ⊕ String) × Nat × AH} (hf : fX8_needValue x0 z h = some o) (hv : (∃ v, o.1 = .inl v)) : jMetX g yX8_needValue (wj yX8_needValue cX8_needValue 1 none) rmX8_needValueR [.int x0] z h (xoV o.1, o.2.1, o.2.2) :=
  jMetX_mk (by decide) (Nat.le_of_ble_eq_true rfl) [some (.int x0)] rfl (wfX8_needValueR hst hf hv)
theorem wfX8_needValueT {g : JG} (hst : (jl g).stackTraces = false)   {x0 : Int32} {z : Nat} {h : AH} {o : (Unit ⊕ String) × Nat × AH} (hf : fX8_needValue  x0 z h = some o) (hv : (∃ v, o.1 = .inr v)) : J g MX8_needValueT (jV g (xoV o.1, o.2.1, o.2.2) rmX8_needValueT.cells rmX8_needValueT.slots) 0 [some (.int x0)] [] z h 0 0 := by
  unfold fX8_needValue at hf
  refine J_iload_n dX8_needValue_0 rfl rfl ?_
  rcases br hf with ⟨c1, hf⟩ | ⟨c1, hf⟩
  · refine J_if_ne (tgt := 15) dX8_needValue_1 (by decide) (fun w => absurd c1 w) (fun _ => ?_)
    cases hf
    exact J_throw (names := ["java/lang/RuntimeException", "java/lang/Exception"]) hst (by decide) (by decide) rfl tk_508 tk_17 tl_517 (by decide +kernel) (by decide +kernel) dX8_needValue_4 dX8_needValue_7 dX8_needValue_8 dX8_needValue_11 dX8_needValue_14 rfl (by decide) (by decide) (by decide) (by decide) (by decide) (by decide)
  · refine J_if_ne (tgt := 15) dX8_needValue_1 (by decide) (fun _ => ?_) (fun w => absurd w c1)
    cases hf
    obtain ⟨_, hv⟩ := hv; cases hv
theorem mX8_needValueT {g : JG} (hst : (jl g).stackTraces = false) {x0 : Int32} {z : Nat} {h : AH} {o : (Unit ⊕ String) × Nat × AH} (hf : fX8_needValue x0 z h = some o) (hv : (∃ v, o.1 = .inr v)) : jMetX g yX8_needValue (wj yX8_needValue cX8_needValue 1 none) rmX8_needValueT [.int x0] z h (xoV o.1, o.2.1, o.2.2) :=
  jMetX_mk (by decide) (Nat.le_of_ble_eq_true rfl) [some (.int x0)] rfl (wfX8_needValueT hst hf hv)
def fX8_isDigit  (x0 : Int32) (z : Nat) (h : AH) : Option (Int32 × Nat × AH) :=
  bd3 (fX8_isWithin x0 48 57 z h) (fun vo1 zo1 ho1h => gd (vo1 = 0 ∨ vo1 = 1) (some (vo1, zo1, ho1h)))
theorem wfX8_isDigit {g : JG} (hst : (jl g).stackTraces = false)   {x0 : Int32} {z : Nat} {h : AH} {o : Int32 × Nat × AH} (hf : fX8_isDigit  x0 z h = some o) : J g MX8_isDigit (jN g (some (.int o.1), o.2.1, o.2.2) rmX8_isDigit.cells rmX8_isDigit.slots) 0 [some (.int x0)] [] z h 0 0 := by
  unfold fX8_isDigit at hf
  refine J_iload_n dX8_isDigit_0 rfl rfl ?_
  refine J_bipush (v := 48) dX8_isDigit_1 (by decide) ?_
  refine J_bipush (v := 57) dX8_isDigit_3 (by decide) ?_
  obtain ⟨vo1, zo1, ho1h, ho1, hf⟩ := rfs3 hf
  refine CS3i (host := "") dX8_isDigit_5 (mX8_isWithin hst ho1) tk_281 iX8_isWithin ⟨by decide, by decide⟩ ⟨by decide, by decide⟩ (Nat.le_of_ble_eq_true rfl) ?_
  obtain ⟨z9, hf⟩ := gds hf
  cases hf
  exact J_zretN dX8_isDigit_8 rfl z9 (by decide) (by decide)
theorem mX8_isDigit {g : JG} (hst : (jl g).stackTraces = false) {x0 : Int32} {z : Nat} {h : AH} {o : Int32 × Nat × AH} (hf : fX8_isDigit x0 z h = some o) : jMet g yX8_isDigit (wj yX8_isDigit cX8_isDigit 1 (some .boolean)) rmX8_isDigit [.int x0] z h (some (.int o.1), o.2.1, o.2.2) :=
  jMet_mk (by decide) (Nat.le_of_ble_eq_true rfl) [some (.int x0)] rfl (wfX8_isDigit hst hf)
def fX8_mix  (y0 : Int64) (y2 : Int64) (z : Nat) (h : AH) : Option (Int64 × Nat × AH) :=
  some (((31 * y0) + y2), z, h)
theorem wfX8_mix {g : JG} (hst : (jl g).stackTraces = false)   {y0 : Int64} {y2 : Int64} {z : Nat} {h : AH} {o : Int64 × Nat × AH} (hf : fX8_mix  y0 y2 z h = some o) : J g MX8_mix (jN g (some (.long o.1), o.2.1, o.2.2) rmX8_mix.cells rmX8_mix.slots) 0 [some (.long y0), none, some (.long y2), none] [] z h 0 0 := by
  unfold fX8_mix at hf
  refine J_ldc2 (v := 31) dX8_mix_0 tk_428 ?_
  refine J_lload_n dX8_mix_3 rfl rfl ?_
  refine J_lmul dX8_mix_4 ?_
  refine J_lload_n dX8_mix_5 rfl rfl ?_
  refine J_ladd dX8_mix_6 ?_
  cases hf
  exact J_lretN dX8_mix_7 rfl (by decide) (by decide)
theorem mX8_mix {g : JG} (hst : (jl g).stackTraces = false) {y0 : Int64} {y2 : Int64} {z : Nat} {h : AH} {o : Int64 × Nat × AH} (hf : fX8_mix y0 y2 z h = some o) : jMet g yX8_mix (wj yX8_mix cX8_mix 4 (some .long)) rmX8_mix [.long y0, .long y2] z h (some (.long o.1), o.2.1, o.2.2) :=
  jMet_mk (by decide) (Nat.le_of_ble_eq_true rfl) [some (.long y0), none, some (.long y2), none] rfl (wfX8_mix hst hf)
