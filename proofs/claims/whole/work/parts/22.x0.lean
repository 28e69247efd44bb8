/-! decompiled methods and their walks (printed by gen/gen.py) -/
def fX0_has  (a0 : Nat) (x1 : Int32) (z : Nat) (h : AH) : Option (Int32 × Nat × AH) :=
  (if x1 < 0 then (some (0, z, h)) else ((if 10 ≤ x1 then (some (0, z, h)) else (gd (kd h a0 = 1) ((if (((iv h a0 9) >>> (x1 &&& 31)) &&& 1) = 0 then (some (0, z, h)) else (some (1, z, h))))))))
theorem wfX0_has {g : JG} (hst : (jl g).stackTraces = false)   {a0 : Nat} {x1 : Int32} {z : Nat} {h : AH} {o : Int32 × Nat × AH} (hf : fX0_has  a0 x1 z h = some o) : J g MX0_has (jN g (some (.int o.1), o.2.1, o.2.2) rmX0_has.cells rmX0_has.slots) 0 [some (.ref a0), some (.int x1)] [] z h 0 0 := by
  unfold fX0_has at hf
  refine J_iload_n dX0_has_0 rfl rfl ?_
  rcases br hf with ⟨c1, hf⟩ | ⟨c1, hf⟩
  · refine J_if_lt (tgt := 25) dX0_has_1 (by decide) (fun _ => ?_) (fun w => absurd c1 w)
    refine J_iconst (v := 0) dX0_has_25 (by decide) ?_
    cases hf
    exact J_zretN dX0_has_26 rfl (Or.inl rfl) (by decide) (by decide)
  · refine J_if_lt (tgt := 25) dX0_has_1 (by decide) (fun w => absurd w c1) (fun _ => ?_)
    refine J_iload_n dX0_has_4 rfl rfl ?_
    refine J_bipush (v := 10) dX0_has_5 (by decide) ?_
    rcases br hf with ⟨c2, hf⟩ | ⟨c2, hf⟩
    · refine J_icmp_ge (tgt := 25) dX0_has_7 (by decide) (fun _ => ?_) (fun w => absurd c2 w)
      refine J_iconst (v := 0) dX0_has_25 (by decide) ?_
      cases hf
      exact J_zretN dX0_has_26 rfl (Or.inl rfl) (by decide) (by decide)
    · refine J_icmp_ge (tgt := 25) dX0_has_7 (by decide) (fun w => absurd w c2) (fun _ => ?_)
      refine J_aload_n dX0_has_10 rfl rfl ?_
      obtain ⟨k3, hf⟩ := gds hf
      refine G_0_9 dX0_has_11 tk_114 k3 ?_
      refine J_iload_n dX0_has_14 rfl rfl ?_
      refine J_ishr dX0_has_15 ?_
      refine J_iconst (v := 1) dX0_has_16 (by decide) ?_
      refine J_iand dX0_has_17 ?_
      rcases br hf with ⟨c4, hf⟩ | ⟨c4, hf⟩
      · refine J_if_eq (tgt := 25) dX0_has_18 (by decide) (fun _ => ?_) (fun w => absurd c4 w)
        refine J_iconst (v := 0) dX0_has_25 (by decide) ?_
        cases hf
        exact J_zretN dX0_has_26 rfl (Or.inl rfl) (by decide) (by decide)
      · refine J_if_eq (tgt := 25) dX0_has_18 (by decide) (fun w => absurd w c4) (fun _ => ?_)
        refine J_iconst (v := 1) dX0_has_21 (by decide) ?_
        refine J_goto (tgt := 26) dX0_has_22 (by decide) ?_
        cases hf
        exact J_zretN dX0_has_26 rfl (Or.inr rfl) (by decide) (by decide)
theorem mX0_has {g : JG} (hst : (jl g).stackTraces = false) {a0 : Nat} {x1 : Int32} {z : Nat} {h : AH} {o : Int32 × Nat × AH} (hf : fX0_has a0 x1 z h = some o) : jMet g yX0_has (wj yX0_has cX0_has 2 (some .boolean)) rmX0_has [.ref a0, .int x1] z h (some (.int o.1), o.2.1, o.2.2) :=
  jMet_mk (by decide) (Nat.le_of_ble_eq_true rfl) [some (.ref a0), some (.int x1)] rfl (wfX0_has hst hf)
def fX0_isIn  (a0 : Nat) (x1 : Int32) (x2 : Int32) (z : Nat) (h : AH) : Option (Int32 × Nat × AH) :=
  (if x1 < 0 then (some (0, z, h)) else ((if 10 ≤ x1 then (some (0, z, h)) else (gd (kd h a0 = 1) ((if (((iv h a0 9) >>> (x1 &&& 31)) &&& 1) = 0 then (some (0, z, h)) else (Option.bind (rv h a0 4) (fun b5 => gd (kd h b5 = 13) (gd (¬ ((x1 : Int32) < 0 ∨ ln h b5 ≤ Int32.toNatClampNeg x1)) ((if (iv h b5 (Int32.toNatClampNeg x1)) = x2 then (some (1, z, h)) else (some (0, z, h)))))))))))))
theorem wfX0_isIn {g : JG} (hst : (jl g).stackTraces = false)   {a0 : Nat} {x1 : Int32} {x2 : Int32} {z : Nat} {h : AH} {o : Int32 × Nat × AH} (hf : fX0_isIn  a0 x1 x2 z h = some o) : J g MX0_isIn (jN g (some (.int o.1), o.2.1, o.2.2) rmX0_isIn.cells rmX0_isIn.slots) 0 [some (.ref a0), some (.int x1), some (.int x2)] [] z h 0 0 := by
  unfold fX0_isIn at hf
  refine J_iload_n dX0_isIn_0 rfl rfl ?_
  rcases br hf with ⟨c1, hf⟩ | ⟨c1, hf⟩
  · refine J_if_lt (tgt := 35) dX0_isIn_1 (by decide) (fun _ => ?_) (fun w => absurd c1 w)
    refine J_iconst (v := 0) dX0_isIn_35 (by decide) ?_
    cases hf
    exact J_zretN dX0_isIn_36 rfl (Or.inl rfl) (by decide) (by decide)
  · refine J_if_lt (tgt := 35) dX0_isIn_1 (by decide) (fun w => absurd w c1) (fun _ => ?_)
    refine J_iload_n dX0_isIn_4 rfl rfl ?_
    refine J_bipush (v := 10) dX0_isIn_5 (by decide) ?_
    rcases br hf with ⟨c2, hf⟩ | ⟨c2, hf⟩
    · refine J_icmp_ge (tgt := 35) dX0_isIn_7 (by decide) (fun _ => ?_) (fun w => absurd c2 w)
      refine J_iconst (v := 0) dX0_isIn_35 (by decide) ?_
      cases hf
      exact J_zretN dX0_isIn_36 rfl (Or.inl rfl) (by decide) (by decide)
    · refine J_icmp_ge (tgt := 35) dX0_isIn_7 (by decide) (fun w => absurd w c2) (fun _ => ?_)
      refine J_aload_n dX0_isIn_10 rfl rfl ?_
      obtain ⟨k3, hf⟩ := gds hf
      refine G_0_9 dX0_isIn_11 tk_114 k3 ?_
      refine J_iload_n dX0_isIn_14 rfl rfl ?_
      refine J_ishr dX0_isIn_15 ?_
      refine J_iconst (v := 1) dX0_isIn_16 (by decide) ?_
      refine J_iand dX0_isIn_17 ?_
      rcases br hf with ⟨c4, hf⟩ | ⟨c4, hf⟩
      · refine J_if_eq (tgt := 35) dX0_isIn_18 (by decide) (fun _ => ?_) (fun w => absurd c4 w)
        refine J_iconst (v := 0) dX0_isIn_35 (by decide) ?_
        cases hf
        exact J_zretN dX0_isIn_36 rfl (Or.inl rfl) (by decide) (by decide)
      · refine J_if_eq (tgt := 35) dX0_isIn_18 (by decide) (fun w => absurd w c4) (fun _ => ?_)
        refine J_aload_n dX0_isIn_21 rfl rfl ?_
        obtain ⟨b5, rb5, hf⟩ := rfs hf
        refine G_0_4 dX0_isIn_22 tk_102 k3 rb5 ?_
        refine J_iload_n dX0_isIn_25 rfl rfl ?_
        obtain ⟨k6, hf⟩ := gds hf
        obtain ⟨n7, hf⟩ := gds hf
        refine J_iaload dX0_isIn_26 k6 n7 ?_
        refine J_iload_n dX0_isIn_27 rfl rfl ?_
        rcases br hf with ⟨c8, hf⟩ | ⟨c8, hf⟩
        · refine J_icmp_ne (tgt := 35) dX0_isIn_28 (by decide) (fun w => absurd c8 w) (fun _ => ?_)
          refine J_iconst (v := 1) dX0_isIn_31 (by decide) ?_
          refine J_goto (tgt := 36) dX0_isIn_32 (by decide) ?_
          cases hf
          exact J_zretN dX0_isIn_36 rfl (Or.inr rfl) (by decide) (by decide)
        · refine J_icmp_ne (tgt := 35) dX0_isIn_28 (by decide) (fun _ => ?_) (fun w => absurd w c8)
          refine J_iconst (v := 0) dX0_isIn_35 (by decide) ?_
          cases hf
          exact J_zretN dX0_isIn_36 rfl (Or.inl rfl) (by decide) (by decide)
theorem mX0_isIn {g : JG} (hst : (jl g).stackTraces = false) {a0 : Nat} {x1 : Int32} {x2 : Int32} {z : Nat} {h : AH} {o : Int32 × Nat × AH} (hf : fX0_isIn a0 x1 x2 z h = some o) : jMet g yX0_isIn (wj yX0_isIn cX0_isIn 3 (some .boolean)) rmX0_isIn [.ref a0, .int x1, .int x2] z h (some (.int o.1), o.2.1, o.2.2) :=
  jMet_mk (by decide) (Nat.le_of_ble_eq_true rfl) [some (.ref a0), some (.int x1), some (.int x2)] rfl (wfX0_isIn hst hf)
def fX0_init  (a0 : Nat) (z : Nat) (h : AH) : Option (Nat × AH) :=
  bl (wNew h z 3 0) (fun h1 => bd2 (fX2_init z (z + 1) h1) (fun zo3 ho3h => gd (kd ho3h a0 = 1) (bl (wR ho3h a0 0 (some z)) (fun h5 => bl (wNew h5 zo3 5 0) (fun h6 => bd2 (fX4_init zo3 (zo3 + 1) h6) (fun zo8 ho8h => gd (kd ho8h a0 = 1) (bl (wR ho8h a0 1 (some zo3)) (fun h10 => bl (wNew h10 zo8 13 10) (fun h11 => gd (kd h11 a0 = 1) (bl (wR h11 a0 2 (some zo8)) (fun h14 => bl (wNew h14 (zo8 + 1) 13 10) (fun h15 => gd (kd h15 a0 = 1) (bl (wR h15 a0 3 (some (zo8 + 1))) (fun h18 => bl (wNew h18 ((zo8 + 1) + 1) 13 10) (fun h19 => gd (kd h19 a0 = 1) (bl (wR h19 a0 4 (some ((zo8 + 1) + 1))) (fun h22 => bl (wNew h22 (((zo8 + 1) + 1) + 1) 13 10) (fun h23 => gd (kd h23 a0 = 1) (bl (wR h23 a0 5 (some (((zo8 + 1) + 1) + 1))) (fun h26 => bl (wNew h26 ((((zo8 + 1) + 1) + 1) + 1) 13 10) (fun h27 => gd (kd h27 a0 = 1) (bl (wR h27 a0 6 (some ((((zo8 + 1) + 1) + 1) + 1))) (fun h30 => bl (wNew h30 (((((zo8 + 1) + 1) + 1) + 1) + 1) 13 10) (fun h31 => gd (kd h31 a0 = 1) (bl (wR h31 a0 7 (some (((((zo8 + 1) + 1) + 1) + 1) + 1))) (fun h34 => bl (wI h34 a0 12 4) (fun h36 => bl (wI h36 a0 13 1) (fun h38 => some (((((((zo8 + 1) + 1) + 1) + 1) + 1) + 1), h38)))))))))))))))))))))))))))))
theorem wfX0_init {g : JG} (hst : (jl g).stackTraces = false)   {a0 : Nat} {z : Nat} {h : AH} {o : Nat × AH} (hf : fX0_init  a0 z h = some o) : J g MX0_init (jN g (none, o.1, o.2) rmX0_init.cells rmX0_init.slots) 0 [some (.ref a0)] [] z h 0 0 := by
  unfold fX0_init at hf
  refine J_aload_n dX0_init_0 rfl rfl ?_
  refine J_objInit dX0_init_1 tk_32 tk_25 tk_26 (by decide) (Nat.le_of_ble_eq_true rfl) ?_
  refine J_aload_n dX0_init_4 rfl rfl ?_
  refine J_new (ci := 2) dX0_init_5 (by decide) rfl inG2 tyX2 tyX2_ok tk_33 tk_34 tk_3 (by decide) (by decide) (by decide) ?_
  obtain ⟨h1, eh1, hf⟩ := bls hf
  refine J_h eh1 ?_
  have k2 : kd h1 z = 3 := by rw [eh1]; exact wNew_kd _ _ _ _
  refine J_dup dX0_init_8 rfl ?_
  obtain ⟨zo3, ho3h, ho3, hf⟩ := rfs2 hf
  refine CIN0v dX0_init_9 (mX2_init hst ho3) tl_35 iX2_init ⟨by decide, by decide⟩ ⟨by decide, by decide⟩ (Nat.le_of_ble_eq_true rfl) ?_
  obtain ⟨k4, hf⟩ := gds hf
  refine P_0_0 dX0_init_12 tk_91 k4 rfl rfl ?_
  obtain ⟨h5, eh5, hf⟩ := bls hf
  refine J_h eh5 ?_
  refine J_aload_n dX0_init_15 rfl rfl ?_
  refine J_new (ci := 4) dX0_init_16 (by decide) rfl inG4 tyX4 tyX4_ok tk_59 tk_60 tk_4 (by decide) (by decide) (by decide) ?_
  obtain ⟨h6, eh6, hf⟩ := bls hf
  refine J_h eh6 ?_
  have k7 : kd h6 zo3 = 5 := by rw [eh6]; exact wNew_kd _ _ _ _
  refine J_dup dX0_init_19 rfl ?_
  obtain ⟨zo8, ho8h, ho8, hf⟩ := rfs2 hf
  refine CIN0v dX0_init_20 (mX4_init hst ho8) tl_61 iX4_init ⟨by decide, by decide⟩ ⟨by decide, by decide⟩ (Nat.le_of_ble_eq_true rfl) ?_
  obtain ⟨k9, hf⟩ := gds hf
  refine P_0_1 dX0_init_23 tk_93 k9 rfl rfl ?_
  obtain ⟨h10, eh10, hf⟩ := bls hf
  refine J_h eh10 ?_
  refine J_aload_n dX0_init_26 rfl rfl ?_
  refine J_bipush (v := 10) dX0_init_27 (by decide) ?_
  refine J_newarr (ty := .int) (N := 10) (t := 2) (kk0 := 13) dX0_init_29 rfl tk_58 (by decide) (by decide) (by decide) (fun _ => rfl) (fun _ _ hh => hh) (fun ca => ⟨_, rfl, rfl⟩) (by decide) (by decide) ?_
  obtain ⟨h11, eh11, hf⟩ := bls hf
  refine J_h eh11 ?_
  have k12 : kd h11 zo8 = 13 := by rw [eh11]; exact wNew_kd _ _ _ _
  obtain ⟨k13, hf⟩ := gds hf
  refine P_0_2 dX0_init_31 tk_96 k13 rfl rfl ?_
  obtain ⟨h14, eh14, hf⟩ := bls hf
  refine J_h eh14 ?_
  refine J_aload_n dX0_init_34 rfl rfl ?_
  refine J_bipush (v := 10) dX0_init_35 (by decide) ?_
  refine J_newarr (ty := .int) (N := 10) (t := 2) (kk0 := 13) dX0_init_37 rfl tk_58 (by decide) (by decide) (by decide) (fun _ => rfl) (fun _ _ hh => hh) (fun ca => ⟨_, rfl, rfl⟩) (by decide) (by decide) ?_
  obtain ⟨h15, eh15, hf⟩ := bls hf
  refine J_h eh15 ?_
  have k16 : kd h15 (zo8 + 1) = 13 := by rw [eh15]; exact wNew_kd _ _ _ _
  obtain ⟨k17, hf⟩ := gds hf
  refine P_0_3 dX0_init_39 tk_99 k17 rfl rfl ?_
  obtain ⟨h18, eh18, hf⟩ := bls hf
  refine J_h eh18 ?_
  refine J_aload_n dX0_init_42 rfl rfl ?_
  refine J_bipush (v := 10) dX0_init_43 (by decide) ?_
  refine J_newarr (ty := .int) (N := 10) (t := 2) (kk0 := 13) dX0_init_45 rfl tk_58 (by decide) (by decide) (by decide) (fun _ => rfl) (fun _ _ hh => hh) (fun ca => ⟨_, rfl, rfl⟩) (by decide) (by decide) ?_
  obtain ⟨h19, eh19, hf⟩ := bls hf
  refine J_h eh19 ?_
  have k20 : kd h19 ((zo8 + 1) + 1) = 13 := by rw [eh19]; exact wNew_kd _ _ _ _
  obtain ⟨k21, hf⟩ := gds hf
  refine P_0_4 dX0_init_47 tk_102 k21 rfl rfl ?_
  obtain ⟨h22, eh22, hf⟩ := bls hf
  refine J_h eh22 ?_
  refine J_aload_n dX0_init_50 rfl rfl ?_
  refine J_bipush (v := 10) dX0_init_51 (by decide) ?_
  refine J_newarr (ty := .int) (N := 10) (t := 2) (kk0 := 13) dX0_init_53 rfl tk_58 (by decide) (by decide) (by decide) (fun _ => rfl) (fun _ _ hh => hh) (fun ca => ⟨_, rfl, rfl⟩) (by decide) (by decide) ?_
  obtain ⟨h23, eh23, hf⟩ := bls hf
  refine J_h eh23 ?_
  have k24 : kd h23 (((zo8 + 1) + 1) + 1) = 13 := by rw [eh23]; exact wNew_kd _ _ _ _
  obtain ⟨k25, hf⟩ := gds hf
  refine P_0_5 dX0_init_55 tk_105 k25 rfl rfl ?_
  obtain ⟨h26, eh26, hf⟩ := bls hf
  refine J_h eh26 ?_
  refine J_aload_n dX0_init_58 rfl rfl ?_
  refine J_bipush (v := 10) dX0_init_59 (by decide) ?_
  refine J_newarr (ty := .int) (N := 10) (t := 2) (kk0 := 13) dX0_init_61 rfl tk_58 (by decide) (by decide) (by decide) (fun _ => rfl) (fun _ _ hh => hh) (fun ca => ⟨_, rfl, rfl⟩) (by decide) (by decide) ?_
  obtain ⟨h27, eh27, hf⟩ := bls hf
  refine J_h eh27 ?_
  have k28 : kd h27 ((((zo8 + 1) + 1) + 1) + 1) = 13 := by rw [eh27]; exact wNew_kd _ _ _ _
  obtain ⟨k29, hf⟩ := gds hf
  refine P_0_6 dX0_init_63 tk_108 k29 rfl rfl ?_
  obtain ⟨h30, eh30, hf⟩ := bls hf
  refine J_h eh30 ?_
  refine J_aload_n dX0_init_66 rfl rfl ?_
  refine J_bipush (v := 10) dX0_init_67 (by decide) ?_
  refine J_newarr (ty := .int) (N := 10) (t := 2) (kk0 := 13) dX0_init_69 rfl tk_58 (by decide) (by decide) (by decide) (fun _ => rfl) (fun _ _ hh => hh) (fun ca => ⟨_, rfl, rfl⟩) (by decide) (by decide) ?_
  obtain ⟨h31, eh31, hf⟩ := bls hf
  refine J_h eh31 ?_
  have k32 : kd h31 (((((zo8 + 1) + 1) + 1) + 1) + 1) = 13 := by rw [eh31]; exact wNew_kd _ _ _ _
  obtain ⟨k33, hf⟩ := gds hf
  refine P_0_7 dX0_init_71 tk_110 k33 rfl rfl ?_
  obtain ⟨h34, eh34, hf⟩ := bls hf
  refine J_h eh34 ?_
  refine J_aload_n dX0_init_74 rfl rfl ?_
  refine J_iconst (v := 4) dX0_init_75 (by decide) ?_
  have k35 : kd h34 a0 = 1 := by rw [eh34]; exact k33
  refine P_0_12 dX0_init_76 tk_122 k35 ?_
  obtain ⟨h36, eh36, hf⟩ := bls hf
  refine J_h eh36 ?_
  refine J_aload_n dX0_init_79 rfl rfl ?_
  refine J_iconst (v := 1) dX0_init_80 (by decide) ?_
  have k37 : kd h36 a0 = 1 := by rw [eh36]; exact k35
  refine P_0_13 dX0_init_81 tk_125 k37 ?_
  obtain ⟨h38, eh38, hf⟩ := bls hf
  refine J_h eh38 ?_
  cases hf
  exact J_vretN dX0_init_84 rfl (by decide) (by decide)
theorem mX0_init {g : JG} (hst : (jl g).stackTraces = false) {a0 : Nat} {z : Nat} {h : AH} {o : Nat × AH} (hf : fX0_init a0 z h = some o) : jMet g yX0_init (wj yX0_init cX0_init 1 none) rmX0_init [.ref a0] z h (none, o.1, o.2) :=
  jMet_mk (by decide) (Nat.le_of_ble_eq_true rfl) [some (.ref a0)] rfl (wfX0_init hst hf)
def fX0_copyFrom  (a0 : Nat) (a1 : Nat) (z : Nat) (h : AH) : Option (Nat × AH) :=
  gd (kd h a0 = 1) (Option.bind (rv h a0 0) (fun b2 => gd (kd h a1 = 1) (Option.bind (rv h a1 0) (fun b4 => gd (kd h b2 = 3) (bd2 (fX2_copyFrom b2 b4 z h) (fun zo6 ho6h => gd (kd ho6h a0 = 1) (Option.bind (rv ho6h a0 1) (fun b8 => gd (kd ho6h a1 = 1) (Option.bind (rv ho6h a1 1) (fun b10 => gd (kd ho6h b8 = 5) (bd2 (fX4_copyFrom b8 b10 zo6 ho6h) (fun zo12 ho12h => gd (kd ho12h a1 = 1) (Option.bind (rv ho12h a1 2) (fun b14 => gd (kd ho12h a0 = 1) (Option.bind (rv ho12h a0 2) (fun b16 => gd (kd ho12h b14 = 13) (gd (kd ho12h b16 = 13) (gd (10 ≤ ln ho12h b14 ∧ 10 ≤ ln ho12h b16) (bl (wRowI ho12h b16 (va_cpy (iv ho12h b14) (iv ho12h b16) (Int32.toNatClampNeg 0) (Int32.toNatClampNeg 0) (Int32.toNatClampNeg 10))) (fun h20 => Option.bind (rv h20 a1 3) (fun b22 => Option.bind (rv h20 a0 3) (fun b24 => gd (kd h20 b22 = 13) (gd (kd h20 b24 = 13) (gd (10 ≤ ln h20 b22 ∧ 10 ≤ ln h20 b24) (bl (wRowI h20 b24 (va_cpy (iv h20 b22) (iv h20 b24) (Int32.toNatClampNeg 0) (Int32.toNatClampNeg 0) (Int32.toNatClampNeg 10))) (fun h28 => Option.bind (rv h28 a1 4) (fun b30 => Option.bind (rv h28 a0 4) (fun b32 => gd (kd h28 b30 = 13) (gd (kd h28 b32 = 13) (gd (10 ≤ ln h28 b30 ∧ 10 ≤ ln h28 b32) (bl (wRowI h28 b32 (va_cpy (iv h28 b30) (iv h28 b32) (Int32.toNatClampNeg 0) (Int32.toNatClampNeg 0) (Int32.toNatClampNeg 10))) (fun h36 => Option.bind (rv h36 a1 5) (fun b38 => Option.bind (rv h36 a0 5) (fun b40 => gd (kd h36 b38 = 13) (gd (kd h36 b40 = 13) (gd (10 ≤ ln h36 b38 ∧ 10 ≤ ln h36 b40) (bl (wRowI h36 b40 (va_cpy (iv h36 b38) (iv h36 b40) (Int32.toNatClampNeg 0) (Int32.toNatClampNeg 0) (Int32.toNatClampNeg 10))) (fun h44 => Option.bind (rv h44 a1 6) (fun b46 => Option.bind (rv h44 a0 6) (fun b48 => gd (kd h44 b46 = 13) (gd (kd h44 b48 = 13) (gd (10 ≤ ln h44 b46 ∧ 10 ≤ ln h44 b48) (bl (wRowI h44 b48 (va_cpy (iv h44 b46) (iv h44 b48) (Int32.toNatClampNeg 0) (Int32.toNatClampNeg 0) (Int32.toNatClampNeg 10))) (fun h52 => Option.bind (rv h52 a1 7) (fun b54 => Option.bind (rv h52 a0 7) (fun b56 => gd (kd h52 b54 = 13) (gd (kd h52 b56 = 13) (gd (10 ≤ ln h52 b54 ∧ 10 ≤ ln h52 b56) (bl (wRowI h52 b56 (va_cpy (iv h52 b54) (iv h52 b56) (Int32.toNatClampNeg 0) (Int32.toNatClampNeg 0) (Int32.toNatClampNeg 10))) (fun h60 => bl (wI h60 a0 8 (iv h60 a1 8)) (fun h63 => bl (wI h63 a0 9 (iv h63 a1 9)) (fun h66 => bl (wI h66 a0 10 (iv h66 a1 10)) (fun h69 => bl (wI h69 a0 11 (iv h69 a1 11)) (fun h72 => bl (wI h72 a0 12 (iv h72 a1 12)) (fun h75 => bl (wI h75 a0 13 (iv h75 a1 13)) (fun h78 => some (zo12, h78)))))))))))))))))))))))))))))))))))))))))))))))))))))))))
theorem wfX0_copyFrom {g : JG} (hst : (jl g).stackTraces = false)   {a0 : Nat} {a1 : Nat} {z : Nat} {h : AH} {o : Nat × AH} (hf : fX0_copyFrom  a0 a1 z h = some o) : J g MX0_copyFrom (jN g (none, o.1, o.2) rmX0_copyFrom.cells rmX0_copyFrom.slots) 0 [some (.ref a0), some (.ref a1)] [] z h 0 0 := by
  unfold fX0_copyFrom at hf
  refine J_aload_n dX0_copyFrom_0 rfl rfl ?_
  obtain ⟨k1, hf⟩ := gds hf
  obtain ⟨b2, rb2, hf⟩ := rfs hf
  refine G_0_0 dX0_copyFrom_1 tk_91 k1 rb2 ?_
  refine J_aload_n dX0_copyFrom_4 rfl rfl ?_
  obtain ⟨k3, hf⟩ := gds hf
  obtain ⟨b4, rb4, hf⟩ := rfs hf
  refine G_0_0 dX0_copyFrom_5 tk_91 k3 rb4 ?_
  obtain ⟨k5, hf⟩ := gds hf
  obtain ⟨zo6, ho6h, ho6, hf⟩ := rfs2 hf
  refine CV1v dX0_copyFrom_8 (mX2_copyFrom hst ho6) tk_365 iX2_copyFrom k5 (by decide) rfl ⟨by decide, by decide⟩ ⟨by decide, by decide⟩ (Nat.le_of_ble_eq_true rfl) ?_
  refine J_aload_n dX0_copyFrom_11 rfl rfl ?_
  obtain ⟨k7, hf⟩ := gds hf
  obtain ⟨b8, rb8, hf⟩ := rfs hf
  refine G_0_1 dX0_copyFrom_12 tk_93 k7 rb8 ?_
  refine J_aload_n dX0_copyFrom_15 rfl rfl ?_
  obtain ⟨k9, hf⟩ := gds hf
  obtain ⟨b10, rb10, hf⟩ := rfs hf
  refine G_0_1 dX0_copyFrom_16 tk_93 k9 rb10 ?_
  obtain ⟨k11, hf⟩ := gds hf
  obtain ⟨zo12, ho12h, ho12, hf⟩ := rfs2 hf
  refine CV1v dX0_copyFrom_19 (mX4_copyFrom hst ho12) tk_372 iX4_copyFrom k11 (by decide) rfl ⟨by decide, by decide⟩ ⟨by decide, by decide⟩ (Nat.le_of_ble_eq_true rfl) ?_
  refine J_aload_n dX0_copyFrom_22 rfl rfl ?_
  obtain ⟨k13, hf⟩ := gds hf
  obtain ⟨b14, rb14, hf⟩ := rfs hf
  refine G_0_2 dX0_copyFrom_23 tk_96 k13 rb14 ?_
  refine J_iconst (v := 0) dX0_copyFrom_26 (by decide) ?_
  refine J_aload_n dX0_copyFrom_27 rfl rfl ?_
  obtain ⟨k15, hf⟩ := gds hf
  obtain ⟨b16, rb16, hf⟩ := rfs hf
  refine G_0_2 dX0_copyFrom_28 tk_96 k15 rb16 ?_
  refine J_iconst (v := 0) dX0_copyFrom_31 (by decide) ?_
  refine J_bipush (v := 10) dX0_copyFrom_32 (by decide) ?_
  obtain ⟨k17, hf⟩ := gds hf
  obtain ⟨k18, hf⟩ := gds hf
  obtain ⟨n19, hf⟩ := gds hf
  refine J_copyI dX0_copyFrom_34 tk_377 tk_371 tk_370 tk_16 k17 k18 (by decide) (by decide) (by decide) n19.1 n19.2 (by decide) (Nat.le_of_ble_eq_true rfl) ?_
  obtain ⟨h20, eh20, hf⟩ := bls hf
  refine J_h eh20 ?_
  refine J_aload_n dX0_copyFrom_37 rfl rfl ?_
  have k21 : kd h20 a1 = 1 := by rw [eh20]; exact k13
  obtain ⟨b22, rb22, hf⟩ := rfs hf
  refine G_0_3 dX0_copyFrom_38 tk_99 k21 rb22 ?_
  refine J_iconst (v := 0) dX0_copyFrom_41 (by decide) ?_
  refine J_aload_n dX0_copyFrom_42 rfl rfl ?_
  have k23 : kd h20 a0 = 1 := by rw [eh20]; exact k15
  obtain ⟨b24, rb24, hf⟩ := rfs hf
  refine G_0_3 dX0_copyFrom_43 tk_99 k23 rb24 ?_
  refine J_iconst (v := 0) dX0_copyFrom_46 (by decide) ?_
  refine J_bipush (v := 10) dX0_copyFrom_47 (by decide) ?_
  obtain ⟨k25, hf⟩ := gds hf
  obtain ⟨k26, hf⟩ := gds hf
  obtain ⟨n27, hf⟩ := gds hf
  refine J_copyI dX0_copyFrom_49 tk_377 tk_371 tk_370 tk_16 k25 k26 (by decide) (by decide) (by decide) n27.1 n27.2 (by decide) (Nat.le_of_ble_eq_true rfl) ?_
  obtain ⟨h28, eh28, hf⟩ := bls hf
  refine J_h eh28 ?_
  refine J_aload_n dX0_copyFrom_52 rfl rfl ?_
  have k29 : kd h28 a1 = 1 := by rw [eh28]; exact k21
  obtain ⟨b30, rb30, hf⟩ := rfs hf
  refine G_0_4 dX0_copyFrom_53 tk_102 k29 rb30 ?_
  refine J_iconst (v := 0) dX0_copyFrom_56 (by decide) ?_
  refine J_aload_n dX0_copyFrom_57 rfl rfl ?_
  have k31 : kd h28 a0 = 1 := by rw [eh28]; exact k23
  obtain ⟨b32, rb32, hf⟩ := rfs hf
  refine G_0_4 dX0_copyFrom_58 tk_102 k31 rb32 ?_
  refine J_iconst (v := 0) dX0_copyFrom_61 (by decide) ?_
  refine J_bipush (v := 10) dX0_copyFrom_62 (by decide) ?_
  obtain ⟨k33, hf⟩ := gds hf
  obtain ⟨k34, hf⟩ := gds hf
  obtain ⟨n35, hf⟩ := gds hf
  refine J_copyI dX0_copyFrom_64 tk_377 tk_371 tk_370 tk_16 k33 k34 (by decide) (by decide) (by decide) n35.1 n35.2 (by decide) (Nat.le_of_ble_eq_true rfl) ?_
  obtain ⟨h36, eh36, hf⟩ := bls hf
  refine J_h eh36 ?_
  refine J_aload_n dX0_copyFrom_67 rfl rfl ?_
  have k37 : kd h36 a1 = 1 := by rw [eh36]; exact k29
  obtain ⟨b38, rb38, hf⟩ := rfs hf
  refine G_0_5 dX0_copyFrom_68 tk_105 k37 rb38 ?_
  refine J_iconst (v := 0) dX0_copyFrom_71 (by decide) ?_
  refine J_aload_n dX0_copyFrom_72 rfl rfl ?_
  have k39 : kd h36 a0 = 1 := by rw [eh36]; exact k31
  obtain ⟨b40, rb40, hf⟩ := rfs hf
  refine G_0_5 dX0_copyFrom_73 tk_105 k39 rb40 ?_
  refine J_iconst (v := 0) dX0_copyFrom_76 (by decide) ?_
  refine J_bipush (v := 10) dX0_copyFrom_77 (by decide) ?_
  obtain ⟨k41, hf⟩ := gds hf
  obtain ⟨k42, hf⟩ := gds hf
  obtain ⟨n43, hf⟩ := gds hf
  refine J_copyI dX0_copyFrom_79 tk_377 tk_371 tk_370 tk_16 k41 k42 (by decide) (by decide) (by decide) n43.1 n43.2 (by decide) (Nat.le_of_ble_eq_true rfl) ?_
  obtain ⟨h44, eh44, hf⟩ := bls hf
  refine J_h eh44 ?_
  refine J_aload_n dX0_copyFrom_82 rfl rfl ?_
  have k45 : kd h44 a1 = 1 := by rw [eh44]; exact k37
  obtain ⟨b46, rb46, hf⟩ := rfs hf
  refine G_0_6 dX0_copyFrom_83 tk_108 k45 rb46 ?_
  refine J_iconst (v := 0) dX0_copyFrom_86 (by decide) ?_
  refine J_aload_n dX0_copyFrom_87 rfl rfl ?_
  have k47 : kd h44 a0 = 1 := by rw [eh44]; exact k39
  obtain ⟨b48, rb48, hf⟩ := rfs hf
  refine G_0_6 dX0_copyFrom_88 tk_108 k47 rb48 ?_
  refine J_iconst (v := 0) dX0_copyFrom_91 (by decide) ?_
  refine J_bipush (v := 10) dX0_copyFrom_92 (by decide) ?_
  obtain ⟨k49, hf⟩ := gds hf
  obtain ⟨k50, hf⟩ := gds hf
  obtain ⟨n51, hf⟩ := gds hf
  refine J_copyI dX0_copyFrom_94 tk_377 tk_371 tk_370 tk_16 k49 k50 (by decide) (by decide) (by decide) n51.1 n51.2 (by decide) (Nat.le_of_ble_eq_true rfl) ?_
  obtain ⟨h52, eh52, hf⟩ := bls hf
  refine J_h eh52 ?_
  refine J_aload_n dX0_copyFrom_97 rfl rfl ?_
  have k53 : kd h52 a1 = 1 := by rw [eh52]; exact k45
  obtain ⟨b54, rb54, hf⟩ := rfs hf
  refine G_0_7 dX0_copyFrom_98 tk_110 k53 rb54 ?_
  refine J_iconst (v := 0) dX0_copyFrom_101 (by decide) ?_
  refine J_aload_n dX0_copyFrom_102 rfl rfl ?_
  have k55 : kd h52 a0 = 1 := by rw [eh52]; exact k47
  obtain ⟨b56, rb56, hf⟩ := rfs hf
  refine G_0_7 dX0_copyFrom_103 tk_110 k55 rb56 ?_
  refine J_iconst (v := 0) dX0_copyFrom_106 (by decide) ?_
  refine J_bipush (v := 10) dX0_copyFrom_107 (by decide) ?_
  obtain ⟨k57, hf⟩ := gds hf
  obtain ⟨k58, hf⟩ := gds hf
  obtain ⟨n59, hf⟩ := gds hf
  refine J_copyI dX0_copyFrom_109 tk_377 tk_371 tk_370 tk_16 k57 k58 (by decide) (by decide) (by decide) n59.1 n59.2 (by decide) (Nat.le_of_ble_eq_true rfl) ?_
  obtain ⟨h60, eh60, hf⟩ := bls hf
  refine J_h eh60 ?_
  refine J_aload_n dX0_copyFrom_112 rfl rfl ?_
  refine J_aload_n dX0_copyFrom_113 rfl rfl ?_
  have k61 : kd h60 a1 = 1 := by rw [eh60]; exact k53
  refine G_0_8 dX0_copyFrom_114 tk_112 k61 ?_
  have k62 : kd h60 a0 = 1 := by rw [eh60]; exact k55
  refine P_0_8 dX0_copyFrom_117 tk_112 k62 ?_
  obtain ⟨h63, eh63, hf⟩ := bls hf
  refine J_h eh63 ?_
  refine J_aload_n dX0_copyFrom_120 rfl rfl ?_
  refine J_aload_n dX0_copyFrom_121 rfl rfl ?_
  have k64 : kd h63 a1 = 1 := by rw [eh63]; exact k61
  refine G_0_9 dX0_copyFrom_122 tk_114 k64 ?_
  have k65 : kd h63 a0 = 1 := by rw [eh63]; exact k62
  refine P_0_9 dX0_copyFrom_125 tk_114 k65 ?_
  obtain ⟨h66, eh66, hf⟩ := bls hf
  refine J_h eh66 ?_
  refine J_aload_n dX0_copyFrom_128 rfl rfl ?_
  refine J_aload_n dX0_copyFrom_129 rfl rfl ?_
  have k67 : kd h66 a1 = 1 := by rw [eh66]; exact k64
  refine G_0_10 dX0_copyFrom_130 tk_118 k67 ?_
  have k68 : kd h66 a0 = 1 := by rw [eh66]; exact k65
  refine P_0_10 dX0_copyFrom_133 tk_118 k68 ?_
  obtain ⟨h69, eh69, hf⟩ := bls hf
  refine J_h eh69 ?_
  refine J_aload_n dX0_copyFrom_136 rfl rfl ?_
  refine J_aload_n dX0_copyFrom_137 rfl rfl ?_
  have k70 : kd h69 a1 = 1 := by rw [eh69]; exact k67
  refine G_0_11 dX0_copyFrom_138 tk_121 k70 ?_
  have k71 : kd h69 a0 = 1 := by rw [eh69]; exact k68
  refine P_0_11 dX0_copyFrom_141 tk_121 k71 ?_
  obtain ⟨h72, eh72, hf⟩ := bls hf
  refine J_h eh72 ?_
  refine J_aload_n dX0_copyFrom_144 rfl rfl ?_
  refine J_aload_n dX0_copyFrom_145 rfl rfl ?_
  have k73 : kd h72 a1 = 1 := by rw [eh72]; exact k70
  refine G_0_12 dX0_copyFrom_146 tk_122 k73 ?_
  have k74 : kd h72 a0 = 1 := by rw [eh72]; exact k71
  refine P_0_12 dX0_copyFrom_149 tk_122 k74 ?_
  obtain ⟨h75, eh75, hf⟩ := bls hf
  refine J_h eh75 ?_
  refine J_aload_n dX0_copyFrom_152 rfl rfl ?_
  refine J_aload_n dX0_copyFrom_153 rfl rfl ?_
  have k76 : kd h75 a1 = 1 := by rw [eh75]; exact k73
  refine G_0_13 dX0_copyFrom_154 tk_125 k76 ?_
  have k77 : kd h75 a0 = 1 := by rw [eh75]; exact k74
  refine P_0_13 dX0_copyFrom_157 tk_125 k77 ?_
  obtain ⟨h78, eh78, hf⟩ := bls hf
  refine J_h eh78 ?_
  cases hf
  exact J_vretN dX0_copyFrom_160 rfl (by decide) (by decide)
theorem mX0_copyFrom {g : JG} (hst : (jl g).stackTraces = false) {a0 : Nat} {a1 : Nat} {z : Nat} {h : AH} {o : Nat × AH} (hf : fX0_copyFrom a0 a1 z h = some o) : jMet g yX0_copyFrom (wj yX0_copyFrom cX0_copyFrom 2 none) rmX0_copyFrom [.ref a0, .ref a1] z h (none, o.1, o.2) :=
  jMet_mk (by decide) (Nat.le_of_ble_eq_true rfl) [some (.ref a0), some (.ref a1)] rfl (wfX0_copyFrom hst hf)
def fX0_heldBy  (a0 : Nat) (x1 : Int32) (z : Nat) (h : AH) : Option (Int32 × Nat × AH) :=
  gd (kd h a0 = 1) (bd3 (fX0_has a0 x1 z h) (fun vo2 zo2 ho2h => (if vo2 = 0 then (some (0, zo2, ho2h)) else (gd (kd ho2h a0 = 1) (Option.bind (rv ho2h a0 5) (fun b5 => gd (kd ho2h b5 = 13) (gd (¬ ((x1 : Int32) < 0 ∨ ln ho2h b5 ≤ Int32.toNatClampNeg x1)) (bd3 (fJ6_bitCount_0f7a4 (iv ho2h b5 (Int32.toNatClampNeg x1)) zo2 ho2h) (fun vo8 zo8 ho8h => some (vo8, zo8, ho8h))))))))))
theorem wfX0_heldBy {g : JG} (hst : (jl g).stackTraces = false)   {a0 : Nat} {x1 : Int32} {z : Nat} {h : AH} {o : Int32 × Nat × AH} (hf : fX0_heldBy  a0 x1 z h = some o) : J g MX0_heldBy (jN g (some (.int o.1), o.2.1, o.2.2) rmX0_heldBy.cells rmX0_heldBy.slots) 0 [some (.ref a0), some (.int x1)] [] z h 0 0 := by
  unfold fX0_heldBy at hf
  refine J_aload_n dX0_heldBy_0 rfl rfl ?_
  refine J_iload_n dX0_heldBy_1 rfl rfl ?_
  obtain ⟨k1, hf⟩ := gds hf
  obtain ⟨vo2, zo2, ho2h, ho2, hf⟩ := rfs3 hf
  refine CV1i dX0_heldBy_2 (mX0_has hst ho2) tk_386 iX0_has k1 (by decide) rfl ⟨by decide, by decide⟩ ⟨by decide, by decide⟩ (Nat.le_of_ble_eq_true rfl) ?_
  rcases br hf with ⟨c3, hf⟩ | ⟨c3, hf⟩
  · refine J_if_eq (tgt := 20) dX0_heldBy_5 (by decide) (fun _ => ?_) (fun w => absurd c3 w)
    refine J_iconst (v := 0) dX0_heldBy_20 (by decide) ?_
    cases hf
    exact J_iretN dX0_heldBy_21 rfl (by decide) (by decide)
  · refine J_if_eq (tgt := 20) dX0_heldBy_5 (by decide) (fun w => absurd w c3) (fun _ => ?_)
    refine J_aload_n dX0_heldBy_8 rfl rfl ?_
    obtain ⟨k4, hf⟩ := gds hf
    obtain ⟨b5, rb5, hf⟩ := rfs hf
    refine G_0_5 dX0_heldBy_9 tk_105 k4 rb5 ?_
    refine J_iload_n dX0_heldBy_12 rfl rfl ?_
    obtain ⟨k6, hf⟩ := gds hf
    obtain ⟨n7, hf⟩ := gds hf
    refine J_iaload dX0_heldBy_13 k6 n7 ?_
    obtain ⟨vo8, zo8, ho8h, ho8, hf⟩ := rfs3 hf
    refine CS1i (host := "") dX0_heldBy_14 (mJ6_bitCount_0f7a4 hst ho8) tk_701 iJ6_bitCount_0f7a4 ⟨by decide, by decide⟩ ⟨by decide, by decide⟩ (Nat.le_of_ble_eq_true rfl) ?_
    refine J_goto (tgt := 21) dX0_heldBy_17 (by decide) ?_
    cases hf
    exact J_iretN dX0_heldBy_21 rfl (by decide) (by decide)
theorem mX0_heldBy {g : JG} (hst : (jl g).stackTraces = false) {a0 : Nat} {x1 : Int32} {z : Nat} {h : AH} {o : Int32 × Nat × AH} (hf : fX0_heldBy a0 x1 z h = some o) : jMet g yX0_heldBy (wj yX0_heldBy cX0_heldBy 2 (some .int)) rmX0_heldBy [.ref a0, .int x1] z h (some (.int o.1), o.2.1, o.2.2) :=
  jMet_mk (by decide) (Nat.le_of_ble_eq_true rfl) [some (.ref a0), some (.int x1)] rfl (wfX0_heldBy hst hf)
def bX0_leaveOrder_49  (a0 : Nat) (x2 : Int32) (z : Nat) (h : AH) : Option (Nat × AH) :=
  gd (kd h a0 = 1) (bl (wI h a0 8 x2) (fun h2 => some (z, h2)))
def bX0_leaveOrder_43 (q4 : Nat → Int32 → Int32 → Int32 → Nat → AH → Option (Nat × AH)) (a0 : Nat) (x1 : Int32) (x2 : Int32) (x3 : Int32) (z : Nat) (h : AH) : Option (Nat × AH) :=
  q4 a0 x1 x2 (x3 + 1) z h
def lX0_leaveOrder_4B  (q4 : Nat → Int32 → Int32 → Int32 → Nat → AH → Option (Nat × AH)) (a0 : Nat) (x1 : Int32) (x2 : Int32) (x3 : Int32) (z : Nat) (h : AH) : Option (Nat × AH) :=
  gd (kd h a0 = 1) ((if (iv h a0 8) ≤ x3 then (bX0_leaveOrder_49  a0 x2 z h) else ((if 10 ≤ x3 then (bX0_leaveOrder_49  a0 x2 z h) else (Option.bind (rv h a0 7) (fun b4 => gd (kd h b4 = 13) (gd (¬ ((x3 : Int32) < 0 ∨ ln h b4 ≤ Int32.toNatClampNeg x3)) ((if (iv h b4 (Int32.toNatClampNeg x3)) = x1 then (bX0_leaveOrder_43 q4 a0 x1 x2 x3 z h) else (Option.bind (rv h a0 7) (fun b8 => Option.bind (rv h a0 7) (fun b9 => gd (kd h b9 = 13) (gd (¬ ((x3 : Int32) < 0 ∨ ln h b9 ≤ Int32.toNatClampNeg x3)) (gd (kd h b8 = 13) (gd (¬ ((x2 : Int32) < 0 ∨ ln h b8 ≤ Int32.toNatClampNeg x2)) (bl (wI h b8 (Int32.toNatClampNeg x2) (iv h b9 (Int32.toNatClampNeg x3))) (fun h14 => bX0_leaveOrder_43 q4 a0 x1 (x2 + 1) x3 z h14)))))))))))))))))
def lX0_leaveOrder_4  : Nat → Nat → Int32 → Int32 → Int32 → Nat → AH → Option (Nat × AH)
  | 0 => fun _ _ _ _ _ _ => none
  | fuel + 1 => lX0_leaveOrder_4B  (lX0_leaveOrder_4  fuel)
def fX0_leaveOrder  (a0 : Nat) (x1 : Int32) (z : Nat) (h : AH) : Option (Nat × AH) :=
  lX0_leaveOrder_4  fu a0 x1 0 0 z h
theorem wbX0_leaveOrder_49 {g : JG} (hst : (jl g).stackTraces = false)   {a0 : Nat} {x2 : Int32} {z : Nat} {h : AH} {o : Nat × AH} (hf : bX0_leaveOrder_49  a0 x2 z h = some o) : J g MX0_leaveOrder (jN g (none, o.1, o.2) rmX0_leaveOrder.cells rmX0_leaveOrder.slots) 49 [some (.ref a0), none, some (.int x2), none] [] z h 0 0 := by
  unfold bX0_leaveOrder_49 at hf
  refine J_aload_n dX0_leaveOrder_49 rfl rfl ?_
  refine J_iload_n dX0_leaveOrder_50 rfl rfl ?_
  obtain ⟨k1, hf⟩ := gds hf
  refine P_0_8 dX0_leaveOrder_51 tk_112 k1 ?_
  obtain ⟨h2, eh2, hf⟩ := bls hf
  refine J_h eh2 ?_
  cases hf
  exact J_vretN dX0_leaveOrder_54 rfl (by decide) (by decide)
theorem wbX0_leaveOrder_43 {g : JG} (hst : (jl g).stackTraces = false) (q4 : Nat → Int32 → Int32 → Int32 → Nat → AH → Option (Nat × AH)) (hq4 : ∀ (a0 : Nat) (x1 : Int32) (x2 : Int32) (x3 : Int32) (z : Nat) (h : AH) (o : Nat × AH), q4 a0 x1 x2 x3 z h = some o → J g MX0_leaveOrder (jN g (none, o.1, o.2) rmX0_leaveOrder.cells rmX0_leaveOrder.slots) 4 [some (.ref a0), some (.int x1), some (.int x2), some (.int x3)] [] z h 0 0) {a0 : Nat} {x1 : Int32} {x2 : Int32} {x3 : Int32} {z : Nat} {h : AH} {o : Nat × AH} (hf : bX0_leaveOrder_43 q4 a0 x1 x2 x3 z h = some o) : J g MX0_leaveOrder (jN g (none, o.1, o.2) rmX0_leaveOrder.cells rmX0_leaveOrder.slots) 43 [some (.ref a0), some (.int x1), some (.int x2), some (.int x3)] [] z h 0 0 := by
  unfold bX0_leaveOrder_43 at hf
  refine S_iinc_3 (v := x3 + 1) dX0_leaveOrder_43 (congrArg (fun w => x3 + w) (by decide)) rfl (by decide) ?_
  refine J_goto (tgt := 4) dX0_leaveOrder_46 (by decide) ?_
  refine J.sub (jsub_s (jsub_s (jsub_s (jsub_s (jsub_nil _))))) ?_
  exact hq4 _ _ _ _ _ _ _ hf
theorem wlX0_leaveOrder_4 {g : JG} (hst : (jl g).stackTraces = false)   : ∀ (fuel : Nat) (a0 : Nat) (x1 : Int32) (x2 : Int32) (x3 : Int32) (z : Nat) (h : AH) (o : Nat × AH), lX0_leaveOrder_4  fuel a0 x1 x2 x3 z h = some o → J g MX0_leaveOrder (jN g (none, o.1, o.2) rmX0_leaveOrder.cells rmX0_leaveOrder.slots) 4 [some (.ref a0), some (.int x1), some (.int x2), some (.int x3)] [] z h 0 0 := by
  intro fuel
  induction fuel with
  | zero => intro a0 x1 x2 x3 z h o hf; cases hf
  | succ fuel ih =>
    intro a0 x1 x2 x3 z h o hf
    have hq4 := ih
    have hf : lX0_leaveOrder_4B  (lX0_leaveOrder_4  fuel) a0 x1 x2 x3 z h = some o := hf
    generalize lX0_leaveOrder_4  fuel = q4 at hf hq4
    unfold lX0_leaveOrder_4B at hf
    refine J_iload_n dX0_leaveOrder_4 rfl rfl ?_
    refine J_aload_n dX0_leaveOrder_5 rfl rfl ?_
    obtain ⟨k1, hf⟩ := gds hf
    refine G_0_8 dX0_leaveOrder_6 tk_112 k1 ?_
    rcases br hf with ⟨c2, hf⟩ | ⟨c2, hf⟩
    · refine J_icmp_ge (tgt := 49) dX0_leaveOrder_9 (by decide) (fun _ => ?_) (fun w => absurd c2 w)
      refine J.sub (jsub_s (jsub_n (jsub_s (jsub_n (jsub_nil _))))) ?_
      exact wbX0_leaveOrder_49 hst   hf
    · refine J_icmp_ge (tgt := 49) dX0_leaveOrder_9 (by decide) (fun w => absurd w c2) (fun _ => ?_)
      refine J_iload_n dX0_leaveOrder_12 rfl rfl ?_
      refine J_bipush (v := 10) dX0_leaveOrder_13 (by decide) ?_
      rcases br hf with ⟨c3, hf⟩ | ⟨c3, hf⟩
      · refine J_icmp_ge (tgt := 49) dX0_leaveOrder_15 (by decide) (fun _ => ?_) (fun w => absurd c3 w)
        refine J.sub (jsub_s (jsub_n (jsub_s (jsub_n (jsub_nil _))))) ?_
        exact wbX0_leaveOrder_49 hst   hf
      · refine J_icmp_ge (tgt := 49) dX0_leaveOrder_15 (by decide) (fun w => absurd w c3) (fun _ => ?_)
        refine J_aload_n dX0_leaveOrder_18 rfl rfl ?_
        obtain ⟨b4, rb4, hf⟩ := rfs hf
        refine G_0_7 dX0_leaveOrder_19 tk_110 k1 rb4 ?_
        refine J_iload_n dX0_leaveOrder_22 rfl rfl ?_
        obtain ⟨k5, hf⟩ := gds hf
        obtain ⟨n6, hf⟩ := gds hf
        refine J_iaload dX0_leaveOrder_23 k5 n6 ?_
        refine J_iload_n dX0_leaveOrder_24 rfl rfl ?_
        rcases br hf with ⟨c7, hf⟩ | ⟨c7, hf⟩
        · refine J_icmp_eq (tgt := 43) dX0_leaveOrder_25 (by decide) (fun _ => ?_) (fun w => absurd c7 w)
          refine J.sub (jsub_s (jsub_s (jsub_s (jsub_s (jsub_nil _))))) ?_
          exact wbX0_leaveOrder_43 hst _ hq4 hf
        · refine J_icmp_eq (tgt := 43) dX0_leaveOrder_25 (by decide) (fun w => absurd w c7) (fun _ => ?_)
          refine J_aload_n dX0_leaveOrder_28 rfl rfl ?_
          obtain ⟨b8, rb8, hf⟩ := rfs hf
          refine G_0_7 dX0_leaveOrder_29 tk_110 k1 rb8 ?_
          refine J_iload_n dX0_leaveOrder_32 rfl rfl ?_
          refine J_aload_n dX0_leaveOrder_33 rfl rfl ?_
          obtain ⟨b9, rb9, hf⟩ := rfs hf
          refine G_0_7 dX0_leaveOrder_34 tk_110 k1 rb9 ?_
          refine J_iload_n dX0_leaveOrder_37 rfl rfl ?_
          obtain ⟨k10, hf⟩ := gds hf
          obtain ⟨n11, hf⟩ := gds hf
          refine J_iaload dX0_leaveOrder_38 k10 n11 ?_
          obtain ⟨k12, hf⟩ := gds hf
          obtain ⟨n13, hf⟩ := gds hf
          refine J_iastore dX0_leaveOrder_39 k12 n13 ?_
          obtain ⟨h14, eh14, hf⟩ := bls hf
          refine J_h eh14 ?_
          refine S_iinc_2 (v := x2 + 1) dX0_leaveOrder_40 (congrArg (fun w => x2 + w) (by decide)) rfl (by decide) ?_
          refine J.sub (jsub_s (jsub_s (jsub_s (jsub_s (jsub_nil _))))) ?_
          exact wbX0_leaveOrder_43 hst _ hq4 hf
theorem wfX0_leaveOrder {g : JG} (hst : (jl g).stackTraces = false)   {a0 : Nat} {x1 : Int32} {z : Nat} {h : AH} {o : Nat × AH} (hf : fX0_leaveOrder  a0 x1 z h = some o) : J g MX0_leaveOrder (jN g (none, o.1, o.2) rmX0_leaveOrder.cells rmX0_leaveOrder.slots) 0 [some (.ref a0), some (.int x1), none, none] [] z h 0 0 := by
  unfold fX0_leaveOrder at hf
  refine J_iconst (v := 0) dX0_leaveOrder_0 (by decide) ?_
  refine S_istore_n_2 dX0_leaveOrder_1 rfl (by decide) ?_
  refine J_iconst (v := 0) dX0_leaveOrder_2 (by decide) ?_
  refine S_istore_n_3 dX0_leaveOrder_3 rfl (by decide) ?_
  refine J.sub (jsub_s (jsub_s (jsub_s (jsub_s (jsub_nil _))))) ?_
  exact wlX0_leaveOrder_4 hst   _ _ _ _ _ _ _ _ hf
theorem mX0_leaveOrder {g : JG} (hst : (jl g).stackTraces = false) {a0 : Nat} {x1 : Int32} {z : Nat} {h : AH} {o : Nat × AH} (hf : fX0_leaveOrder a0 x1 z h = some o) : jMet g yX0_leaveOrder (wj yX0_leaveOrder cX0_leaveOrder 4 none) rmX0_leaveOrder [.ref a0, .int x1] z h (none, o.1, o.2) :=
  jMet_mk (by decide) (Nat.le_of_ble_eq_true rfl) [some (.ref a0), some (.int x1), none, none] rfl (wfX0_leaveOrder hst hf)
def fX0_strike  (a0 : Nat) (x1 : Int32) (z : Nat) (h : AH) : Option (Nat × AH) :=
  gd (kd h a0 = 1) (bd3 (fX0_has a0 x1 z h) (fun vo2 zo2 ho2h => (if vo2 = 0 then (some (zo2, ho2h)) else (gd (kd ho2h a0 = 1) (bd2 (fX0_leaveOrder a0 x1 zo2 ho2h) (fun zo5 ho5h => gd (kd ho5h a0 = 1) (Option.bind (rv ho5h a0 5) (fun b7 => gd (kd ho5h b7 = 13) (gd (¬ ((x1 : Int32) < 0 ∨ ln ho5h b7 ≤ Int32.toNatClampNeg x1)) (bl (wI ho5h b7 (Int32.toNatClampNeg x1) 0) (fun h10 => Option.bind (rv h10 a0 6) (fun b12 => gd (kd h10 b12 = 13) (gd (¬ ((x1 : Int32) < 0 ∨ ln h10 b12 ≤ Int32.toNatClampNeg x1)) (bl (wI h10 b12 (Int32.toNatClampNeg x1) (-1)) (fun h15 => Option.bind (rv h15 a0 4) (fun b17 => gd (kd h15 b17 = 13) (gd (¬ ((x1 : Int32) < 0 ∨ ln h15 b17 ≤ Int32.toNatClampNeg x1)) (bl (wI h15 b17 (Int32.toNatClampNeg x1) 2) (fun h20 => some (zo5, h20))))))))))))))))))))
theorem wfX0_strike {g : JG} (hst : (jl g).stackTraces = false)   {a0 : Nat} {x1 : Int32} {z : Nat} {h : AH} {o : Nat × AH} (hf : fX0_strike  a0 x1 z h = some o) : J g MX0_strike (jN g (none, o.1, o.2) rmX0_strike.cells rmX0_strike.slots) 0 [some (.ref a0), some (.int x1)] [] z h 0 0 := by
  unfold fX0_strike at hf
  refine J_aload_n dX0_strike_0 rfl rfl ?_
  refine J_iload_n dX0_strike_1 rfl rfl ?_
  obtain ⟨k1, hf⟩ := gds hf
  obtain ⟨vo2, zo2, ho2h, ho2, hf⟩ := rfs3 hf
  refine CV1i dX0_strike_2 (mX0_has hst ho2) tk_386 iX0_has k1 (by decide) rfl ⟨by decide, by decide⟩ ⟨by decide, by decide⟩ (Nat.le_of_ble_eq_true rfl) ?_
  rcases br hf with ⟨c3, hf⟩ | ⟨c3, hf⟩
  · refine J_if_eq (tgt := 34) dX0_strike_5 (by decide) (fun _ => ?_) (fun w => absurd c3 w)
    cases hf
    exact J_vretN dX0_strike_34 rfl (by decide) (by decide)
  · refine J_if_eq (tgt := 34) dX0_strike_5 (by decide) (fun w => absurd w c3) (fun _ => ?_)
    refine J_aload_n dX0_strike_8 rfl rfl ?_
    refine J_iload_n dX0_strike_9 rfl rfl ?_
    obtain ⟨k4, hf⟩ := gds hf
    obtain ⟨zo5, ho5h, ho5, hf⟩ := rfs2 hf
    refine CV1v dX0_strike_10 (mX0_leaveOrder hst ho5) tk_662 iX0_leaveOrder k4 (by decide) rfl ⟨by decide, by decide⟩ ⟨by decide, by decide⟩ (Nat.le_of_ble_eq_true rfl) ?_
    refine J_aload_n dX0_strike_13 rfl rfl ?_
    obtain ⟨k6, hf⟩ := gds hf
    obtain ⟨b7, rb7, hf⟩ := rfs hf
    refine G_0_5 dX0_strike_14 tk_105 k6 rb7 ?_
    refine J_iload_n dX0_strike_17 rfl rfl ?_
    refine J_iconst (v := 0) dX0_strike_18 (by decide) ?_
    obtain ⟨k8, hf⟩ := gds hf
    obtain ⟨n9, hf⟩ := gds hf
    refine J_iastore dX0_strike_19 k8 n9 ?_
    obtain ⟨h10, eh10, hf⟩ := bls hf
    refine J_h eh10 ?_
    refine J_aload_n dX0_strike_20 rfl rfl ?_
    have k11 : kd h10 a0 = 1 := by rw [eh10]; exact k6
    obtain ⟨b12, rb12, hf⟩ := rfs hf
    refine G_0_6 dX0_strike_21 tk_108 k11 rb12 ?_
    refine J_iload_n dX0_strike_24 rfl rfl ?_
    refine J_iconst (v := (-1)) dX0_strike_25 (by decide) ?_
    obtain ⟨k13, hf⟩ := gds hf
    obtain ⟨n14, hf⟩ := gds hf
    refine J_iastore dX0_strike_26 k13 n14 ?_
    obtain ⟨h15, eh15, hf⟩ := bls hf
    refine J_h eh15 ?_
    refine J_aload_n dX0_strike_27 rfl rfl ?_
    have k16 : kd h15 a0 = 1 := by rw [eh15]; exact k11
    obtain ⟨b17, rb17, hf⟩ := rfs hf
    refine G_0_4 dX0_strike_28 tk_102 k16 rb17 ?_
    refine J_iload_n dX0_strike_31 rfl rfl ?_
    refine J_iconst (v := 2) dX0_strike_32 (by decide) ?_
    obtain ⟨k18, hf⟩ := gds hf
    obtain ⟨n19, hf⟩ := gds hf
    refine J_iastore dX0_strike_33 k18 n19 ?_
    obtain ⟨h20, eh20, hf⟩ := bls hf
    refine J_h eh20 ?_
    cases hf
    exact J_vretN dX0_strike_34 rfl (by decide) (by decide)
theorem mX0_strike {g : JG} (hst : (jl g).stackTraces = false) {a0 : Nat} {x1 : Int32} {z : Nat} {h : AH} {o : Nat × AH} (hf : fX0_strike a0 x1 z h = some o) : jMet g yX0_strike (wj yX0_strike cX0_strike 2 none) rmX0_strike [.ref a0, .int x1] z h (none, o.1, o.2) :=
  jMet_mk (by decide) (Nat.le_of_ble_eq_true rfl) [some (.ref a0), some (.int x1)] rfl (wfX0_strike hst hf)
def bX0_holdersInWay_72 (q38 : Nat → Int32 → Int32 → Int32 → Int32 → Nat → AH → Option (Int32 × Nat × AH)) (a0 : Nat) (x1 : Int32) (x3 : Int32) (x4 : Int32) (x5 : Int32) (z : Nat) (h : AH) : Option (Int32 × Nat × AH) :=
  q38 a0 x1 x3 x4 (x5 + 1) z h
def lX0_holdersInWay_38B  (q38 : Nat → Int32 → Int32 → Int32 → Int32 → Nat → AH → Option (Int32 × Nat × AH)) (a0 : Nat) (x1 : Int32) (x3 : Int32) (x4 : Int32) (x5 : Int32) (z : Nat) (h : AH) : Option (Int32 × Nat × AH) :=
  (if 10 ≤ x5 then (some (x4, z, h)) else ((if x5 = x1 then (bX0_holdersInWay_72 q38 a0 x1 x3 x4 x5 z h) else (gd (kd h a0 = 1) (Option.bind (rv h a0 5) (fun b4 => gd (kd h b4 = 13) (gd (¬ ((x5 : Int32) < 0 ∨ ln h b4 ≤ Int32.toNatClampNeg x5)) ((if ((iv h b4 (Int32.toNatClampNeg x5)) &&& x3) = 0 then (bX0_holdersInWay_72 q38 a0 x1 x3 x4 x5 z h) else (bl ((x4 ||| (1 <<< (x5 &&& 31)))) (fun v8 => bX0_holdersInWay_72 q38 a0 x1 x3 v8 x5 z h)))))))))))
def lX0_holdersInWay_38  : Nat → Nat → Int32 → Int32 → Int32 → Int32 → Nat → AH → Option (Int32 × Nat × AH)
  | 0 => fun _ _ _ _ _ _ _ => none
  | fuel + 1 => lX0_holdersInWay_38B  (lX0_holdersInWay_38  fuel)
def fX0_holdersInWay  (a0 : Nat) (x1 : Int32) (x2 : Int32) (z : Nat) (h : AH) : Option (Int32 × Nat × AH) :=
  (if x2 < 0 then (some (0, z, h)) else ((if x2 < 16 then (gd (kd h a0 = 1) (Option.bind (rv h a0 0) (fun b4 => gd (kd h b4 = 3) (Option.bind (rv h b4 1) (fun b6 => gd (kd h b6 = 13) (gd (¬ ((x2 : Int32) < 0 ∨ ln h b6 ≤ Int32.toNatClampNeg x2)) (Option.bind (rv h a0 0) (fun b9 => gd (kd h b9 = 3) (Option.bind (rv h b9 2) (fun b11 => gd (kd h b11 = 13) (gd (¬ ((x2 : Int32) < 0 ∨ ln h b11 ≤ Int32.toNatClampNeg x2)) (bl (((iv h b6 (Int32.toNatClampNeg x2)) ||| (iv h b11 (Int32.toNatClampNeg x2)))) (fun v14 => lX0_holdersInWay_38  fu a0 x1 v14 0 0 z h))))))))))))) else (some (0, z, h)))))
theorem wbX0_holdersInWay_72 {g : JG} (hst : (jl g).stackTraces = false) (q38 : Nat → Int32 → Int32 → Int32 → Int32 → Nat → AH → Option (Int32 × Nat × AH)) (hq38 : ∀ (a0 : Nat) (x1 : Int32) (x3 : Int32) (x4 : Int32) (x5 : Int32) (z : Nat) (h : AH) (o : Int32 × Nat × AH), q38 a0 x1 x3 x4 x5 z h = some o → J g MX0_holdersInWay (jN g (some (.int o.1), o.2.1, o.2.2) rmX0_holdersInWay.cells rmX0_holdersInWay.slots) 38 [some (.ref a0), some (.int x1), none, some (.int x3), some (.int x4), some (.int x5)] [] z h 0 0) {a0 : Nat} {x1 : Int32} {x3 : Int32} {x4 : Int32} {x5 : Int32} {z : Nat} {h : AH} {o : Int32 × Nat × AH} (hf : bX0_holdersInWay_72 q38 a0 x1 x3 x4 x5 z h = some o) : J g MX0_holdersInWay (jN g (some (.int o.1), o.2.1, o.2.2) rmX0_holdersInWay.cells rmX0_holdersInWay.slots) 72 [some (.ref a0), some (.int x1), none, some (.int x3), some (.int x4), some (.int x5)] [] z h 0 0 := by
  unfold bX0_holdersInWay_72 at hf
  refine S_iinc_5 (v := x5 + 1) dX0_holdersInWay_72 (congrArg (fun w => x5 + w) (by decide)) rfl (by decide) ?_
  refine J_goto (tgt := 38) dX0_holdersInWay_75 (by decide) ?_
  refine J.sub (jsub_s (jsub_s (jsub_n (jsub_s (jsub_s (jsub_s (jsub_nil _))))))) ?_
  exact hq38 _ _ _ _ _ _ _ _ hf
theorem wlX0_holdersInWay_38 {g : JG} (hst : (jl g).stackTraces = false)   : ∀ (fuel : Nat) (a0 : Nat) (x1 : Int32) (x3 : Int32) (x4 : Int32) (x5 : Int32) (z : Nat) (h : AH) (o : Int32 × Nat × AH), lX0_holdersInWay_38  fuel a0 x1 x3 x4 x5 z h = some o → J g MX0_holdersInWay (jN g (some (.int o.1), o.2.1, o.2.2) rmX0_holdersInWay.cells rmX0_holdersInWay.slots) 38 [some (.ref a0), some (.int x1), none, some (.int x3), some (.int x4), some (.int x5)] [] z h 0 0 := by
  intro fuel
  induction fuel with
  | zero => intro a0 x1 x3 x4 x5 z h o hf; cases hf
  | succ fuel ih =>
    intro a0 x1 x3 x4 x5 z h o hf
    have hq38 := ih
    have hf : lX0_holdersInWay_38B  (lX0_holdersInWay_38  fuel) a0 x1 x3 x4 x5 z h = some o := hf
    generalize lX0_holdersInWay_38  fuel = q38 at hf hq38
    unfold lX0_holdersInWay_38B at hf
    refine J_iload dX0_holdersInWay_38 rfl ?_
    refine J_bipush (v := 10) dX0_holdersInWay_40 (by decide) ?_
    rcases br hf with ⟨c1, hf⟩ | ⟨c1, hf⟩
    · refine J_icmp_ge (tgt := 78) dX0_holdersInWay_42 (by decide) (fun _ => ?_) (fun w => absurd c1 w)
      refine J_iload dX0_holdersInWay_78 rfl ?_
      cases hf
      exact J_iretN dX0_holdersInWay_80 rfl (by decide) (by decide)
    · refine J_icmp_ge (tgt := 78) dX0_holdersInWay_42 (by decide) (fun w => absurd w c1) (fun _ => ?_)
      refine J_iload dX0_holdersInWay_45 rfl ?_
      refine J_iload_n dX0_holdersInWay_47 rfl rfl ?_
      rcases br hf with ⟨c2, hf⟩ | ⟨c2, hf⟩
      · refine J_icmp_eq (tgt := 72) dX0_holdersInWay_48 (by decide) (fun _ => ?_) (fun w => absurd c2 w)
        refine J.sub (jsub_s (jsub_s (jsub_n (jsub_s (jsub_s (jsub_s (jsub_nil _))))))) ?_
        exact wbX0_holdersInWay_72 hst _ hq38 hf
      · refine J_icmp_eq (tgt := 72) dX0_holdersInWay_48 (by decide) (fun w => absurd w c2) (fun _ => ?_)
        refine J_aload_n dX0_holdersInWay_51 rfl rfl ?_
        obtain ⟨k3, hf⟩ := gds hf
        obtain ⟨b4, rb4, hf⟩ := rfs hf
        refine G_0_5 dX0_holdersInWay_52 tk_105 k3 rb4 ?_
        refine J_iload dX0_holdersInWay_55 rfl ?_
        obtain ⟨k5, hf⟩ := gds hf
        obtain ⟨n6, hf⟩ := gds hf
        refine J_iaload dX0_holdersInWay_57 k5 n6 ?_
        refine J_iload_n dX0_holdersInWay_58 rfl rfl ?_
        refine J_iand dX0_holdersInWay_59 ?_
        rcases br hf with ⟨c7, hf⟩ | ⟨c7, hf⟩
        · refine J_if_eq (tgt := 72) dX0_holdersInWay_60 (by decide) (fun _ => ?_) (fun w => absurd c7 w)
          refine J.sub (jsub_s (jsub_s (jsub_n (jsub_s (jsub_s (jsub_s (jsub_nil _))))))) ?_
          exact wbX0_holdersInWay_72 hst _ hq38 hf
        · refine J_if_eq (tgt := 72) dX0_holdersInWay_60 (by decide) (fun w => absurd w c7) (fun _ => ?_)
          refine J_iload dX0_holdersInWay_63 rfl ?_
          refine J_iconst (v := 1) dX0_holdersInWay_65 (by decide) ?_
          refine J_iload dX0_holdersInWay_66 rfl ?_
          refine J_ishl dX0_holdersInWay_68 ?_
          refine J_ior dX0_holdersInWay_69 ?_
          obtain ⟨v8, ev8, hf⟩ := bls hf
          refine J_i ev8 ?_
          refine S_istore_4 dX0_holdersInWay_70 rfl (by decide) ?_
          refine J.sub (jsub_s (jsub_s (jsub_n (jsub_s (jsub_s (jsub_s (jsub_nil _))))))) ?_
          exact wbX0_holdersInWay_72 hst _ hq38 hf
theorem wfX0_holdersInWay {g : JG} (hst : (jl g).stackTraces = false)   {a0 : Nat} {x1 : Int32} {x2 : Int32} {z : Nat} {h : AH} {o : Int32 × Nat × AH} (hf : fX0_holdersInWay  a0 x1 x2 z h = some o) : J g MX0_holdersInWay (jN g (some (.int o.1), o.2.1, o.2.2) rmX0_holdersInWay.cells rmX0_holdersInWay.slots) 0 [some (.ref a0), some (.int x1), some (.int x2), none, none, none] [] z h 0 0 := by
  unfold fX0_holdersInWay at hf
  refine J_iload_n dX0_holdersInWay_0 rfl rfl ?_
  rcases br hf with ⟨c1, hf⟩ | ⟨c1, hf⟩
  · refine J_if_lt (tgt := 10) dX0_holdersInWay_1 (by decide) (fun _ => ?_) (fun w => absurd c1 w)
    refine J_iconst (v := 0) dX0_holdersInWay_10 (by decide) ?_
    cases hf
    exact J_iretN dX0_holdersInWay_11 rfl (by decide) (by decide)
  · refine J_if_lt (tgt := 10) dX0_holdersInWay_1 (by decide) (fun w => absurd w c1) (fun _ => ?_)
    refine J_iload_n dX0_holdersInWay_4 rfl rfl ?_
    refine J_bipush (v := 16) dX0_holdersInWay_5 (by decide) ?_
    rcases br hf with ⟨c2, hf⟩ | ⟨c2, hf⟩
    · refine J_icmp_lt (tgt := 12) dX0_holdersInWay_7 (by decide) (fun _ => ?_) (fun w => absurd c2 w)
      refine J_aload_n dX0_holdersInWay_12 rfl rfl ?_
      obtain ⟨k3, hf⟩ := gds hf
      obtain ⟨b4, rb4, hf⟩ := rfs hf
      refine G_0_0 dX0_holdersInWay_13 tk_91 k3 rb4 ?_
      obtain ⟨k5, hf⟩ := gds hf
      obtain ⟨b6, rb6, hf⟩ := rfs hf
      refine G_2_1 dX0_holdersInWay_16 tk_43 k5 rb6 ?_
      refine J_iload_n dX0_holdersInWay_19 rfl rfl ?_
      obtain ⟨k7, hf⟩ := gds hf
      obtain ⟨n8, hf⟩ := gds hf
      refine J_iaload dX0_holdersInWay_20 k7 n8 ?_
      refine J_aload_n dX0_holdersInWay_21 rfl rfl ?_
      obtain ⟨b9, rb9, hf⟩ := rfs hf
      refine G_0_0 dX0_holdersInWay_22 tk_91 k3 rb9 ?_
      obtain ⟨k10, hf⟩ := gds hf
      obtain ⟨b11, rb11, hf⟩ := rfs hf
      refine G_2_2 dX0_holdersInWay_25 tk_46 k10 rb11 ?_
      refine J_iload_n dX0_holdersInWay_28 rfl rfl ?_
      obtain ⟨k12, hf⟩ := gds hf
      obtain ⟨n13, hf⟩ := gds hf
      refine J_iaload dX0_holdersInWay_29 k12 n13 ?_
      refine J_ior dX0_holdersInWay_30 ?_
      obtain ⟨v14, ev14, hf⟩ := bls hf
      refine J_i ev14 ?_
      refine S_istore_n_3 dX0_holdersInWay_31 rfl (by decide) ?_
      refine J_iconst (v := 0) dX0_holdersInWay_32 (by decide) ?_
      refine S_istore_4 dX0_holdersInWay_33 rfl (by decide) ?_
      refine J_iconst (v := 0) dX0_holdersInWay_35 (by decide) ?_
      refine S_istore_5 dX0_holdersInWay_36 rfl (by decide) ?_
      refine J.sub (jsub_s (jsub_s (jsub_n (jsub_s (jsub_s (jsub_s (jsub_nil _))))))) ?_
      exact wlX0_holdersInWay_38 hst   _ _ _ _ _ _ _ _ _ hf
    · refine J_icmp_lt (tgt := 12) dX0_holdersInWay_7 (by decide) (fun w => absurd w c2) (fun _ => ?_)
      refine J_iconst (v := 0) dX0_holdersInWay_10 (by decide) ?_
      cases hf
      exact J_iretN dX0_holdersInWay_11 rfl (by decide) (by decide)
theorem mX0_holdersInWay {g : JG} (hst : (jl g).stackTraces = false) {a0 : Nat} {x1 : Int32} {x2 : Int32} {z : Nat} {h : AH} {o : Int32 × Nat × AH} (hf : fX0_holdersInWay a0 x1 x2 z h = some o) : jMet g yX0_holdersInWay (wj yX0_holdersInWay cX0_holdersInWay 6 (some .int)) rmX0_holdersInWay [.ref a0, .int x1, .int x2] z h (some (.int o.1), o.2.1, o.2.2) :=
  jMet_mk (by decide) (Nat.le_of_ble_eq_true rfl) [some (.ref a0), some (.int x1), some (.int x2), none, none, none] rfl (wfX0_holdersInWay hst hf)
def fX0_grant  (a0 : Nat) (x1 : Int32) (x2 : Int32) (z : Nat) (h : AH) : Option (Nat × AH) :=
  gd (kd h a0 = 1) (bd3 (fX0_has a0 x1 z h) (fun vo2 zo2 ho2h => (if vo2 = 0 then (some (zo2, ho2h)) else (gd (kd ho2h a0 = 1) (Option.bind (rv ho2h a0 0) (fun b5 => gd (kd ho2h b5 = 3) (bd3 (fX2_has b5 x2 zo2 ho2h) (fun vo7 zo7 ho7h => (if vo7 = 0 then (some (zo7, ho7h)) else (gd (kd ho7h a0 = 1) (Option.bind (rv ho7h a0 5) (fun b10 => gd (kd ho7h b10 = 13) (gd (¬ ((x1 : Int32) < 0 ∨ ln ho7h b10 ≤ Int32.toNatClampNeg x1)) (gd (¬ ((x1 : Int32) < 0 ∨ ln ho7h b10 ≤ Int32.toNatClampNeg x1)) (bl (wI ho7h b10 (Int32.toNatClampNeg x1) ((iv ho7h b10 (Int32.toNatClampNeg x1)) ||| (1 <<< (x2 &&& 31)))) (fun h14 => Option.bind (rv h14 a0 4) (fun b16 => gd (kd h14 b16 = 13) (gd (¬ ((x1 : Int32) < 0 ∨ ln h14 b16 ≤ Int32.toNatClampNeg x1)) (bl (wI h14 b16 (Int32.toNatClampNeg x1) 0) (fun h19 => Option.bind (rv h19 a0 6) (fun b21 => gd (kd h19 b21 = 13) (gd (¬ ((x1 : Int32) < 0 ∨ ln h19 b21 ≤ Int32.toNatClampNeg x1)) (bl (wI h19 b21 (Int32.toNatClampNeg x1) (-1)) (fun h24 => some (zo7, h24)))))))))))))))))))))))))
theorem wfX0_grant {g : JG} (hst : (jl g).stackTraces = false)   {a0 : Nat} {x1 : Int32} {x2 : Int32} {z : Nat} {h : AH} {o : Nat × AH} (hf : fX0_grant  a0 x1 x2 z h = some o) : J g MX0_grant (jN g (none, o.1, o.2) rmX0_grant.cells rmX0_grant.slots) 0 [some (.ref a0), some (.int x1), some (.int x2)] [] z h 0 0 := by
  unfold fX0_grant at hf
  refine J_aload_n dX0_grant_0 rfl rfl ?_
  refine J_iload_n dX0_grant_1 rfl rfl ?_
  obtain ⟨k1, hf⟩ := gds hf
  obtain ⟨vo2, zo2, ho2h, ho2, hf⟩ := rfs3 hf
  refine CV1i dX0_grant_2 (mX0_has hst ho2) tk_386 iX0_has k1 (by decide) rfl ⟨by decide, by decide⟩ ⟨by decide, by decide⟩ (Nat.le_of_ble_eq_true rfl) ?_
  rcases br hf with ⟨c3, hf⟩ | ⟨c3, hf⟩
  · refine J_if_eq (tgt := 45) dX0_grant_5 (by decide) (fun _ => ?_) (fun w => absurd c3 w)
    cases hf
    exact J_vretN dX0_grant_45 rfl (by decide) (by decide)
  · refine J_if_eq (tgt := 45) dX0_grant_5 (by decide) (fun w => absurd w c3) (fun _ => ?_)
    refine J_aload_n dX0_grant_8 rfl rfl ?_
    obtain ⟨k4, hf⟩ := gds hf
    obtain ⟨b5, rb5, hf⟩ := rfs hf
    refine G_0_0 dX0_grant_9 tk_91 k4 rb5 ?_
    refine J_iload_n dX0_grant_12 rfl rfl ?_
    obtain ⟨k6, hf⟩ := gds hf
    obtain ⟨vo7, zo7, ho7h, ho7, hf⟩ := rfs3 hf
    refine CV1i dX0_grant_13 (mX2_has hst ho7) tk_398 iX2_has k6 (by decide) rfl ⟨by decide, by decide⟩ ⟨by decide, by decide⟩ (Nat.le_of_ble_eq_true rfl) ?_
    rcases br hf with ⟨c8, hf⟩ | ⟨c8, hf⟩
    · refine J_if_eq (tgt := 45) dX0_grant_16 (by decide) (fun _ => ?_) (fun w => absurd c8 w)
      cases hf
      exact J_vretN dX0_grant_45 rfl (by decide) (by decide)
    · refine J_if_eq (tgt := 45) dX0_grant_16 (by decide) (fun w => absurd w c8) (fun _ => ?_)
      refine J_aload_n dX0_grant_19 rfl rfl ?_
      obtain ⟨k9, hf⟩ := gds hf
      obtain ⟨b10, rb10, hf⟩ := rfs hf
      refine G_0_5 dX0_grant_20 tk_105 k9 rb10 ?_
      refine J_iload_n dX0_grant_23 rfl rfl ?_
      refine J_dup2 dX0_grant_24 rfl rfl ?_
      obtain ⟨k11, hf⟩ := gds hf
      obtain ⟨n12, hf⟩ := gds hf
      refine J_iaload dX0_grant_25 k11 n12 ?_
      refine J_iconst (v := 1) dX0_grant_26 (by decide) ?_
      refine J_iload_n dX0_grant_27 rfl rfl ?_
      refine J_ishl dX0_grant_28 ?_
      refine J_ior dX0_grant_29 ?_
      obtain ⟨n13, hf⟩ := gds hf
      refine J_iastore dX0_grant_30 k11 n13 ?_
      obtain ⟨h14, eh14, hf⟩ := bls hf
      refine J_h eh14 ?_
      refine J_aload_n dX0_grant_31 rfl rfl ?_
      have k15 : kd h14 a0 = 1 := by rw [eh14]; exact k9
      obtain ⟨b16, rb16, hf⟩ := rfs hf
      refine G_0_4 dX0_grant_32 tk_102 k15 rb16 ?_
      refine J_iload_n dX0_grant_35 rfl rfl ?_
      refine J_iconst (v := 0) dX0_grant_36 (by decide) ?_
      obtain ⟨k17, hf⟩ := gds hf
      obtain ⟨n18, hf⟩ := gds hf
      refine J_iastore dX0_grant_37 k17 n18 ?_
      obtain ⟨h19, eh19, hf⟩ := bls hf
      refine J_h eh19 ?_
      refine J_aload_n dX0_grant_38 rfl rfl ?_
      have k20 : kd h19 a0 = 1 := by rw [eh19]; exact k15
      obtain ⟨b21, rb21, hf⟩ := rfs hf
      refine G_0_6 dX0_grant_39 tk_108 k20 rb21 ?_
      refine J_iload_n dX0_grant_42 rfl rfl ?_
      refine J_iconst (v := (-1)) dX0_grant_43 (by decide) ?_
      obtain ⟨k22, hf⟩ := gds hf
      obtain ⟨n23, hf⟩ := gds hf
      refine J_iastore dX0_grant_44 k22 n23 ?_
      obtain ⟨h24, eh24, hf⟩ := bls hf
      refine J_h eh24 ?_
      cases hf
      exact J_vretN dX0_grant_45 rfl (by decide) (by decide)
theorem mX0_grant {g : JG} (hst : (jl g).stackTraces = false) {a0 : Nat} {x1 : Int32} {x2 : Int32} {z : Nat} {h : AH} {o : Nat × AH} (hf : fX0_grant a0 x1 x2 z h = some o) : jMet g yX0_grant (wj yX0_grant cX0_grant 3 none) rmX0_grant [.ref a0, .int x1, .int x2] z h (none, o.1, o.2) :=
  jMet_mk (by decide) (Nat.le_of_ble_eq_true rfl) [some (.ref a0), some (.int x1), some (.int x2)] rfl (wfX0_grant hst hf)
def bX0_settle_92  (a0 : Nat) (x1 : Int32) (x2 : Int32) (z : Nat) (h : AH) : Option (Int32 × Nat × AH) :=
  gd (kd h a0 = 1) (bl (wI h a0 8 x1) (fun h2 => some (x2, z, h2)))
def bX0_settle_86 (q6 : Nat → Int32 → Int32 → Int32 → Nat → AH → Option (Int32 × Nat × AH)) (a0 : Nat) (x1 : Int32) (x2 : Int32) (x3 : Int32) (z : Nat) (h : AH) : Option (Int32 × Nat × AH) :=
  q6 a0 x1 x2 (x3 + 1) z h
def bX0_settle_48 (q6 : Nat → Int32 → Int32 → Int32 → Nat → AH → Option (Int32 × Nat × AH)) (a0 : Nat) (x1 : Int32) (x2 : Int32) (x3 : Int32) (x4 : Int32) (s0 : Int32) (z : Nat) (h : AH) : Option (Int32 × Nat × AH) :=
  gd (kd h a0 = 1) (bd3 (fX0_holdersInWay a0 x4 s0 z h) (fun vo2 zo2 ho2h => (if vo2 = 0 then (gd (kd ho2h a0 = 1) (bd2 (fX0_grant a0 x4 s0 zo2 ho2h) (fun zo10 ho10h => bX0_settle_86 q6 a0 x1 (x2 + 1) x3 zo10 ho10h))) else (gd (kd ho2h a0 = 1) (Option.bind (rv ho2h a0 7) (fun b5 => gd (kd ho2h b5 = 13) (gd (¬ ((x1 : Int32) < 0 ∨ ln ho2h b5 ≤ Int32.toNatClampNeg x1)) (bl (wI ho2h b5 (Int32.toNatClampNeg x1) x4) (fun h8 => bX0_settle_86 q6 a0 (x1 + 1) x2 x3 zo2 h8)))))))))
def lX0_settle_6B  (q6 : Nat → Int32 → Int32 → Int32 → Nat → AH → Option (Int32 × Nat × AH)) (a0 : Nat) (x1 : Int32) (x2 : Int32) (x3 : Int32) (z : Nat) (h : AH) : Option (Int32 × Nat × AH) :=
  gd (kd h a0 = 1) ((if (iv h a0 8) ≤ x3 then (bX0_settle_92  a0 x1 x2 z h) else ((if 10 ≤ x3 then (bX0_settle_92  a0 x1 x2 z h) else (Option.bind (rv h a0 7) (fun b4 => gd (kd h b4 = 13) (gd (¬ ((x3 : Int32) < 0 ∨ ln h b4 ≤ Int32.toNatClampNeg x3)) (bl ((iv h b4 (Int32.toNatClampNeg x3))) (fun v7 => bd3 (fX0_has a0 v7 z h) (fun vo8 zo8 ho8h => (if vo8 = 0 then (bX0_settle_48 q6 a0 x1 x2 x3 v7 (-1) zo8 ho8h) else (gd (kd ho8h a0 = 1) (Option.bind (rv ho8h a0 6) (fun b11 => gd (kd ho8h b11 = 13) (gd (¬ ((v7 : Int32) < 0 ∨ ln ho8h b11 ≤ Int32.toNatClampNeg v7)) (bX0_settle_48 q6 a0 x1 x2 x3 v7 (iv ho8h b11 (Int32.toNatClampNeg v7)) zo8 ho8h))))))))))))))))
def lX0_settle_6  : Nat → Nat → Int32 → Int32 → Int32 → Nat → AH → Option (Int32 × Nat × AH)
  | 0 => fun _ _ _ _ _ _ => none
  | fuel + 1 => lX0_settle_6B  (lX0_settle_6  fuel)
def fX0_settle  (a0 : Nat) (z : Nat) (h : AH) : Option (Int32 × Nat × AH) :=
  lX0_settle_6  fu a0 0 0 0 z h
theorem wbX0_settle_92 {g : JG} (hst : (jl g).stackTraces = false)   {a0 : Nat} {x1 : Int32} {x2 : Int32} {z : Nat} {h : AH} {o : Int32 × Nat × AH} (hf : bX0_settle_92  a0 x1 x2 z h = some o) : J g MX0_settle (jN g (some (.int o.1), o.2.1, o.2.2) rmX0_settle.cells rmX0_settle.slots) 92 [some (.ref a0), some (.int x1), some (.int x2), none, none, none] [] z h 0 0 := by
  unfold bX0_settle_92 at hf
  refine J_aload_n dX0_settle_92 rfl rfl ?_
  refine J_iload_n dX0_settle_93 rfl rfl ?_
  obtain ⟨k1, hf⟩ := gds hf
  refine P_0_8 dX0_settle_94 tk_112 k1 ?_
  obtain ⟨h2, eh2, hf⟩ := bls hf
  refine J_h eh2 ?_
  refine J_iload_n dX0_settle_97 rfl rfl ?_
  cases hf
  exact J_iretN dX0_settle_98 rfl (by decide) (by decide)
theorem wbX0_settle_86 {g : JG} (hst : (jl g).stackTraces = false) (q6 : Nat → Int32 → Int32 → Int32 → Nat → AH → Option (Int32 × Nat × AH)) (hq6 : ∀ (a0 : Nat) (x1 : Int32) (x2 : Int32) (x3 : Int32) (z : Nat) (h : AH) (o : Int32 × Nat × AH), q6 a0 x1 x2 x3 z h = some o → J g MX0_settle (jN g (some (.int o.1), o.2.1, o.2.2) rmX0_settle.cells rmX0_settle.slots) 6 [some (.ref a0), some (.int x1), some (.int x2), some (.int x3), none, none] [] z h 0 0) {a0 : Nat} {x1 : Int32} {x2 : Int32} {x3 : Int32} {z : Nat} {h : AH} {o : Int32 × Nat × AH} (hf : bX0_settle_86 q6 a0 x1 x2 x3 z h = some o) : J g MX0_settle (jN g (some (.int o.1), o.2.1, o.2.2) rmX0_settle.cells rmX0_settle.slots) 86 [some (.ref a0), some (.int x1), some (.int x2), some (.int x3), none, none] [] z h 0 0 := by
  unfold bX0_settle_86 at hf
  refine S_iinc_3 (v := x3 + 1) dX0_settle_86 (congrArg (fun w => x3 + w) (by decide)) rfl (by decide) ?_
  refine J_goto (tgt := 6) dX0_settle_89 (by decide) ?_
  refine J.sub (jsub_s (jsub_s (jsub_s (jsub_s (jsub_n (jsub_n (jsub_nil _))))))) ?_
  exact hq6 _ _ _ _ _ _ _ hf
theorem wbX0_settle_48 {g : JG} (hst : (jl g).stackTraces = false) (q6 : Nat → Int32 → Int32 → Int32 → Nat → AH → Option (Int32 × Nat × AH)) (hq6 : ∀ (a0 : Nat) (x1 : Int32) (x2 : Int32) (x3 : Int32) (z : Nat) (h : AH) (o : Int32 × Nat × AH), q6 a0 x1 x2 x3 z h = some o → J g MX0_settle (jN g (some (.int o.1), o.2.1, o.2.2) rmX0_settle.cells rmX0_settle.slots) 6 [some (.ref a0), some (.int x1), some (.int x2), some (.int x3), none, none] [] z h 0 0) {a0 : Nat} {x1 : Int32} {x2 : Int32} {x3 : Int32} {x4 : Int32} {s0 : Int32} {z : Nat} {h : AH} {o : Int32 × Nat × AH} (hf : bX0_settle_48 q6 a0 x1 x2 x3 x4 s0 z h = some o) : J g MX0_settle (jN g (some (.int o.1), o.2.1, o.2.2) rmX0_settle.cells rmX0_settle.slots) 48 [some (.ref a0), some (.int x1), some (.int x2), some (.int x3), some (.int x4), none] [.int s0] z h 0 0 := by
  unfold bX0_settle_48 at hf
  refine S_istore_5 dX0_settle_48 rfl (by decide) ?_
  refine J_aload_n dX0_settle_50 rfl rfl ?_
  refine J_iload dX0_settle_51 rfl ?_
  refine J_iload dX0_settle_53 rfl ?_
  obtain ⟨k1, hf⟩ := gds hf
  obtain ⟨vo2, zo2, ho2h, ho2, hf⟩ := rfs3 hf
  refine CV2i dX0_settle_55 (mX0_holdersInWay hst ho2) tk_304 iX0_holdersInWay k1 (by decide) rfl ⟨by decide, by decide⟩ ⟨by decide, by decide⟩ (Nat.le_of_ble_eq_true rfl) ?_
  rcases br hf with ⟨c3, hf⟩ | ⟨c3, hf⟩
  · refine J_if_ne (tgt := 75) dX0_settle_58 (by decide) (fun w => absurd c3 w) (fun _ => ?_)
    refine J_aload_n dX0_settle_61 rfl rfl ?_
    refine J_iload dX0_settle_62 rfl ?_
    refine J_iload dX0_settle_64 rfl ?_
    obtain ⟨k9, hf⟩ := gds hf
    obtain ⟨zo10, ho10h, ho10, hf⟩ := rfs2 hf
    refine CV2v dX0_settle_66 (mX0_grant hst ho10) tk_394 iX0_grant k9 (by decide) rfl ⟨by decide, by decide⟩ ⟨by decide, by decide⟩ (Nat.le_of_ble_eq_true rfl) ?_
    refine S_iinc_2 (v := x2 + 1) dX0_settle_69 (congrArg (fun w => x2 + w) (by decide)) rfl (by decide) ?_
    refine J_goto (tgt := 86) dX0_settle_72 (by decide) ?_
    refine J.sub (jsub_s (jsub_s (jsub_s (jsub_s (jsub_n (jsub_n (jsub_nil _))))))) ?_
    exact wbX0_settle_86 hst _ hq6 hf
  · refine J_if_ne (tgt := 75) dX0_settle_58 (by decide) (fun _ => ?_) (fun w => absurd w c3)
    refine J_aload_n dX0_settle_75 rfl rfl ?_
    obtain ⟨k4, hf⟩ := gds hf
    obtain ⟨b5, rb5, hf⟩ := rfs hf
    refine G_0_7 dX0_settle_76 tk_110 k4 rb5 ?_
    refine J_iload_n dX0_settle_79 rfl rfl ?_
    refine J_iload dX0_settle_80 rfl ?_
    obtain ⟨k6, hf⟩ := gds hf
    obtain ⟨n7, hf⟩ := gds hf
    refine J_iastore dX0_settle_82 k6 n7 ?_
    obtain ⟨h8, eh8, hf⟩ := bls hf
    refine J_h eh8 ?_
    refine S_iinc_1 (v := x1 + 1) dX0_settle_83 (congrArg (fun w => x1 + w) (by decide)) rfl (by decide) ?_
    refine J.sub (jsub_s (jsub_s (jsub_s (jsub_s (jsub_n (jsub_n (jsub_nil _))))))) ?_
    exact wbX0_settle_86 hst _ hq6 hf
theorem wlX0_settle_6 {g : JG} (hst : (jl g).stackTraces = false)   : ∀ (fuel : Nat) (a0 : Nat) (x1 : Int32) (x2 : Int32) (x3 : Int32) (z : Nat) (h : AH) (o : Int32 × Nat × AH), lX0_settle_6  fuel a0 x1 x2 x3 z h = some o → J g MX0_settle (jN g (some (.int o.1), o.2.1, o.2.2) rmX0_settle.cells rmX0_settle.slots) 6 [some (.ref a0), some (.int x1), some (.int x2), some (.int x3), none, none] [] z h 0 0 := by
  intro fuel
  induction fuel with
  | zero => intro a0 x1 x2 x3 z h o hf; cases hf
  | succ fuel ih =>
    intro a0 x1 x2 x3 z h o hf
    have hq6 := ih
    have hf : lX0_settle_6B  (lX0_settle_6  fuel) a0 x1 x2 x3 z h = some o := hf
    generalize lX0_settle_6  fuel = q6 at hf hq6
    unfold lX0_settle_6B at hf
    refine J_iload_n dX0_settle_6 rfl rfl ?_
    refine J_aload_n dX0_settle_7 rfl rfl ?_
    obtain ⟨k1, hf⟩ := gds hf
    refine G_0_8 dX0_settle_8 tk_112 k1 ?_
    rcases br hf with ⟨c2, hf⟩ | ⟨c2, hf⟩
    · refine J_icmp_ge (tgt := 92) dX0_settle_11 (by decide) (fun _ => ?_) (fun w => absurd c2 w)
      refine J.sub (jsub_s (jsub_s (jsub_s (jsub_n (jsub_n (jsub_n (jsub_nil _))))))) ?_
      exact wbX0_settle_92 hst   hf
    · refine J_icmp_ge (tgt := 92) dX0_settle_11 (by decide) (fun w => absurd w c2) (fun _ => ?_)
      refine J_iload_n dX0_settle_14 rfl rfl ?_
      refine J_bipush (v := 10) dX0_settle_15 (by decide) ?_
      rcases br hf with ⟨c3, hf⟩ | ⟨c3, hf⟩
      · refine J_icmp_ge (tgt := 92) dX0_settle_17 (by decide) (fun _ => ?_) (fun w => absurd c3 w)
        refine J.sub (jsub_s (jsub_s (jsub_s (jsub_n (jsub_n (jsub_n (jsub_nil _))))))) ?_
        exact wbX0_settle_92 hst   hf
      · refine J_icmp_ge (tgt := 92) dX0_settle_17 (by decide) (fun w => absurd w c3) (fun _ => ?_)
        refine J_aload_n dX0_settle_20 rfl rfl ?_
        obtain ⟨b4, rb4, hf⟩ := rfs hf
        refine G_0_7 dX0_settle_21 tk_110 k1 rb4 ?_
        refine J_iload_n dX0_settle_24 rfl rfl ?_
        obtain ⟨k5, hf⟩ := gds hf
        obtain ⟨n6, hf⟩ := gds hf
        refine J_iaload dX0_settle_25 k5 n6 ?_
        obtain ⟨v7, ev7, hf⟩ := bls hf
        refine J_i ev7 ?_
        refine S_istore_4 dX0_settle_26 rfl (by decide) ?_
        refine J_aload_n dX0_settle_28 rfl rfl ?_
        refine J_iload dX0_settle_29 rfl ?_
        obtain ⟨vo8, zo8, ho8h, ho8, hf⟩ := rfs3 hf
        refine CV1i dX0_settle_31 (mX0_has hst ho8) tk_386 iX0_has k1 (by decide) rfl ⟨by decide, by decide⟩ ⟨by decide, by decide⟩ (Nat.le_of_ble_eq_true rfl) ?_
        rcases br hf with ⟨c9, hf⟩ | ⟨c9, hf⟩
        · refine J_if_eq (tgt := 47) dX0_settle_34 (by decide) (fun _ => ?_) (fun w => absurd c9 w)
          refine J_iconst (v := (-1)) dX0_settle_47 (by decide) ?_
          refine J.sub (jsub_s (jsub_s (jsub_s (jsub_s (jsub_s (jsub_n (jsub_nil _))))))) ?_
          exact wbX0_settle_48 hst _ hq6 hf
        · refine J_if_eq (tgt := 47) dX0_settle_34 (by decide) (fun w => absurd w c9) (fun _ => ?_)
          refine J_aload_n dX0_settle_37 rfl rfl ?_
          obtain ⟨k10, hf⟩ := gds hf
          obtain ⟨b11, rb11, hf⟩ := rfs hf
          refine G_0_6 dX0_settle_38 tk_108 k10 rb11 ?_
          refine J_iload dX0_settle_41 rfl ?_
          obtain ⟨k12, hf⟩ := gds hf
          obtain ⟨n13, hf⟩ := gds hf
          refine J_iaload dX0_settle_43 k12 n13 ?_
          refine J_goto (tgt := 48) dX0_settle_44 (by decide) ?_
          refine J.sub (jsub_s (jsub_s (jsub_s (jsub_s (jsub_s (jsub_n (jsub_nil _))))))) ?_
          exact wbX0_settle_48 hst _ hq6 hf
theorem wfX0_settle {g : JG} (hst : (jl g).stackTraces = false)   {a0 : Nat} {z : Nat} {h : AH} {o : Int32 × Nat × AH} (hf : fX0_settle  a0 z h = some o) : J g MX0_settle (jN g (some (.int o.1), o.2.1, o.2.2) rmX0_settle.cells rmX0_settle.slots) 0 [some (.ref a0), none, none, none, none, none] [] z h 0 0 := by
  unfold fX0_settle at hf
  refine J_iconst (v := 0) dX0_settle_0 (by decide) ?_
  refine S_istore_n_1 dX0_settle_1 rfl (by decide) ?_
  refine J_iconst (v := 0) dX0_settle_2 (by decide) ?_
  refine S_istore_n_2 dX0_settle_3 rfl (by decide) ?_
  refine J_iconst (v := 0) dX0_settle_4 (by decide) ?_
  refine S_istore_n_3 dX0_settle_5 rfl (by decide) ?_
  refine J.sub (jsub_s (jsub_s (jsub_s (jsub_s (jsub_n (jsub_n (jsub_nil _))))))) ?_
  exact wlX0_settle_6 hst   _ _ _ _ _ _ _ _ hf
theorem mX0_settle {g : JG} (hst : (jl g).stackTraces = false) {a0 : Nat} {z : Nat} {h : AH} {o : Int32 × Nat × AH} (hf : fX0_settle a0 z h = some o) : jMet g yX0_settle (wj yX0_settle cX0_settle 6 (some .int)) rmX0_settle [.ref a0] z h (some (.int o.1), o.2.1, o.2.2) :=
  jMet_mk (by decide) (Nat.le_of_ble_eq_true rfl) [some (.ref a0), none, none, none, none, none] rfl (wfX0_settle hst hf)
def lX0_freeNumber_2B  (q2 : Nat → Int32 → Nat → AH → Option (Int32 × Nat × AH)) (a0 : Nat) (x1 : Int32) (z : Nat) (h : AH) : Option (Int32 × Nat × AH) :=
  (if 10 ≤ x1 then (some ((-1), z, h)) else (gd (kd h a0 = 1) (bd3 (fX8_inSet (iv h a0 9) x1 z h) (fun vo3 zo3 ho3h => (if vo3 = 0 then (some (x1, zo3, ho3h)) else (q2 a0 (x1 + 1) zo3 ho3h))))))
def lX0_freeNumber_2  : Nat → Nat → Int32 → Nat → AH → Option (Int32 × Nat × AH)
  | 0 => fun _ _ _ _ => none
  | fuel + 1 => lX0_freeNumber_2B  (lX0_freeNumber_2  fuel)
def fX0_freeNumber  (a0 : Nat) (z : Nat) (h : AH) : Option (Int32 × Nat × AH) :=
  lX0_freeNumber_2  fu a0 0 z h
theorem wlX0_freeNumber_2 {g : JG} (hst : (jl g).stackTraces = false)   : ∀ (fuel : Nat) (a0 : Nat) (x1 : Int32) (z : Nat) (h : AH) (o : Int32 × Nat × AH), lX0_freeNumber_2  fuel a0 x1 z h = some o → J g MX0_freeNumber (jN g (some (.int o.1), o.2.1, o.2.2) rmX0_freeNumber.cells rmX0_freeNumber.slots) 2 [some (.ref a0), some (.int x1)] [] z h 0 0 := by
  intro fuel
  induction fuel with
  | zero => intro a0 x1 z h o hf; cases hf
  | succ fuel ih =>
    intro a0 x1 z h o hf
    have hq2 := ih
    have hf : lX0_freeNumber_2B  (lX0_freeNumber_2  fuel) a0 x1 z h = some o := hf
    generalize lX0_freeNumber_2  fuel = q2 at hf hq2
    unfold lX0_freeNumber_2B at hf
    refine J_iload_n dX0_freeNumber_2 rfl rfl ?_
    refine J_bipush (v := 10) dX0_freeNumber_3 (by decide) ?_
    rcases br hf with ⟨c1, hf⟩ | ⟨c1, hf⟩
    · refine J_icmp_ge (tgt := 27) dX0_freeNumber_5 (by decide) (fun _ => ?_) (fun w => absurd c1 w)
      refine J_iconst (v := (-1)) dX0_freeNumber_27 (by decide) ?_
      cases hf
      exact J_iretN dX0_freeNumber_28 rfl (by decide) (by decide)
    · refine J_icmp_ge (tgt := 27) dX0_freeNumber_5 (by decide) (fun w => absurd w c1) (fun _ => ?_)
      refine J_aload_n dX0_freeNumber_8 rfl rfl ?_
      obtain ⟨k2, hf⟩ := gds hf
      refine G_0_9 dX0_freeNumber_9 tk_114 k2 ?_
      refine J_iload_n dX0_freeNumber_12 rfl rfl ?_
      obtain ⟨vo3, zo3, ho3h, ho3, hf⟩ := rfs3 hf
      refine CSN2i dX0_freeNumber_13 (mX8_inSet hst ho3) tl_625 iX8_inSet ⟨by decide, by decide⟩ ⟨by decide, by decide⟩ (Nat.le_of_ble_eq_true rfl) ?_
      rcases br hf with ⟨c4, hf⟩ | ⟨c4, hf⟩
      · refine J_if_ne (tgt := 21) dX0_freeNumber_16 (by decide) (fun w => absurd c4 w) (fun _ => ?_)
        refine J_iload_n dX0_freeNumber_19 rfl rfl ?_
        cases hf
        exact J_iretN dX0_freeNumber_20 rfl (by decide) (by decide)
      · refine J_if_ne (tgt := 21) dX0_freeNumber_16 (by decide) (fun _ => ?_) (fun w => absurd w c4)
        refine S_iinc_1 (v := x1 + 1) dX0_freeNumber_21 (congrArg (fun w => x1 + w) (by decide)) rfl (by decide) ?_
        refine J_goto (tgt := 2) dX0_freeNumber_24 (by decide) ?_
        refine J.sub (jsub_s (jsub_s (jsub_nil _))) ?_
        exact hq2 _ _ _ _ _ hf
theorem wfX0_freeNumber {g : JG} (hst : (jl g).stackTraces = false)   {a0 : Nat} {z : Nat} {h : AH} {o : Int32 × Nat × AH} (hf : fX0_freeNumber  a0 z h = some o) : J g MX0_freeNumber (jN g (some (.int o.1), o.2.1, o.2.2) rmX0_freeNumber.cells rmX0_freeNumber.slots) 0 [some (.ref a0), none] [] z h 0 0 := by
  unfold fX0_freeNumber at hf
  refine J_iconst (v := 0) dX0_freeNumber_0 (by decide) ?_
  refine S_istore_n_1 dX0_freeNumber_1 rfl (by decide) ?_
  refine J.sub (jsub_s (jsub_s (jsub_nil _))) ?_
  exact wlX0_freeNumber_2 hst   _ _ _ _ _ _ hf
theorem mX0_freeNumber {g : JG} (hst : (jl g).stackTraces = false) {a0 : Nat} {z : Nat} {h : AH} {o : Int32 × Nat × AH} (hf : fX0_freeNumber a0 z h = some o) : jMet g yX0_freeNumber (wj yX0_freeNumber cX0_freeNumber 2 (some .int)) rmX0_freeNumber [.ref a0] z h (some (.int o.1), o.2.1, o.2.2) :=
  jMet_mk (by decide) (Nat.le_of_ble_eq_true rfl) [some (.ref a0), none] rfl (wfX0_freeNumber hst hf)
def fX0_enroll  (a0 : Nat) (x1 : Int32) (z : Nat) (h : AH) : Option (Int32 × Nat × AH) :=
  gd (kd h a0 = 1) (bd3 (fX0_freeNumber a0 z h) (fun vo2 zo2 ho2h => (if vo2 = (-1) then (some ((-1), zo2, ho2h)) else (gd (kd ho2h a0 = 1) (bl (wI ho2h a0 9 ((iv ho2h a0 9) ||| (1 <<< (vo2 &&& 31)))) (fun h5 => Option.bind (rv h5 a0 2) (fun b7 => gd (kd h5 b7 = 13) (gd (¬ ((vo2 : Int32) < 0 ∨ ln h5 b7 ≤ Int32.toNatClampNeg vo2)) (bl (wI h5 b7 (Int32.toNatClampNeg vo2) x1) (fun h10 => Option.bind (rv h10 a0 3) (fun b12 => gd (kd h10 b12 = 13) (gd (¬ ((vo2 : Int32) < 0 ∨ ln h10 b12 ≤ Int32.toNatClampNeg vo2)) (bl (wI h10 b12 (Int32.toNatClampNeg vo2) (iv h10 a0 13)) (fun h15 => Option.bind (rv h15 a0 4) (fun b17 => gd (kd h15 b17 = 13) (gd (¬ ((vo2 : Int32) < 0 ∨ ln h15 b17 ≤ Int32.toNatClampNeg vo2)) (bl (wI h15 b17 (Int32.toNatClampNeg vo2) 0) (fun h20 => Option.bind (rv h20 a0 5) (fun b22 => gd (kd h20 b22 = 13) (gd (¬ ((vo2 : Int32) < 0 ∨ ln h20 b22 ≤ Int32.toNatClampNeg vo2)) (bl (wI h20 b22 (Int32.toNatClampNeg vo2) 0) (fun h25 => Option.bind (rv h25 a0 6) (fun b27 => gd (kd h25 b27 = 13) (gd (¬ ((vo2 : Int32) < 0 ∨ ln h25 b27 ≤ Int32.toNatClampNeg vo2)) (bl (wI h25 b27 (Int32.toNatClampNeg vo2) (-1)) (fun h30 => bl (wI h30 a0 13 ((iv h30 a0 13) + 1)) (fun h32 => some (vo2, zo2, h32))))))))))))))))))))))))))))
theorem wfX0_enroll {g : JG} (hst : (jl g).stackTraces = false)   {a0 : Nat} {x1 : Int32} {z : Nat} {h : AH} {o : Int32 × Nat × AH} (hf : fX0_enroll  a0 x1 z h = some o) : J g MX0_enroll (jN g (some (.int o.1), o.2.1, o.2.2) rmX0_enroll.cells rmX0_enroll.slots) 0 [some (.ref a0), some (.int x1), none] [] z h 0 0 := by
  unfold fX0_enroll at hf
  refine J_aload_n dX0_enroll_0 rfl rfl ?_
  obtain ⟨k1, hf⟩ := gds hf
  obtain ⟨vo2, zo2, ho2h, ho2, hf⟩ := rfs3 hf
  refine CV0i dX0_enroll_1 (mX0_freeNumber hst ho2) tk_630 iX0_freeNumber k1 (by decide) rfl ⟨by decide, by decide⟩ ⟨by decide, by decide⟩ (Nat.le_of_ble_eq_true rfl) ?_
  refine S_istore_n_2 dX0_enroll_4 rfl (by decide) ?_
  refine J_iload_n dX0_enroll_5 rfl rfl ?_
  refine J_iconst (v := (-1)) dX0_enroll_6 (by decide) ?_
  rcases br hf with ⟨c3, hf⟩ | ⟨c3, hf⟩
  · refine J_icmp_ne (tgt := 12) dX0_enroll_7 (by decide) (fun w => absurd c3 w) (fun _ => ?_)
    refine J_iconst (v := (-1)) dX0_enroll_10 (by decide) ?_
    cases hf
    exact J_iretN dX0_enroll_11 rfl (by decide) (by decide)
  · refine J_icmp_ne (tgt := 12) dX0_enroll_7 (by decide) (fun _ => ?_) (fun w => absurd w c3)
    refine J_aload_n dX0_enroll_12 rfl rfl ?_
    refine J_dup dX0_enroll_13 rfl ?_
    obtain ⟨k4, hf⟩ := gds hf
    refine G_0_9 dX0_enroll_14 tk_114 k4 ?_
    refine J_iconst (v := 1) dX0_enroll_17 (by decide) ?_
    refine J_iload_n dX0_enroll_18 rfl rfl ?_
    refine J_ishl dX0_enroll_19 ?_
    refine J_ior dX0_enroll_20 ?_
    refine P_0_9 dX0_enroll_21 tk_114 k4 ?_
    obtain ⟨h5, eh5, hf⟩ := bls hf
    refine J_h eh5 ?_
    refine J_aload_n dX0_enroll_24 rfl rfl ?_
    have k6 : kd h5 a0 = 1 := by rw [eh5]; exact k4
    obtain ⟨b7, rb7, hf⟩ := rfs hf
    refine G_0_2 dX0_enroll_25 tk_96 k6 rb7 ?_
    refine J_iload_n dX0_enroll_28 rfl rfl ?_
    refine J_iload_n dX0_enroll_29 rfl rfl ?_
    obtain ⟨k8, hf⟩ := gds hf
    obtain ⟨n9, hf⟩ := gds hf
    refine J_iastore dX0_enroll_30 k8 n9 ?_
    obtain ⟨h10, eh10, hf⟩ := bls hf
    refine J_h eh10 ?_
    refine J_aload_n dX0_enroll_31 rfl rfl ?_
    have k11 : kd h10 a0 = 1 := by rw [eh10]; exact k6
    obtain ⟨b12, rb12, hf⟩ := rfs hf
    refine G_0_3 dX0_enroll_32 tk_99 k11 rb12 ?_
    refine J_iload_n dX0_enroll_35 rfl rfl ?_
    refine J_aload_n dX0_enroll_36 rfl rfl ?_
    refine G_0_13 dX0_enroll_37 tk_125 k11 ?_
    obtain ⟨k13, hf⟩ := gds hf
    obtain ⟨n14, hf⟩ := gds hf
    refine J_iastore dX0_enroll_40 k13 n14 ?_
    obtain ⟨h15, eh15, hf⟩ := bls hf
    refine J_h eh15 ?_
    refine J_aload_n dX0_enroll_41 rfl rfl ?_
    have k16 : kd h15 a0 = 1 := by rw [eh15]; exact k11
    obtain ⟨b17, rb17, hf⟩ := rfs hf
    refine G_0_4 dX0_enroll_42 tk_102 k16 rb17 ?_
    refine J_iload_n dX0_enroll_45 rfl rfl ?_
    refine J_iconst (v := 0) dX0_enroll_46 (by decide) ?_
    obtain ⟨k18, hf⟩ := gds hf
    obtain ⟨n19, hf⟩ := gds hf
    refine J_iastore dX0_enroll_47 k18 n19 ?_
    obtain ⟨h20, eh20, hf⟩ := bls hf
    refine J_h eh20 ?_
    refine J_aload_n dX0_enroll_48 rfl rfl ?_
    have k21 : kd h20 a0 = 1 := by rw [eh20]; exact k16
    obtain ⟨b22, rb22, hf⟩ := rfs hf
    refine G_0_5 dX0_enroll_49 tk_105 k21 rb22 ?_
    refine J_iload_n dX0_enroll_52 rfl rfl ?_
    refine J_iconst (v := 0) dX0_enroll_53 (by decide) ?_
    obtain ⟨k23, hf⟩ := gds hf
    obtain ⟨n24, hf⟩ := gds hf
    refine J_iastore dX0_enroll_54 k23 n24 ?_
    obtain ⟨h25, eh25, hf⟩ := bls hf
    refine J_h eh25 ?_
    refine J_aload_n dX0_enroll_55 rfl rfl ?_
    have k26 : kd h25 a0 = 1 := by rw [eh25]; exact k21
    obtain ⟨b27, rb27, hf⟩ := rfs hf
    refine G_0_6 dX0_enroll_56 tk_108 k26 rb27 ?_
    refine J_iload_n dX0_enroll_59 rfl rfl ?_
    refine J_iconst (v := (-1)) dX0_enroll_60 (by decide) ?_
    obtain ⟨k28, hf⟩ := gds hf
    obtain ⟨n29, hf⟩ := gds hf
    refine J_iastore dX0_enroll_61 k28 n29 ?_
    obtain ⟨h30, eh30, hf⟩ := bls hf
    refine J_h eh30 ?_
    refine J_aload_n dX0_enroll_62 rfl rfl ?_
    refine J_dup dX0_enroll_63 rfl ?_
    have k31 : kd h30 a0 = 1 := by rw [eh30]; exact k26
    refine G_0_13 dX0_enroll_64 tk_125 k31 ?_
    refine J_iconst (v := 1) dX0_enroll_67 (by decide) ?_
    refine J_iadd dX0_enroll_68 ?_
    refine P_0_13 dX0_enroll_69 tk_125 k31 ?_
    obtain ⟨h32, eh32, hf⟩ := bls hf
    refine J_h eh32 ?_
    refine J_iload_n dX0_enroll_72 rfl rfl ?_
    cases hf
    exact J_iretN dX0_enroll_73 rfl (by decide) (by decide)
theorem mX0_enroll {g : JG} (hst : (jl g).stackTraces = false) {a0 : Nat} {x1 : Int32} {z : Nat} {h : AH} {o : Int32 × Nat × AH} (hf : fX0_enroll a0 x1 z h = some o) : jMet g yX0_enroll (wj yX0_enroll cX0_enroll 3 (some .int)) rmX0_enroll [.ref a0, .int x1] z h (some (.int o.1), o.2.1, o.2.2) :=
  jMet_mk (by decide) (Nat.le_of_ble_eq_true rfl) [some (.ref a0), some (.int x1), none] rfl (wfX0_enroll hst hf)
def fX0_waitsFor  (a0 : Nat) (x1 : Int32) (z : Nat) (h : AH) : Option (Int32 × Nat × AH) :=
  gd (kd h a0 = 1) (bd3 (fX0_isIn a0 x1 1 z h) (fun vo2 zo2 ho2h => (if vo2 = 0 then (some (0, zo2, ho2h)) else (gd (kd ho2h a0 = 1) (Option.bind (rv ho2h a0 6) (fun b5 => gd (kd ho2h b5 = 13) (gd (¬ ((x1 : Int32) < 0 ∨ ln ho2h b5 ≤ Int32.toNatClampNeg x1)) (bd3 (fX0_holdersInWay a0 x1 (iv ho2h b5 (Int32.toNatClampNeg x1)) zo2 ho2h) (fun vo8 zo8 ho8h => some (vo8, zo8, ho8h))))))))))
theorem wfX0_waitsFor {g : JG} (hst : (jl g).stackTraces = false)   {a0 : Nat} {x1 : Int32} {z : Nat} {h : AH} {o : Int32 × Nat × AH} (hf : fX0_waitsFor  a0 x1 z h = some o) : J g MX0_waitsFor (jN g (some (.int o.1), o.2.1, o.2.2) rmX0_waitsFor.cells rmX0_waitsFor.slots) 0 [some (.ref a0), some (.int x1)] [] z h 0 0 := by
  unfold fX0_waitsFor at hf
  refine J_aload_n dX0_waitsFor_0 rfl rfl ?_
  refine J_iload_n dX0_waitsFor_1 rfl rfl ?_
  refine J_iconst (v := 1) dX0_waitsFor_2 (by decide) ?_
  obtain ⟨k1, hf⟩ := gds hf
  obtain ⟨vo2, zo2, ho2h, ho2, hf⟩ := rfs3 hf
  refine CV2i dX0_waitsFor_3 (mX0_isIn hst ho2) tk_300 iX0_isIn k1 (by decide) rfl ⟨by decide, by decide⟩ ⟨by decide, by decide⟩ (Nat.le_of_ble_eq_true rfl) ?_
  rcases br hf with ⟨c3, hf⟩ | ⟨c3, hf⟩
  · refine J_if_eq (tgt := 23) dX0_waitsFor_6 (by decide) (fun _ => ?_) (fun w => absurd c3 w)
    refine J_iconst (v := 0) dX0_waitsFor_23 (by decide) ?_
    cases hf
    exact J_iretN dX0_waitsFor_24 rfl (by decide) (by decide)
  · refine J_if_eq (tgt := 23) dX0_waitsFor_6 (by decide) (fun w => absurd w c3) (fun _ => ?_)
    refine J_aload_n dX0_waitsFor_9 rfl rfl ?_
    refine J_iload_n dX0_waitsFor_10 rfl rfl ?_
    refine J_aload_n dX0_waitsFor_11 rfl rfl ?_
    obtain ⟨k4, hf⟩ := gds hf
    obtain ⟨b5, rb5, hf⟩ := rfs hf
    refine G_0_6 dX0_waitsFor_12 tk_108 k4 rb5 ?_
    refine J_iload_n dX0_waitsFor_15 rfl rfl ?_
    obtain ⟨k6, hf⟩ := gds hf
    obtain ⟨n7, hf⟩ := gds hf
    refine J_iaload dX0_waitsFor_16 k6 n7 ?_
    obtain ⟨vo8, zo8, ho8h, ho8, hf⟩ := rfs3 hf
    refine CV2i dX0_waitsFor_17 (mX0_holdersInWay hst ho8) tk_304 iX0_holdersInWay k4 (by decide) rfl ⟨by decide, by decide⟩ ⟨by decide, by decide⟩ (Nat.le_of_ble_eq_true rfl) ?_
    refine J_goto (tgt := 24) dX0_waitsFor_20 (by decide) ?_
    cases hf
    exact J_iretN dX0_waitsFor_24 rfl (by decide) (by decide)
theorem mX0_waitsFor {g : JG} (hst : (jl g).stackTraces = false) {a0 : Nat} {x1 : Int32} {z : Nat} {h : AH} {o : Int32 × Nat × AH} (hf : fX0_waitsFor a0 x1 z h = some o) : jMet g yX0_waitsFor (wj yX0_waitsFor cX0_waitsFor 2 (some .int)) rmX0_waitsFor [.ref a0, .int x1] z h (some (.int o.1), o.2.1, o.2.2) :=
  jMet_mk (by decide) (Nat.le_of_ble_eq_true rfl) [some (.ref a0), some (.int x1)] rfl (wfX0_waitsFor hst hf)
def fX0_dismiss  (a0 : Nat) (x1 : Int32) (z : Nat) (h : AH) : Option (Nat × AH) :=
  gd (kd h a0 = 1) (bd3 (fX0_has a0 x1 z h) (fun vo2 zo2 ho2h => (if vo2 = 0 then (some (zo2, ho2h)) else (gd (kd ho2h a0 = 1) (Option.bind (rv ho2h a0 5) (fun b5 => gd (kd ho2h b5 = 13) (gd (¬ ((x1 : Int32) < 0 ∨ ln ho2h b5 ≤ Int32.toNatClampNeg x1)) (bl (wI ho2h b5 (Int32.toNatClampNeg x1) 0) (fun h8 => bl (wI h8 a0 9 ((iv h8 a0 9) &&& ((1 <<< (x1 &&& 31)) ^^^ (-1)))) (fun h10 => some (zo2, h10)))))))))))
theorem wfX0_dismiss {g : JG} (hst : (jl g).stackTraces = false)   {a0 : Nat} {x1 : Int32} {z : Nat} {h : AH} {o : Nat × AH} (hf : fX0_dismiss  a0 x1 z h = some o) : J g MX0_dismiss (jN g (none, o.1, o.2) rmX0_dismiss.cells rmX0_dismiss.slots) 0 [some (.ref a0), some (.int x1)] [] z h 0 0 := by
  unfold fX0_dismiss at hf
  refine J_aload_n dX0_dismiss_0 rfl rfl ?_
  refine J_iload_n dX0_dismiss_1 rfl rfl ?_
  obtain ⟨k1, hf⟩ := gds hf
  obtain ⟨vo2, zo2, ho2h, ho2, hf⟩ := rfs3 hf
  refine CV1i dX0_dismiss_2 (mX0_has hst ho2) tk_386 iX0_has k1 (by decide) rfl ⟨by decide, by decide⟩ ⟨by decide, by decide⟩ (Nat.le_of_ble_eq_true rfl) ?_
  rcases br hf with ⟨c3, hf⟩ | ⟨c3, hf⟩
  · refine J_if_eq (tgt := 29) dX0_dismiss_5 (by decide) (fun _ => ?_) (fun w => absurd c3 w)
    cases hf
    exact J_vretN dX0_dismiss_29 rfl (by decide) (by decide)
  · refine J_if_eq (tgt := 29) dX0_dismiss_5 (by decide) (fun w => absurd w c3) (fun _ => ?_)
    refine J_aload_n dX0_dismiss_8 rfl rfl ?_
    obtain ⟨k4, hf⟩ := gds hf
    obtain ⟨b5, rb5, hf⟩ := rfs hf
    refine G_0_5 dX0_dismiss_9 tk_105 k4 rb5 ?_
    refine J_iload_n dX0_dismiss_12 rfl rfl ?_
    refine J_iconst (v := 0) dX0_dismiss_13 (by decide) ?_
    obtain ⟨k6, hf⟩ := gds hf
    obtain ⟨n7, hf⟩ := gds hf
    refine J_iastore dX0_dismiss_14 k6 n7 ?_
    obtain ⟨h8, eh8, hf⟩ := bls hf
    refine J_h eh8 ?_
    refine J_aload_n dX0_dismiss_15 rfl rfl ?_
    refine J_dup dX0_dismiss_16 rfl ?_
    have k9 : kd h8 a0 = 1 := by rw [eh8]; exact k4
    refine G_0_9 dX0_dismiss_17 tk_114 k9 ?_
    refine J_iconst (v := 1) dX0_dismiss_20 (by decide) ?_
    refine J_iload_n dX0_dismiss_21 rfl rfl ?_
    refine J_ishl dX0_dismiss_22 ?_
    refine J_iconst (v := (-1)) dX0_dismiss_23 (by decide) ?_
    refine J_ixor dX0_dismiss_24 ?_
    refine J_iand dX0_dismiss_25 ?_
    refine P_0_9 dX0_dismiss_26 tk_114 k9 ?_
    obtain ⟨h10, eh10, hf⟩ := bls hf
    refine J_h eh10 ?_
    cases hf
    exact J_vretN dX0_dismiss_29 rfl (by decide) (by decide)
theorem mX0_dismiss {g : JG} (hst : (jl g).stackTraces = false) {a0 : Nat} {x1 : Int32} {z : Nat} {h : AH} {o : Nat × AH} (hf : fX0_dismiss a0 x1 z h = some o) : jMet g yX0_dismiss (wj yX0_dismiss cX0_dismiss 2 none) rmX0_dismiss [.ref a0, .int x1] z h (none, o.1, o.2) :=
  jMet_mk (by decide) (Nat.le_of_ble_eq_true rfl) [some (.ref a0), some (.int x1)] rfl (wfX0_dismiss hst hf)
def fX0_covers  (a0 : Nat) (x1 : Int32) (x2 : Int32) (z : Nat) (h : AH) : Option (Int32 × Nat × AH) :=
  gd (kd h a0 = 1) (bd3 (fX0_has a0 x1 z h) (fun vo2 zo2 ho2h => (if vo2 = 0 then (some (0, zo2, ho2h)) else (gd (kd ho2h a0 = 1) (Option.bind (rv ho2h a0 0) (fun b5 => gd (kd ho2h b5 = 3) (bd3 (fX2_has b5 x2 zo2 ho2h) (fun vo7 zo7 ho7h => (if vo7 = 0 then (some (0, zo7, ho7h)) else (gd (kd ho7h a0 = 1) (Option.bind (rv ho7h a0 5) (fun b10 => gd (kd ho7h b10 = 13) (gd (¬ ((x1 : Int32) < 0 ∨ ln ho7h b10 ≤ Int32.toNatClampNeg x1)) (Option.bind (rv ho7h a0 0) (fun b13 => gd (kd ho7h b13 = 3) (Option.bind (rv ho7h b13 1) (fun b15 => gd (kd ho7h b15 = 13) (gd (¬ ((x2 : Int32) < 0 ∨ ln ho7h b15 ≤ Int32.toNatClampNeg x2)) ((if ((iv ho7h b10 (Int32.toNatClampNeg x1)) &&& (iv ho7h b15 (Int32.toNatClampNeg x2))) = 0 then (some (0, zo7, ho7h)) else (some (1, zo7, ho7h))))))))))))))))))))))
theorem wfX0_covers {g : JG} (hst : (jl g).stackTraces = false)   {a0 : Nat} {x1 : Int32} {x2 : Int32} {z : Nat} {h : AH} {o : Int32 × Nat × AH} (hf : fX0_covers  a0 x1 x2 z h = some o) : J g MX0_covers (jN g (some (.int o.1), o.2.1, o.2.2) rmX0_covers.cells rmX0_covers.slots) 0 [some (.ref a0), some (.int x1), some (.int x2)] [] z h 0 0 := by
  unfold fX0_covers at hf
  refine J_aload_n dX0_covers_0 rfl rfl ?_
  refine J_iload_n dX0_covers_1 rfl rfl ?_
  obtain ⟨k1, hf⟩ := gds hf
  obtain ⟨vo2, zo2, ho2h, ho2, hf⟩ := rfs3 hf
  refine CV1i dX0_covers_2 (mX0_has hst ho2) tk_386 iX0_has k1 (by decide) rfl ⟨by decide, by decide⟩ ⟨by decide, by decide⟩ (Nat.le_of_ble_eq_true rfl) ?_
  rcases br hf with ⟨c3, hf⟩ | ⟨c3, hf⟩
  · refine J_if_eq (tgt := 42) dX0_covers_5 (by decide) (fun _ => ?_) (fun w => absurd c3 w)
    refine J_iconst (v := 0) dX0_covers_42 (by decide) ?_
    cases hf
    exact J_zretN dX0_covers_43 rfl (Or.inl rfl) (by decide) (by decide)
  · refine J_if_eq (tgt := 42) dX0_covers_5 (by decide) (fun w => absurd w c3) (fun _ => ?_)
    refine J_aload_n dX0_covers_8 rfl rfl ?_
    obtain ⟨k4, hf⟩ := gds hf
    obtain ⟨b5, rb5, hf⟩ := rfs hf
    refine G_0_0 dX0_covers_9 tk_91 k4 rb5 ?_
    refine J_iload_n dX0_covers_12 rfl rfl ?_
    obtain ⟨k6, hf⟩ := gds hf
    obtain ⟨vo7, zo7, ho7h, ho7, hf⟩ := rfs3 hf
    refine CV1i dX0_covers_13 (mX2_has hst ho7) tk_398 iX2_has k6 (by decide) rfl ⟨by decide, by decide⟩ ⟨by decide, by decide⟩ (Nat.le_of_ble_eq_true rfl) ?_
    rcases br hf with ⟨c8, hf⟩ | ⟨c8, hf⟩
    · refine J_if_eq (tgt := 42) dX0_covers_16 (by decide) (fun _ => ?_) (fun w => absurd c8 w)
      refine J_iconst (v := 0) dX0_covers_42 (by decide) ?_
      cases hf
      exact J_zretN dX0_covers_43 rfl (Or.inl rfl) (by decide) (by decide)
    · refine J_if_eq (tgt := 42) dX0_covers_16 (by decide) (fun w => absurd w c8) (fun _ => ?_)
      refine J_aload_n dX0_covers_19 rfl rfl ?_
      obtain ⟨k9, hf⟩ := gds hf
      obtain ⟨b10, rb10, hf⟩ := rfs hf
      refine G_0_5 dX0_covers_20 tk_105 k9 rb10 ?_
      refine J_iload_n dX0_covers_23 rfl rfl ?_
      obtain ⟨k11, hf⟩ := gds hf
      obtain ⟨n12, hf⟩ := gds hf
      refine J_iaload dX0_covers_24 k11 n12 ?_
      refine J_aload_n dX0_covers_25 rfl rfl ?_
      obtain ⟨b13, rb13, hf⟩ := rfs hf
      refine G_0_0 dX0_covers_26 tk_91 k9 rb13 ?_
      obtain ⟨k14, hf⟩ := gds hf
      obtain ⟨b15, rb15, hf⟩ := rfs hf
      refine G_2_1 dX0_covers_29 tk_43 k14 rb15 ?_
      refine J_iload_n dX0_covers_32 rfl rfl ?_
      obtain ⟨k16, hf⟩ := gds hf
      obtain ⟨n17, hf⟩ := gds hf
      refine J_iaload dX0_covers_33 k16 n17 ?_
      refine J_iand dX0_covers_34 ?_
      rcases br hf with ⟨c18, hf⟩ | ⟨c18, hf⟩
      · refine J_if_eq (tgt := 42) dX0_covers_35 (by decide) (fun _ => ?_) (fun w => absurd c18 w)
        refine J_iconst (v := 0) dX0_covers_42 (by decide) ?_
        cases hf
        exact J_zretN dX0_covers_43 rfl (Or.inl rfl) (by decide) (by decide)
      · refine J_if_eq (tgt := 42) dX0_covers_35 (by decide) (fun w => absurd w c18) (fun _ => ?_)
        refine J_iconst (v := 1) dX0_covers_38 (by decide) ?_
        refine J_goto (tgt := 43) dX0_covers_39 (by decide) ?_
        cases hf
        exact J_zretN dX0_covers_43 rfl (Or.inr rfl) (by decide) (by decide)
theorem mX0_covers {g : JG} (hst : (jl g).stackTraces = false) {a0 : Nat} {x1 : Int32} {x2 : Int32} {z : Nat} {h : AH} {o : Int32 × Nat × AH} (hf : fX0_covers a0 x1 x2 z h = some o) : jMet g yX0_covers (wj yX0_covers cX0_covers 3 (some .boolean)) rmX0_covers [.ref a0, .int x1, .int x2] z h (some (.int o.1), o.2.1, o.2.2) :=
  jMet_mk (by decide) (Nat.le_of_ble_eq_true rfl) [some (.ref a0), some (.int x1), some (.int x2)] rfl (wfX0_covers hst hf)
def lX0_ownerOf_2B  (q2 : Nat → Int32 → Int32 → Nat → AH → Option (Int32 × Nat × AH)) (a0 : Nat) (x1 : Int32) (x2 : Int32) (z : Nat) (h : AH) : Option (Int32 × Nat × AH) :=
  (if 10 ≤ x2 then (some ((-1), z, h)) else (gd (kd h a0 = 1) (bd3 (fX0_covers a0 x2 x1 z h) (fun vo3 zo3 ho3h => (if vo3 = 0 then (q2 a0 x1 (x2 + 1) zo3 ho3h) else (some (x2, zo3, ho3h)))))))
def lX0_ownerOf_2  : Nat → Nat → Int32 → Int32 → Nat → AH → Option (Int32 × Nat × AH)
  | 0 => fun _ _ _ _ _ => none
  | fuel + 1 => lX0_ownerOf_2B  (lX0_ownerOf_2  fuel)
def fX0_ownerOf  (a0 : Nat) (x1 : Int32) (z : Nat) (h : AH) : Option (Int32 × Nat × AH) :=
  lX0_ownerOf_2  fu a0 x1 0 z h
theorem wlX0_ownerOf_2 {g : JG} (hst : (jl g).stackTraces = false)   : ∀ (fuel : Nat) (a0 : Nat) (x1 : Int32) (x2 : Int32) (z : Nat) (h : AH) (o : Int32 × Nat × AH), lX0_ownerOf_2  fuel a0 x1 x2 z h = some o → J g MX0_ownerOf (jN g (some (.int o.1), o.2.1, o.2.2) rmX0_ownerOf.cells rmX0_ownerOf.slots) 2 [some (.ref a0), some (.int x1), some (.int x2)] [] z h 0 0 := by
  intro fuel
  induction fuel with
  | zero => intro a0 x1 x2 z h o hf; cases hf
  | succ fuel ih =>
    intro a0 x1 x2 z h o hf
    have hq2 := ih
    have hf : lX0_ownerOf_2B  (lX0_ownerOf_2  fuel) a0 x1 x2 z h = some o := hf
    generalize lX0_ownerOf_2  fuel = q2 at hf hq2
    unfold lX0_ownerOf_2B at hf
    refine J_iload_n dX0_ownerOf_2 rfl rfl ?_
    refine J_bipush (v := 10) dX0_ownerOf_3 (by decide) ?_
    rcases br hf with ⟨c1, hf⟩ | ⟨c1, hf⟩
    · refine J_icmp_ge (tgt := 25) dX0_ownerOf_5 (by decide) (fun _ => ?_) (fun w => absurd c1 w)
      refine J_iconst (v := (-1)) dX0_ownerOf_25 (by decide) ?_
      cases hf
      exact J_iretN dX0_ownerOf_26 rfl (by decide) (by decide)
    · refine J_icmp_ge (tgt := 25) dX0_ownerOf_5 (by decide) (fun w => absurd w c1) (fun _ => ?_)
      refine J_aload_n dX0_ownerOf_8 rfl rfl ?_
      refine J_iload_n dX0_ownerOf_9 rfl rfl ?_
      refine J_iload_n dX0_ownerOf_10 rfl rfl ?_
      obtain ⟨k2, hf⟩ := gds hf
      obtain ⟨vo3, zo3, ho3h, ho3, hf⟩ := rfs3 hf
      refine CV2i dX0_ownerOf_11 (mX0_covers hst ho3) tk_601 iX0_covers k2 (by decide) rfl ⟨by decide, by decide⟩ ⟨by decide, by decide⟩ (Nat.le_of_ble_eq_true rfl) ?_
      rcases br hf with ⟨c4, hf⟩ | ⟨c4, hf⟩
      · refine J_if_eq (tgt := 19) dX0_ownerOf_14 (by decide) (fun _ => ?_) (fun w => absurd c4 w)
        refine S_iinc_2 (v := x2 + 1) dX0_ownerOf_19 (congrArg (fun w => x2 + w) (by decide)) rfl (by decide) ?_
        refine J_goto (tgt := 2) dX0_ownerOf_22 (by decide) ?_
        refine J.sub (jsub_s (jsub_s (jsub_s (jsub_nil _)))) ?_
        exact hq2 _ _ _ _ _ _ hf
      · refine J_if_eq (tgt := 19) dX0_ownerOf_14 (by decide) (fun w => absurd w c4) (fun _ => ?_)
        refine J_iload_n dX0_ownerOf_17 rfl rfl ?_
        cases hf
        exact J_iretN dX0_ownerOf_18 rfl (by decide) (by decide)
theorem wfX0_ownerOf {g : JG} (hst : (jl g).stackTraces = false)   {a0 : Nat} {x1 : Int32} {z : Nat} {h : AH} {o : Int32 × Nat × AH} (hf : fX0_ownerOf  a0 x1 z h = some o) : J g MX0_ownerOf (jN g (some (.int o.1), o.2.1, o.2.2) rmX0_ownerOf.cells rmX0_ownerOf.slots) 0 [some (.ref a0), some (.int x1), none] [] z h 0 0 := by
  unfold fX0_ownerOf at hf
  refine J_iconst (v := 0) dX0_ownerOf_0 (by decide) ?_
  refine S_istore_n_2 dX0_ownerOf_1 rfl (by decide) ?_
  refine J.sub (jsub_s (jsub_s (jsub_s (jsub_nil _)))) ?_
  exact wlX0_ownerOf_2 hst   _ _ _ _ _ _ _ hf
theorem mX0_ownerOf {g : JG} (hst : (jl g).stackTraces = false) {a0 : Nat} {x1 : Int32} {z : Nat} {h : AH} {o : Int32 × Nat × AH} (hf : fX0_ownerOf a0 x1 z h = some o) : jMet g yX0_ownerOf (wj yX0_ownerOf cX0_ownerOf 3 (some .int)) rmX0_ownerOf [.ref a0, .int x1] z h (some (.int o.1), o.2.1, o.2.2) :=
  jMet_mk (by decide) (Nat.le_of_ble_eq_true rfl) [some (.ref a0), some (.int x1), none] rfl (wfX0_ownerOf hst hf)
def bX0_youngerThan_54 (q15 : Nat → Int32 → Int32 → Int32 → Int32 → Nat → AH → Option (Int32 × Nat × AH)) (a0 : Nat) (x1 : Int32) (x2 : Int32) (x3 : Int32) (x4 : Int32) (z : Nat) (h : AH) : Option (Int32 × Nat × AH) :=
  q15 a0 x1 x2 x3 (x4 + 1) z h
def lX0_youngerThan_15B  (q15 : Nat → Int32 → Int32 → Int32 → Int32 → Nat → AH → Option (Int32 × Nat × AH)) (a0 : Nat) (x1 : Int32) (x2 : Int32) (x3 : Int32) (x4 : Int32) (z : Nat) (h : AH) : Option (Int32 × Nat × AH) :=
  (if 10 ≤ x4 then (some (x3, z, h)) else (bd3 (fX8_inSet x2 x4 z h) (fun vo2 zo2 ho2h => (if vo2 = 0 then (bX0_youngerThan_54 q15 a0 x1 x2 x3 x4 zo2 ho2h) else (gd (kd ho2h a0 = 1) (Option.bind (rv ho2h a0 3) (fun b5 => gd (kd ho2h b5 = 13) (gd (¬ ((x4 : Int32) < 0 ∨ ln ho2h b5 ≤ Int32.toNatClampNeg x4)) (Option.bind (rv ho2h a0 3) (fun b8 => gd (kd ho2h b8 = 13) (gd (¬ ((x1 : Int32) < 0 ∨ ln ho2h b8 ≤ Int32.toNatClampNeg x1)) ((if (iv ho2h b5 (Int32.toNatClampNeg x4)) ≤ (iv ho2h b8 (Int32.toNatClampNeg x1)) then (bX0_youngerThan_54 q15 a0 x1 x2 x3 x4 zo2 ho2h) else (bl ((x3 ||| (1 <<< (x4 &&& 31)))) (fun v12 => bX0_youngerThan_54 q15 a0 x1 x2 v12 x4 zo2 ho2h)))))))))))))))
def lX0_youngerThan_15  : Nat → Nat → Int32 → Int32 → Int32 → Int32 → Nat → AH → Option (Int32 × Nat × AH)
  | 0 => fun _ _ _ _ _ _ _ => none
  | fuel + 1 => lX0_youngerThan_15B  (lX0_youngerThan_15  fuel)
def fX0_youngerThan  (a0 : Nat) (x1 : Int32) (x2 : Int32) (z : Nat) (h : AH) : Option (Int32 × Nat × AH) :=
  gd (kd h a0 = 1) (bd3 (fX0_has a0 x1 z h) (fun vo2 zo2 ho2h => (if vo2 = 0 then (some (0, zo2, ho2h)) else (lX0_youngerThan_15  fu a0 x1 x2 0 0 zo2 ho2h))))
theorem wbX0_youngerThan_54 {g : JG} (hst : (jl g).stackTraces = false) (q15 : Nat → Int32 → Int32 → Int32 → Int32 → Nat → AH → Option (Int32 × Nat × AH)) (hq15 : ∀ (a0 : Nat) (x1 : Int32) (x2 : Int32) (x3 : Int32) (x4 : Int32) (z : Nat) (h : AH) (o : Int32 × Nat × AH), q15 a0 x1 x2 x3 x4 z h = some o → J g MX0_youngerThan (jN g (some (.int o.1), o.2.1, o.2.2) rmX0_youngerThan.cells rmX0_youngerThan.slots) 15 [some (.ref a0), some (.int x1), some (.int x2), some (.int x3), some (.int x4)] [] z h 0 0) {a0 : Nat} {x1 : Int32} {x2 : Int32} {x3 : Int32} {x4 : Int32} {z : Nat} {h : AH} {o : Int32 × Nat × AH} (hf : bX0_youngerThan_54 q15 a0 x1 x2 x3 x4 z h = some o) : J g MX0_youngerThan (jN g (some (.int o.1), o.2.1, o.2.2) rmX0_youngerThan.cells rmX0_youngerThan.slots) 54 [some (.ref a0), some (.int x1), some (.int x2), some (.int x3), some (.int x4)] [] z h 0 0 := by
  unfold bX0_youngerThan_54 at hf
  refine S_iinc_4 (v := x4 + 1) dX0_youngerThan_54 (congrArg (fun w => x4 + w) (by decide)) rfl (by decide) ?_
  refine J_goto (tgt := 15) dX0_youngerThan_57 (by decide) ?_
  refine J.sub (jsub_s (jsub_s (jsub_s (jsub_s (jsub_s (jsub_nil _)))))) ?_
  exact hq15 _ _ _ _ _ _ _ _ hf
theorem wlX0_youngerThan_15 {g : JG} (hst : (jl g).stackTraces = false)   : ∀ (fuel : Nat) (a0 : Nat) (x1 : Int32) (x2 : Int32) (x3 : Int32) (x4 : Int32) (z : Nat) (h : AH) (o : Int32 × Nat × AH), lX0_youngerThan_15  fuel a0 x1 x2 x3 x4 z h = some o → J g MX0_youngerThan (jN g (some (.int o.1), o.2.1, o.2.2) rmX0_youngerThan.cells rmX0_youngerThan.slots) 15 [some (.ref a0), some (.int x1), some (.int x2), some (.int x3), some (.int x4)] [] z h 0 0 := by
  intro fuel
  induction fuel with
  | zero => intro a0 x1 x2 x3 x4 z h o hf; cases hf
  | succ fuel ih =>
    intro a0 x1 x2 x3 x4 z h o hf
    have hq15 := ih
    have hf : lX0_youngerThan_15B  (lX0_youngerThan_15  fuel) a0 x1 x2 x3 x4 z h = some o := hf
    generalize lX0_youngerThan_15  fuel = q15 at hf hq15
    unfold lX0_youngerThan_15B at hf
    refine J_iload dX0_youngerThan_15 rfl ?_
    refine J_bipush (v := 10) dX0_youngerThan_17 (by decide) ?_
    rcases br hf with ⟨c1, hf⟩ | ⟨c1, hf⟩
    · refine J_icmp_ge (tgt := 60) dX0_youngerThan_19 (by decide) (fun _ => ?_) (fun w => absurd c1 w)
      refine J_iload_n dX0_youngerThan_60 rfl rfl ?_
      cases hf
      exact J_iretN dX0_youngerThan_61 rfl (by decide) (by decide)
    · refine J_icmp_ge (tgt := 60) dX0_youngerThan_19 (by decide) (fun w => absurd w c1) (fun _ => ?_)
      refine J_iload_n dX0_youngerThan_22 rfl rfl ?_
      refine J_iload dX0_youngerThan_23 rfl ?_
      obtain ⟨vo2, zo2, ho2h, ho2, hf⟩ := rfs3 hf
      refine CSN2i dX0_youngerThan_25 (mX8_inSet hst ho2) tl_625 iX8_inSet ⟨by decide, by decide⟩ ⟨by decide, by decide⟩ (Nat.le_of_ble_eq_true rfl) ?_
      rcases br hf with ⟨c3, hf⟩ | ⟨c3, hf⟩
      · refine J_if_eq (tgt := 54) dX0_youngerThan_28 (by decide) (fun _ => ?_) (fun w => absurd c3 w)
        refine J.sub (jsub_s (jsub_s (jsub_s (jsub_s (jsub_s (jsub_nil _)))))) ?_
        exact wbX0_youngerThan_54 hst _ hq15 hf
      · refine J_if_eq (tgt := 54) dX0_youngerThan_28 (by decide) (fun w => absurd w c3) (fun _ => ?_)
        refine J_aload_n dX0_youngerThan_31 rfl rfl ?_
        obtain ⟨k4, hf⟩ := gds hf
        obtain ⟨b5, rb5, hf⟩ := rfs hf
        refine G_0_3 dX0_youngerThan_32 tk_99 k4 rb5 ?_
        refine J_iload dX0_youngerThan_35 rfl ?_
        obtain ⟨k6, hf⟩ := gds hf
        obtain ⟨n7, hf⟩ := gds hf
        refine J_iaload dX0_youngerThan_37 k6 n7 ?_
        refine J_aload_n dX0_youngerThan_38 rfl rfl ?_
        obtain ⟨b8, rb8, hf⟩ := rfs hf
        refine G_0_3 dX0_youngerThan_39 tk_99 k4 rb8 ?_
        refine J_iload_n dX0_youngerThan_42 rfl rfl ?_
        obtain ⟨k9, hf⟩ := gds hf
        obtain ⟨n10, hf⟩ := gds hf
        refine J_iaload dX0_youngerThan_43 k9 n10 ?_
        rcases br hf with ⟨c11, hf⟩ | ⟨c11, hf⟩
        · refine J_icmp_le (tgt := 54) dX0_youngerThan_44 (by decide) (fun _ => ?_) (fun w => absurd c11 w)
          refine J.sub (jsub_s (jsub_s (jsub_s (jsub_s (jsub_s (jsub_nil _)))))) ?_
          exact wbX0_youngerThan_54 hst _ hq15 hf
        · refine J_icmp_le (tgt := 54) dX0_youngerThan_44 (by decide) (fun w => absurd w c11) (fun _ => ?_)
          refine J_iload_n dX0_youngerThan_47 rfl rfl ?_
          refine J_iconst (v := 1) dX0_youngerThan_48 (by decide) ?_
          refine J_iload dX0_youngerThan_49 rfl ?_
          refine J_ishl dX0_youngerThan_51 ?_
          refine J_ior dX0_youngerThan_52 ?_
          obtain ⟨v12, ev12, hf⟩ := bls hf
          refine J_i ev12 ?_
          refine S_istore_n_3 dX0_youngerThan_53 rfl (by decide) ?_
          refine J.sub (jsub_s (jsub_s (jsub_s (jsub_s (jsub_s (jsub_nil _)))))) ?_
          exact wbX0_youngerThan_54 hst _ hq15 hf
theorem wfX0_youngerThan {g : JG} (hst : (jl g).stackTraces = false)   {a0 : Nat} {x1 : Int32} {x2 : Int32} {z : Nat} {h : AH} {o : Int32 × Nat × AH} (hf : fX0_youngerThan  a0 x1 x2 z h = some o) : J g MX0_youngerThan (jN g (some (.int o.1), o.2.1, o.2.2) rmX0_youngerThan.cells rmX0_youngerThan.slots) 0 [some (.ref a0), some (.int x1), some (.int x2), none, none] [] z h 0 0 := by
  unfold fX0_youngerThan at hf
  refine J_aload_n dX0_youngerThan_0 rfl rfl ?_
  refine J_iload_n dX0_youngerThan_1 rfl rfl ?_
  obtain ⟨k1, hf⟩ := gds hf
  obtain ⟨vo2, zo2, ho2h, ho2, hf⟩ := rfs3 hf
  refine CV1i dX0_youngerThan_2 (mX0_has hst ho2) tk_386 iX0_has k1 (by decide) rfl ⟨by decide, by decide⟩ ⟨by decide, by decide⟩ (Nat.le_of_ble_eq_true rfl) ?_
  rcases br hf with ⟨c3, hf⟩ | ⟨c3, hf⟩
  · refine J_if_ne (tgt := 10) dX0_youngerThan_5 (by decide) (fun w => absurd c3 w) (fun _ => ?_)
    refine J_iconst (v := 0) dX0_youngerThan_8 (by decide) ?_
    cases hf
    exact J_iretN dX0_youngerThan_9 rfl (by decide) (by decide)
  · refine J_if_ne (tgt := 10) dX0_youngerThan_5 (by decide) (fun _ => ?_) (fun w => absurd w c3)
    refine J_iconst (v := 0) dX0_youngerThan_10 (by decide) ?_
    refine S_istore_n_3 dX0_youngerThan_11 rfl (by decide) ?_
    refine J_iconst (v := 0) dX0_youngerThan_12 (by decide) ?_
    refine S_istore_4 dX0_youngerThan_13 rfl (by decide) ?_
    refine J.sub (jsub_s (jsub_s (jsub_s (jsub_s (jsub_s (jsub_nil _)))))) ?_
    exact wlX0_youngerThan_15 hst   _ _ _ _ _ _ _ _ _ hf
theorem mX0_youngerThan {g : JG} (hst : (jl g).stackTraces = false) {a0 : Nat} {x1 : Int32} {x2 : Int32} {z : Nat} {h : AH} {o : Int32 × Nat × AH} (hf : fX0_youngerThan a0 x1 x2 z h = some o) : jMet g yX0_youngerThan (wj yX0_youngerThan cX0_youngerThan 5 (some .int)) rmX0_youngerThan [.ref a0, .int x1, .int x2] z h (some (.int o.1), o.2.1, o.2.2) :=
  jMet_mk (by decide) (Nat.le_of_ble_eq_true rfl) [some (.ref a0), some (.int x1), some (.int x2), none, none] rfl (wfX0_youngerThan hst hf)
def fX0_queueUp  (a0 : Nat) (x1 : Int32) (x2 : Int32) (z : Nat) (h : AH) : Option (Nat × AH) :=
  gd (kd h a0 = 1) (bd3 (fX0_has a0 x1 z h) (fun vo2 zo2 ho2h => (if vo2 = 0 then (some (zo2, ho2h)) else (gd (kd ho2h a0 = 1) ((if 10 ≤ (iv ho2h a0 8) then (some (zo2, ho2h)) else (Option.bind (rv ho2h a0 4) (fun b6 => gd (kd ho2h b6 = 13) (gd (¬ ((x1 : Int32) < 0 ∨ ln ho2h b6 ≤ Int32.toNatClampNeg x1)) (bl (wI ho2h b6 (Int32.toNatClampNeg x1) 1) (fun h9 => Option.bind (rv h9 a0 6) (fun b11 => gd (kd h9 b11 = 13) (gd (¬ ((x1 : Int32) < 0 ∨ ln h9 b11 ≤ Int32.toNatClampNeg x1)) (bl (wI h9 b11 (Int32.toNatClampNeg x1) x2) (fun h14 => Option.bind (rv h14 a0 7) (fun b16 => gd (kd h14 b16 = 13) (gd (¬ (((iv h14 a0 8) : Int32) < 0 ∨ ln h14 b16 ≤ Int32.toNatClampNeg (iv h14 a0 8))) (bl (wI h14 b16 (Int32.toNatClampNeg (iv h14 a0 8)) x1) (fun h19 => bl (wI h19 a0 8 ((iv h19 a0 8) + 1)) (fun h21 => some (zo2, h21)))))))))))))))))))))
theorem wfX0_queueUp {g : JG} (hst : (jl g).stackTraces = false)   {a0 : Nat} {x1 : Int32} {x2 : Int32} {z : Nat} {h : AH} {o : Nat × AH} (hf : fX0_queueUp  a0 x1 x2 z h = some o) : J g MX0_queueUp (jN g (none, o.1, o.2) rmX0_queueUp.cells rmX0_queueUp.slots) 0 [some (.ref a0), some (.int x1), some (.int x2)] [] z h 0 0 := by
  unfold fX0_queueUp at hf
  refine J_aload_n dX0_queueUp_0 rfl rfl ?_
  refine J_iload_n dX0_queueUp_1 rfl rfl ?_
  obtain ⟨k1, hf⟩ := gds hf
  obtain ⟨vo2, zo2, ho2h, ho2, hf⟩ := rfs3 hf
  refine CV1i dX0_queueUp_2 (mX0_has hst ho2) tk_386 iX0_has k1 (by decide) rfl ⟨by decide, by decide⟩ ⟨by decide, by decide⟩ (Nat.le_of_ble_eq_true rfl) ?_
  rcases br hf with ⟨c3, hf⟩ | ⟨c3, hf⟩
  · refine J_if_eq (tgt := 51) dX0_queueUp_5 (by decide) (fun _ => ?_) (fun w => absurd c3 w)
    cases hf
    exact J_vretN dX0_queueUp_51 rfl (by decide) (by decide)
  · refine J_if_eq (tgt := 51) dX0_queueUp_5 (by decide) (fun w => absurd w c3) (fun _ => ?_)
    refine J_aload_n dX0_queueUp_8 rfl rfl ?_
    obtain ⟨k4, hf⟩ := gds hf
    refine G_0_8 dX0_queueUp_9 tk_112 k4 ?_
    refine J_bipush (v := 10) dX0_queueUp_12 (by decide) ?_
    rcases br hf with ⟨c5, hf⟩ | ⟨c5, hf⟩
    · refine J_icmp_ge (tgt := 51) dX0_queueUp_14 (by decide) (fun _ => ?_) (fun w => absurd c5 w)
      cases hf
      exact J_vretN dX0_queueUp_51 rfl (by decide) (by decide)
    · refine J_icmp_ge (tgt := 51) dX0_queueUp_14 (by decide) (fun w => absurd w c5) (fun _ => ?_)
      refine J_aload_n dX0_queueUp_17 rfl rfl ?_
      obtain ⟨b6, rb6, hf⟩ := rfs hf
      refine G_0_4 dX0_queueUp_18 tk_102 k4 rb6 ?_
      refine J_iload_n dX0_queueUp_21 rfl rfl ?_
      refine J_iconst (v := 1) dX0_queueUp_22 (by decide) ?_
      obtain ⟨k7, hf⟩ := gds hf
      obtain ⟨n8, hf⟩ := gds hf
      refine J_iastore dX0_queueUp_23 k7 n8 ?_
      obtain ⟨h9, eh9, hf⟩ := bls hf
      refine J_h eh9 ?_
      refine J_aload_n dX0_queueUp_24 rfl rfl ?_
      have k10 : kd h9 a0 = 1 := by rw [eh9]; exact k4
      obtain ⟨b11, rb11, hf⟩ := rfs hf
      refine G_0_6 dX0_queueUp_25 tk_108 k10 rb11 ?_
      refine J_iload_n dX0_queueUp_28 rfl rfl ?_
      refine J_iload_n dX0_queueUp_29 rfl rfl ?_
      obtain ⟨k12, hf⟩ := gds hf
      obtain ⟨n13, hf⟩ := gds hf
      refine J_iastore dX0_queueUp_30 k12 n13 ?_
      obtain ⟨h14, eh14, hf⟩ := bls hf
      refine J_h eh14 ?_
      refine J_aload_n dX0_queueUp_31 rfl rfl ?_
      have k15 : kd h14 a0 = 1 := by rw [eh14]; exact k10
      obtain ⟨b16, rb16, hf⟩ := rfs hf
      refine G_0_7 dX0_queueUp_32 tk_110 k15 rb16 ?_
      refine J_aload_n dX0_queueUp_35 rfl rfl ?_
      refine G_0_8 dX0_queueUp_36 tk_112 k15 ?_
      refine J_iload_n dX0_queueUp_39 rfl rfl ?_
      obtain ⟨k17, hf⟩ := gds hf
      obtain ⟨n18, hf⟩ := gds hf
      refine J_iastore dX0_queueUp_40 k17 n18 ?_
      obtain ⟨h19, eh19, hf⟩ := bls hf
      refine J_h eh19 ?_
      refine J_aload_n dX0_queueUp_41 rfl rfl ?_
      refine J_dup dX0_queueUp_42 rfl ?_
      have k20 : kd h19 a0 = 1 := by rw [eh19]; exact k15
      refine G_0_8 dX0_queueUp_43 tk_112 k20 ?_
      refine J_iconst (v := 1) dX0_queueUp_46 (by decide) ?_
      refine J_iadd dX0_queueUp_47 ?_
      refine P_0_8 dX0_queueUp_48 tk_112 k20 ?_
      obtain ⟨h21, eh21, hf⟩ := bls hf
      refine J_h eh21 ?_
      cases hf
      exact J_vretN dX0_queueUp_51 rfl (by decide) (by decide)
theorem mX0_queueUp {g : JG} (hst : (jl g).stackTraces = false) {a0 : Nat} {x1 : Int32} {x2 : Int32} {z : Nat} {h : AH} {o : Nat × AH} (hf : fX0_queueUp a0 x1 x2 z h = some o) : jMet g yX0_queueUp (wj yX0_queueUp cX0_queueUp 3 none) rmX0_queueUp [.ref a0, .int x1, .int x2] z h (none, o.1, o.2) :=
  jMet_mk (by decide) (Nat.le_of_ble_eq_true rfl) [some (.ref a0), some (.int x1), some (.int x2)] rfl (wfX0_queueUp hst hf)
def fX0_holds  (a0 : Nat) (x1 : Int32) (x2 : Int32) (z : Nat) (h : AH) : Option (Int32 × Nat × AH) :=
  gd (kd h a0 = 1) (bd3 (fX0_has a0 x1 z h) (fun vo2 zo2 ho2h => (if vo2 = 0 then (some (0, zo2, ho2h)) else (gd (kd ho2h a0 = 1) (Option.bind (rv ho2h a0 0) (fun b5 => gd (kd ho2h b5 = 3) (bd3 (fX2_has b5 x2 zo2 ho2h) (fun vo7 zo7 ho7h => (if vo7 = 0 then (some (0, zo7, ho7h)) else (gd (kd ho7h a0 = 1) (Option.bind (rv ho7h a0 5) (fun b10 => gd (kd ho7h b10 = 13) (gd (¬ ((x1 : Int32) < 0 ∨ ln ho7h b10 ≤ Int32.toNatClampNeg x1)) (bd3 (fX8_inSet (iv ho7h b10 (Int32.toNatClampNeg x1)) x2 zo7 ho7h) (fun vo13 zo13 ho13h => (if vo13 = 0 then (some (0, zo13, ho13h)) else (some (1, zo13, ho13h))))))))))))))))))
theorem wfX0_holds {g : JG} (hst : (jl g).stackTraces = false)   {a0 : Nat} {x1 : Int32} {x2 : Int32} {z : Nat} {h : AH} {o : Int32 × Nat × AH} (hf : fX0_holds  a0 x1 x2 z h = some o) : J g MX0_holds (jN g (some (.int o.1), o.2.1, o.2.2) rmX0_holds.cells rmX0_holds.slots) 0 [some (.ref a0), some (.int x1), some (.int x2)] [] z h 0 0 := by
  unfold fX0_holds at hf
  refine J_aload_n dX0_holds_0 rfl rfl ?_
  refine J_iload_n dX0_holds_1 rfl rfl ?_
  obtain ⟨k1, hf⟩ := gds hf
  obtain ⟨vo2, zo2, ho2h, ho2, hf⟩ := rfs3 hf
  refine CV1i dX0_holds_2 (mX0_has hst ho2) tk_386 iX0_has k1 (by decide) rfl ⟨by decide, by decide⟩ ⟨by decide, by decide⟩ (Nat.le_of_ble_eq_true rfl) ?_
  rcases br hf with ⟨c3, hf⟩ | ⟨c3, hf⟩
  · refine J_if_eq (tgt := 36) dX0_holds_5 (by decide) (fun _ => ?_) (fun w => absurd c3 w)
    refine J_iconst (v := 0) dX0_holds_36 (by decide) ?_
    cases hf
    exact J_zretN dX0_holds_37 rfl (Or.inl rfl) (by decide) (by decide)
  · refine J_if_eq (tgt := 36) dX0_holds_5 (by decide) (fun w => absurd w c3) (fun _ => ?_)
    refine J_aload_n dX0_holds_8 rfl rfl ?_
    obtain ⟨k4, hf⟩ := gds hf
    obtain ⟨b5, rb5, hf⟩ := rfs hf
    refine G_0_0 dX0_holds_9 tk_91 k4 rb5 ?_
    refine J_iload_n dX0_holds_12 rfl rfl ?_
    obtain ⟨k6, hf⟩ := gds hf
    obtain ⟨vo7, zo7, ho7h, ho7, hf⟩ := rfs3 hf
    refine CV1i dX0_holds_13 (mX2_has hst ho7) tk_398 iX2_has k6 (by decide) rfl ⟨by decide, by decide⟩ ⟨by decide, by decide⟩ (Nat.le_of_ble_eq_true rfl) ?_
    rcases br hf with ⟨c8, hf⟩ | ⟨c8, hf⟩
    · refine J_if_eq (tgt := 36) dX0_holds_16 (by decide) (fun _ => ?_) (fun w => absurd c8 w)
      refine J_iconst (v := 0) dX0_holds_36 (by decide) ?_
      cases hf
      exact J_zretN dX0_holds_37 rfl (Or.inl rfl) (by decide) (by decide)
    · refine J_if_eq (tgt := 36) dX0_holds_16 (by decide) (fun w => absurd w c8) (fun _ => ?_)
      refine J_aload_n dX0_holds_19 rfl rfl ?_
      obtain ⟨k9, hf⟩ := gds hf
      obtain ⟨b10, rb10, hf⟩ := rfs hf
      refine G_0_5 dX0_holds_20 tk_105 k9 rb10 ?_
      refine J_iload_n dX0_holds_23 rfl rfl ?_
      obtain ⟨k11, hf⟩ := gds hf
      obtain ⟨n12, hf⟩ := gds hf
      refine J_iaload dX0_holds_24 k11 n12 ?_
      refine J_iload_n dX0_holds_25 rfl rfl ?_
      obtain ⟨vo13, zo13, ho13h, ho13, hf⟩ := rfs3 hf
      refine CSN2i dX0_holds_26 (mX8_inSet hst ho13) tl_625 iX8_inSet ⟨by decide, by decide⟩ ⟨by decide, by decide⟩ (Nat.le_of_ble_eq_true rfl) ?_
      rcases br hf with ⟨c14, hf⟩ | ⟨c14, hf⟩
      · refine J_if_eq (tgt := 36) dX0_holds_29 (by decide) (fun _ => ?_) (fun w => absurd c14 w)
        refine J_iconst (v := 0) dX0_holds_36 (by decide) ?_
        cases hf
        exact J_zretN dX0_holds_37 rfl (Or.inl rfl) (by decide) (by decide)
      · refine J_if_eq (tgt := 36) dX0_holds_29 (by decide) (fun w => absurd w c14) (fun _ => ?_)
        refine J_iconst (v := 1) dX0_holds_32 (by decide) ?_
        refine J_goto (tgt := 37) dX0_holds_33 (by decide) ?_
        cases hf
        exact J_zretN dX0_holds_37 rfl (Or.inr rfl) (by decide) (by decide)
theorem mX0_holds {g : JG} (hst : (jl g).stackTraces = false) {a0 : Nat} {x1 : Int32} {x2 : Int32} {z : Nat} {h : AH} {o : Int32 × Nat × AH} (hf : fX0_holds a0 x1 x2 z h = some o) : jMet g yX0_holds (wj yX0_holds cX0_holds 3 (some .boolean)) rmX0_holds [.ref a0, .int x1, .int x2] z h (some (.int o.1), o.2.1, o.2.2) :=
  jMet_mk (by decide) (Nat.le_of_ble_eq_true rfl) [some (.ref a0), some (.int x1), some (.int x2)] rfl (wfX0_holds hst hf)
def fX0_letGo  (a0 : Nat) (x1 : Int32) (x2 : Int32) (z : Nat) (h : AH) : Option (Nat × AH) :=
  gd (kd h a0 = 1) (bd3 (fX0_holds a0 x1 x2 z h) (fun vo2 zo2 ho2h => (if vo2 = 0 then (some (zo2, ho2h)) else (gd (kd ho2h a0 = 1) (Option.bind (rv ho2h a0 5) (fun b5 => gd (kd ho2h b5 = 13) (gd (¬ ((x1 : Int32) < 0 ∨ ln ho2h b5 ≤ Int32.toNatClampNeg x1)) (gd (¬ ((x1 : Int32) < 0 ∨ ln ho2h b5 ≤ Int32.toNatClampNeg x1)) (bl (wI ho2h b5 (Int32.toNatClampNeg x1) ((iv ho2h b5 (Int32.toNatClampNeg x1)) &&& ((1 <<< (x2 &&& 31)) ^^^ (-1)))) (fun h9 => some (zo2, h9)))))))))))
theorem wfX0_letGo {g : JG} (hst : (jl g).stackTraces = false)   {a0 : Nat} {x1 : Int32} {x2 : Int32} {z : Nat} {h : AH} {o : Nat × AH} (hf : fX0_letGo  a0 x1 x2 z h = some o) : J g MX0_letGo (jN g (none, o.1, o.2) rmX0_letGo.cells rmX0_letGo.slots) 0 [some (.ref a0), some (.int x1), some (.int x2)] [] z h 0 0 := by
  unfold fX0_letGo at hf
  refine J_aload_n dX0_letGo_0 rfl rfl ?_
  refine J_iload_n dX0_letGo_1 rfl rfl ?_
  refine J_iload_n dX0_letGo_2 rfl rfl ?_
  obtain ⟨k1, hf⟩ := gds hf
  obtain ⟨vo2, zo2, ho2h, ho2, hf⟩ := rfs3 hf
  refine CV2i dX0_letGo_3 (mX0_holds hst ho2) tk_696 iX0_holds k1 (by decide) rfl ⟨by decide, by decide⟩ ⟨by decide, by decide⟩ (Nat.le_of_ble_eq_true rfl) ?_
  rcases br hf with ⟨c3, hf⟩ | ⟨c3, hf⟩
  · refine J_if_eq (tgt := 23) dX0_letGo_6 (by decide) (fun _ => ?_) (fun w => absurd c3 w)
    cases hf
    exact J_vretN dX0_letGo_23 rfl (by decide) (by decide)
  · refine J_if_eq (tgt := 23) dX0_letGo_6 (by decide) (fun w => absurd w c3) (fun _ => ?_)
    refine J_aload_n dX0_letGo_9 rfl rfl ?_
    obtain ⟨k4, hf⟩ := gds hf
    obtain ⟨b5, rb5, hf⟩ := rfs hf
    refine G_0_5 dX0_letGo_10 tk_105 k4 rb5 ?_
    refine J_iload_n dX0_letGo_13 rfl rfl ?_
    refine J_dup2 dX0_letGo_14 rfl rfl ?_
    obtain ⟨k6, hf⟩ := gds hf
    obtain ⟨n7, hf⟩ := gds hf
    refine J_iaload dX0_letGo_15 k6 n7 ?_
    refine J_iconst (v := 1) dX0_letGo_16 (by decide) ?_
    refine J_iload_n dX0_letGo_17 rfl rfl ?_
    refine J_ishl dX0_letGo_18 ?_
    refine J_iconst (v := (-1)) dX0_letGo_19 (by decide) ?_
    refine J_ixor dX0_letGo_20 ?_
    refine J_iand dX0_letGo_21 ?_
    obtain ⟨n8, hf⟩ := gds hf
    refine J_iastore dX0_letGo_22 k6 n8 ?_
    obtain ⟨h9, eh9, hf⟩ := bls hf
    refine J_h eh9 ?_
    cases hf
    exact J_vretN dX0_letGo_23 rfl (by decide) (by decide)
theorem mX0_letGo {g : JG} (hst : (jl g).stackTraces = false) {a0 : Nat} {x1 : Int32} {x2 : Int32} {z : Nat} {h : AH} {o : Nat × AH} (hf : fX0_letGo a0 x1 x2 z h = some o) : jMet g yX0_letGo (wj yX0_letGo cX0_letGo 3 none) rmX0_letGo [.ref a0, .int x1, .int x2] z h (none, o.1, o.2) :=
  jMet_mk (by decide) (Nat.le_of_ble_eq_true rfl) [some (.ref a0), some (.int x1), some (.int x2)] rfl (wfX0_letGo hst hf)
def fX0_revive  (a0 : Nat) (x1 : Int32) (z : Nat) (h : AH) : Option (Int32 × Nat × AH) :=
  gd (kd h a0 = 1) (bd3 (fX0_has a0 x1 z h) (fun vo2 zo2 ho2h => (if vo2 = 0 then (some ((-1), zo2, ho2h)) else (gd (kd ho2h a0 = 1) (Option.bind (rv ho2h a0 4) (fun b5 => gd (kd ho2h b5 = 13) (gd (¬ ((x1 : Int32) < 0 ∨ ln ho2h b5 ≤ Int32.toNatClampNeg x1)) (bl (wI ho2h b5 (Int32.toNatClampNeg x1) 0) (fun h8 => Option.bind (rv h8 a0 3) (fun b10 => gd (kd h8 b10 = 13) (gd (¬ ((x1 : Int32) < 0 ∨ ln h8 b10 ≤ Int32.toNatClampNeg x1)) (some ((iv h8 b10 (Int32.toNatClampNeg x1)), zo2, h8)))))))))))))
theorem wfX0_revive {g : JG} (hst : (jl g).stackTraces = false)   {a0 : Nat} {x1 : Int32} {z : Nat} {h : AH} {o : Int32 × Nat × AH} (hf : fX0_revive  a0 x1 z h = some o) : J g MX0_revive (jN g (some (.int o.1), o.2.1, o.2.2) rmX0_revive.cells rmX0_revive.slots) 0 [some (.ref a0), some (.int x1)] [] z h 0 0 := by
  unfold fX0_revive at hf
  refine J_aload_n dX0_revive_0 rfl rfl ?_
  refine J_iload_n dX0_revive_1 rfl rfl ?_
  obtain ⟨k1, hf⟩ := gds hf
  obtain ⟨vo2, zo2, ho2h, ho2, hf⟩ := rfs3 hf
  refine CV1i dX0_revive_2 (mX0_has hst ho2) tk_386 iX0_has k1 (by decide) rfl ⟨by decide, by decide⟩ ⟨by decide, by decide⟩ (Nat.le_of_ble_eq_true rfl) ?_
  rcases br hf with ⟨c3, hf⟩ | ⟨c3, hf⟩
  · refine J_if_ne (tgt := 10) dX0_revive_5 (by decide) (fun w => absurd c3 w) (fun _ => ?_)
    refine J_iconst (v := (-1)) dX0_revive_8 (by decide) ?_
    cases hf
    exact J_iretN dX0_revive_9 rfl (by decide) (by decide)
  · refine J_if_ne (tgt := 10) dX0_revive_5 (by decide) (fun _ => ?_) (fun w => absurd w c3)
    refine J_aload_n dX0_revive_10 rfl rfl ?_
    obtain ⟨k4, hf⟩ := gds hf
    obtain ⟨b5, rb5, hf⟩ := rfs hf
    refine G_0_4 dX0_revive_11 tk_102 k4 rb5 ?_
    refine J_iload_n dX0_revive_14 rfl rfl ?_
    refine J_iconst (v := 0) dX0_revive_15 (by decide) ?_
    obtain ⟨k6, hf⟩ := gds hf
    obtain ⟨n7, hf⟩ := gds hf
    refine J_iastore dX0_revive_16 k6 n7 ?_
    obtain ⟨h8, eh8, hf⟩ := bls hf
    refine J_h eh8 ?_
    refine J_aload_n dX0_revive_17 rfl rfl ?_
    have k9 : kd h8 a0 = 1 := by rw [eh8]; exact k4
    obtain ⟨b10, rb10, hf⟩ := rfs hf
    refine G_0_3 dX0_revive_18 tk_99 k9 rb10 ?_
    refine J_iload_n dX0_revive_21 rfl rfl ?_
    obtain ⟨k11, hf⟩ := gds hf
    obtain ⟨n12, hf⟩ := gds hf
    refine J_iaload dX0_revive_22 k11 n12 ?_
    cases hf
    exact J_iretN dX0_revive_23 rfl (by decide) (by decide)
theorem mX0_revive {g : JG} (hst : (jl g).stackTraces = false) {a0 : Nat} {x1 : Int32} {z : Nat} {h : AH} {o : Int32 × Nat × AH} (hf : fX0_revive a0 x1 z h = some o) : jMet g yX0_revive (wj yX0_revive cX0_revive 2 (some .int)) rmX0_revive [.ref a0, .int x1] z h (some (.int o.1), o.2.1, o.2.2) :=
  jMet_mk (by decide) (Nat.le_of_ble_eq_true rfl) [some (.ref a0), some (.int x1)] rfl (wfX0_revive hst hf)
def lX0_positionOf_2B  (q2 : Nat → Int32 → Int32 → Nat → AH → Option (Int32 × Nat × AH)) (a0 : Nat) (x1 : Int32) (x2 : Int32) (z : Nat) (h : AH) : Option (Int32 × Nat × AH) :=
  gd (kd h a0 = 1) ((if (iv h a0 8) ≤ x2 then (some ((-1), z, h)) else ((if 10 ≤ x2 then (some ((-1), z, h)) else (Option.bind (rv h a0 7) (fun b4 => gd (kd h b4 = 13) (gd (¬ ((x2 : Int32) < 0 ∨ ln h b4 ≤ Int32.toNatClampNeg x2)) ((if (iv h b4 (Int32.toNatClampNeg x2)) = x1 then (some (x2, z, h)) else (q2 a0 x1 (x2 + 1) z h))))))))))
def lX0_positionOf_2  : Nat → Nat → Int32 → Int32 → Nat → AH → Option (Int32 × Nat × AH)
  | 0 => fun _ _ _ _ _ => none
  | fuel + 1 => lX0_positionOf_2B  (lX0_positionOf_2  fuel)
def fX0_positionOf  (a0 : Nat) (x1 : Int32) (z : Nat) (h : AH) : Option (Int32 × Nat × AH) :=
  lX0_positionOf_2  fu a0 x1 0 z h
theorem wlX0_positionOf_2 {g : JG} (hst : (jl g).stackTraces = false)   : ∀ (fuel : Nat) (a0 : Nat) (x1 : Int32) (x2 : Int32) (z : Nat) (h : AH) (o : Int32 × Nat × AH), lX0_positionOf_2  fuel a0 x1 x2 z h = some o → J g MX0_positionOf (jN g (some (.int o.1), o.2.1, o.2.2) rmX0_positionOf.cells rmX0_positionOf.slots) 2 [some (.ref a0), some (.int x1), some (.int x2)] [] z h 0 0 := by
  intro fuel
  induction fuel with
  | zero => intro a0 x1 x2 z h o hf; cases hf
  | succ fuel ih =>
    intro a0 x1 x2 z h o hf
    have hq2 := ih
    have hf : lX0_positionOf_2B  (lX0_positionOf_2  fuel) a0 x1 x2 z h = some o := hf
    generalize lX0_positionOf_2  fuel = q2 at hf hq2
    unfold lX0_positionOf_2B at hf
    refine J_iload_n dX0_positionOf_2 rfl rfl ?_
    refine J_aload_n dX0_positionOf_3 rfl rfl ?_
    obtain ⟨k1, hf⟩ := gds hf
    refine G_0_8 dX0_positionOf_4 tk_112 k1 ?_
    rcases br hf with ⟨c2, hf⟩ | ⟨c2, hf⟩
    · refine J_icmp_ge (tgt := 34) dX0_positionOf_7 (by decide) (fun _ => ?_) (fun w => absurd c2 w)
      refine J_iconst (v := (-1)) dX0_positionOf_34 (by decide) ?_
      cases hf
      exact J_iretN dX0_positionOf_35 rfl (by decide) (by decide)
    · refine J_icmp_ge (tgt := 34) dX0_positionOf_7 (by decide) (fun w => absurd w c2) (fun _ => ?_)
      refine J_iload_n dX0_positionOf_10 rfl rfl ?_
      refine J_bipush (v := 10) dX0_positionOf_11 (by decide) ?_
      rcases br hf with ⟨c3, hf⟩ | ⟨c3, hf⟩
      · refine J_icmp_ge (tgt := 34) dX0_positionOf_13 (by decide) (fun _ => ?_) (fun w => absurd c3 w)
        refine J_iconst (v := (-1)) dX0_positionOf_34 (by decide) ?_
        cases hf
        exact J_iretN dX0_positionOf_35 rfl (by decide) (by decide)
      · refine J_icmp_ge (tgt := 34) dX0_positionOf_13 (by decide) (fun w => absurd w c3) (fun _ => ?_)
        refine J_aload_n dX0_positionOf_16 rfl rfl ?_
        obtain ⟨b4, rb4, hf⟩ := rfs hf
        refine G_0_7 dX0_positionOf_17 tk_110 k1 rb4 ?_
        refine J_iload_n dX0_positionOf_20 rfl rfl ?_
        obtain ⟨k5, hf⟩ := gds hf
        obtain ⟨n6, hf⟩ := gds hf
        refine J_iaload dX0_positionOf_21 k5 n6 ?_
        refine J_iload_n dX0_positionOf_22 rfl rfl ?_
        rcases br hf with ⟨c7, hf⟩ | ⟨c7, hf⟩
        · refine J_icmp_ne (tgt := 28) dX0_positionOf_23 (by decide) (fun w => absurd c7 w) (fun _ => ?_)
          refine J_iload_n dX0_positionOf_26 rfl rfl ?_
          cases hf
          exact J_iretN dX0_positionOf_27 rfl (by decide) (by decide)
        · refine J_icmp_ne (tgt := 28) dX0_positionOf_23 (by decide) (fun _ => ?_) (fun w => absurd w c7)
          refine S_iinc_2 (v := x2 + 1) dX0_positionOf_28 (congrArg (fun w => x2 + w) (by decide)) rfl (by decide) ?_
          refine J_goto (tgt := 2) dX0_positionOf_31 (by decide) ?_
          refine J.sub (jsub_s (jsub_s (jsub_s (jsub_nil _)))) ?_
          exact hq2 _ _ _ _ _ _ hf
theorem wfX0_positionOf {g : JG} (hst : (jl g).stackTraces = false)   {a0 : Nat} {x1 : Int32} {z : Nat} {h : AH} {o : Int32 × Nat × AH} (hf : fX0_positionOf  a0 x1 z h = some o) : J g MX0_positionOf (jN g (some (.int o.1), o.2.1, o.2.2) rmX0_positionOf.cells rmX0_positionOf.slots) 0 [some (.ref a0), some (.int x1), none] [] z h 0 0 := by
  unfold fX0_positionOf at hf
  refine J_iconst (v := 0) dX0_positionOf_0 (by decide) ?_
  refine S_istore_n_2 dX0_positionOf_1 rfl (by decide) ?_
  refine J.sub (jsub_s (jsub_s (jsub_s (jsub_nil _)))) ?_
  exact wlX0_positionOf_2 hst   _ _ _ _ _ _ _ hf
theorem mX0_positionOf {g : JG} (hst : (jl g).stackTraces = false) {a0 : Nat} {x1 : Int32} {z : Nat} {h : AH} {o : Int32 × Nat × AH} (hf : fX0_positionOf a0 x1 z h = some o) : jMet g yX0_positionOf (wj yX0_positionOf cX0_positionOf 3 (some .int)) rmX0_positionOf [.ref a0, .int x1] z h (some (.int o.1), o.2.1, o.2.2) :=
  jMet_mk (by decide) (Nat.le_of_ble_eq_true rfl) [some (.ref a0), some (.int x1), none] rfl (wfX0_positionOf hst hf)
def lX0_lowestRunning_2B  (q2 : Nat → Int32 → Nat → AH → Option (Int32 × Nat × AH)) (a0 : Nat) (x1 : Int32) (z : Nat) (h : AH) : Option (Int32 × Nat × AH) :=
  (if 10 ≤ x1 then (some ((-1), z, h)) else (gd (kd h a0 = 1) (bd3 (fX0_isIn a0 x1 0 z h) (fun vo3 zo3 ho3h => (if vo3 = 0 then (q2 a0 (x1 + 1) zo3 ho3h) else (some (x1, zo3, ho3h)))))))
def lX0_lowestRunning_2  : Nat → Nat → Int32 → Nat → AH → Option (Int32 × Nat × AH)
  | 0 => fun _ _ _ _ => none
  | fuel + 1 => lX0_lowestRunning_2B  (lX0_lowestRunning_2  fuel)
def fX0_lowestRunning  (a0 : Nat) (z : Nat) (h : AH) : Option (Int32 × Nat × AH) :=
  lX0_lowestRunning_2  fu a0 0 z h
theorem wlX0_lowestRunning_2 {g : JG} (hst : (jl g).stackTraces = false)   : ∀ (fuel : Nat) (a0 : Nat) (x1 : Int32) (z : Nat) (h : AH) (o : Int32 × Nat × AH), lX0_lowestRunning_2  fuel a0 x1 z h = some o → J g MX0_lowestRunning (jN g (some (.int o.1), o.2.1, o.2.2) rmX0_lowestRunning.cells rmX0_lowestRunning.slots) 2 [some (.ref a0), some (.int x1)] [] z h 0 0 := by
  intro fuel
  induction fuel with
  | zero => intro a0 x1 z h o hf; cases hf
  | succ fuel ih =>
    intro a0 x1 z h o hf
    have hq2 := ih
    have hf : lX0_lowestRunning_2B  (lX0_lowestRunning_2  fuel) a0 x1 z h = some o := hf
    generalize lX0_lowestRunning_2  fuel = q2 at hf hq2
    unfold lX0_lowestRunning_2B at hf
    refine J_iload_n dX0_lowestRunning_2 rfl rfl ?_
    refine J_bipush (v := 10) dX0_lowestRunning_3 (by decide) ?_
    rcases br hf with ⟨c1, hf⟩ | ⟨c1, hf⟩
    · refine J_icmp_ge (tgt := 25) dX0_lowestRunning_5 (by decide) (fun _ => ?_) (fun w => absurd c1 w)
      refine J_iconst (v := (-1)) dX0_lowestRunning_25 (by decide) ?_
      cases hf
      exact J_iretN dX0_lowestRunning_26 rfl (by decide) (by decide)
    · refine J_icmp_ge (tgt := 25) dX0_lowestRunning_5 (by decide) (fun w => absurd w c1) (fun _ => ?_)
      refine J_aload_n dX0_lowestRunning_8 rfl rfl ?_
      refine J_iload_n dX0_lowestRunning_9 rfl rfl ?_
      refine J_iconst (v := 0) dX0_lowestRunning_10 (by decide) ?_
      obtain ⟨k2, hf⟩ := gds hf
      obtain ⟨vo3, zo3, ho3h, ho3, hf⟩ := rfs3 hf
      refine CV2i dX0_lowestRunning_11 (mX0_isIn hst ho3) tk_300 iX0_isIn k2 (by decide) rfl ⟨by decide, by decide⟩ ⟨by decide, by decide⟩ (Nat.le_of_ble_eq_true rfl) ?_
      rcases br hf with ⟨c4, hf⟩ | ⟨c4, hf⟩
      · refine J_if_eq (tgt := 19) dX0_lowestRunning_14 (by decide) (fun _ => ?_) (fun w => absurd c4 w)
        refine S_iinc_1 (v := x1 + 1) dX0_lowestRunning_19 (congrArg (fun w => x1 + w) (by decide)) rfl (by decide) ?_
        refine J_goto (tgt := 2) dX0_lowestRunning_22 (by decide) ?_
        refine J.sub (jsub_s (jsub_s (jsub_nil _))) ?_
        exact hq2 _ _ _ _ _ hf
      · refine J_if_eq (tgt := 19) dX0_lowestRunning_14 (by decide) (fun w => absurd w c4) (fun _ => ?_)
        refine J_iload_n dX0_lowestRunning_17 rfl rfl ?_
        cases hf
        exact J_iretN dX0_lowestRunning_18 rfl (by decide) (by decide)
theorem wfX0_lowestRunning {g : JG} (hst : (jl g).stackTraces = false)   {a0 : Nat} {z : Nat} {h : AH} {o : Int32 × Nat × AH} (hf : fX0_lowestRunning  a0 z h = some o) : J g MX0_lowestRunning (jN g (some (.int o.1), o.2.1, o.2.2) rmX0_lowestRunning.cells rmX0_lowestRunning.slots) 0 [some (.ref a0), none] [] z h 0 0 := by
  unfold fX0_lowestRunning at hf
  refine J_iconst (v := 0) dX0_lowestRunning_0 (by decide) ?_
  refine S_istore_n_1 dX0_lowestRunning_1 rfl (by decide) ?_
  refine J.sub (jsub_s (jsub_s (jsub_nil _))) ?_
  exact wlX0_lowestRunning_2 hst   _ _ _ _ _ _ hf
theorem mX0_lowestRunning {g : JG} (hst : (jl g).stackTraces = false) {a0 : Nat} {z : Nat} {h : AH} {o : Int32 × Nat × AH} (hf : fX0_lowestRunning a0 z h = some o) : jMet g yX0_lowestRunning (wj yX0_lowestRunning cX0_lowestRunning 2 (some .int)) rmX0_lowestRunning [.ref a0] z h (some (.int o.1), o.2.1, o.2.2) :=
  jMet_mk (by decide) (Nat.le_of_ble_eq_true rfl) [some (.ref a0), none] rfl (wfX0_lowestRunning hst hf)
