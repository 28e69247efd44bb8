/-! decompiled methods and their walks (printed by gen/gen.py) -/
def fX2_init  (a0 : Nat) (z : Nat) (h : AH) : Option (Nat × AH) :=
  bl (wNew h z 13 16) (fun h1 => gd (kd h1 a0 = 3) (bl (wR h1 a0 0 (some z)) (fun h4 => bl (wNew h4 (z + 1) 13 16) (fun h5 => gd (kd h5 a0 = 3) (bl (wR h5 a0 1 (some (z + 1))) (fun h8 => bl (wNew h8 ((z + 1) + 1) 13 16) (fun h9 => gd (kd h9 a0 = 3) (bl (wR h9 a0 2 (some ((z + 1) + 1))) (fun h12 => some ((((z + 1) + 1) + 1), h12))))))))))
theorem wfX2_init {g : JG} (hst : (jl g).stackTraces = false)   {a0 : Nat} {z : Nat} {h : AH} {o : Nat × AH} (hf : fX2_init  a0 z h = some o) : J g MX2_init (jN g (none, o.1, o.2) rmX2_init.cells rmX2_init.slots) 0 [some (.ref a0)] [] z h 0 0 := by
  unfold fX2_init at hf
  refine J_aload_n dX2_init_0 rfl rfl ?_
  refine J_objInit dX2_init_1 tk_38 tk_25 tk_26 (by decide) (Nat.le_of_ble_eq_true rfl) ?_
  refine J_aload_n dX2_init_4 rfl rfl ?_
  refine J_bipush (v := 16) dX2_init_5 (by decide) ?_
  refine J_newarr (ty := .int) (N := 16) (t := 2) (kk0 := 13) dX2_init_7 rfl tk_58 (by decide) (by decide) (by decide) (fun _ => rfl) (fun _ _ hh => hh) (fun ca => ⟨_, rfl, rfl⟩) (by decide) (by decide) ?_
  obtain ⟨h1, eh1, hf⟩ := bls hf
  refine J_h eh1 ?_
  have k2 : kd h1 z = 13 := by rw [eh1]; exact wNew_kd _ _ _ _
  obtain ⟨k3, hf⟩ := gds hf
  refine P_2_0 dX2_init_9 tk_39 k3 rfl rfl ?_
  obtain ⟨h4, eh4, hf⟩ := bls hf
  refine J_h eh4 ?_
  refine J_aload_n dX2_init_12 rfl rfl ?_
  refine J_bipush (v := 16) dX2_init_13 (by decide) ?_
  refine J_newarr (ty := .int) (N := 16) (t := 2) (kk0 := 13) dX2_init_15 rfl tk_58 (by decide) (by decide) (by decide) (fun _ => rfl) (fun _ _ hh => hh) (fun ca => ⟨_, rfl, rfl⟩) (by decide) (by decide) ?_
  obtain ⟨h5, eh5, hf⟩ := bls hf
  refine J_h eh5 ?_
  have k6 : kd h5 (z + 1) = 13 := by rw [eh5]; exact wNew_kd _ _ _ _
  obtain ⟨k7, hf⟩ := gds hf
  refine P_2_1 dX2_init_17 tk_41 k7 rfl rfl ?_
  obtain ⟨h8, eh8, hf⟩ := bls hf
  refine J_h eh8 ?_
  refine J_aload_n dX2_init_20 rfl rfl ?_
  refine J_bipush (v := 16) dX2_init_21 (by decide) ?_
  refine J_newarr (ty := .int) (N := 16) (t := 2) (kk0 := 13) dX2_init_23 rfl tk_58 (by decide) (by decide) (by decide) (fun _ => rfl) (fun _ _ hh => hh) (fun ca => ⟨_, rfl, rfl⟩) (by decide) (by decide) ?_
  obtain ⟨h9, eh9, hf⟩ := bls hf
  refine J_h eh9 ?_
  have k10 : kd h9 ((z + 1) + 1) = 13 := by rw [eh9]; exact wNew_kd _ _ _ _
  obtain ⟨k11, hf⟩ := gds hf
  refine P_2_2 dX2_init_25 tk_44 k11 rfl rfl ?_
  obtain ⟨h12, eh12, hf⟩ := bls hf
  refine J_h eh12 ?_
  cases hf
  exact J_vretN dX2_init_28 rfl (by decide) (by decide)
theorem mX2_init {g : JG} (hst : (jl g).stackTraces = false) {a0 : Nat} {z : Nat} {h : AH} {o : Nat × AH} (hf : fX2_init a0 z h = some o) : jMet g yX2_init (wj yX2_init cX2_init 1 none) rmX2_init [.ref a0] z h (none, o.1, o.2) :=
  jMet_mk (by decide) (Nat.le_of_ble_eq_true rfl) [some (.ref a0)] rfl (wfX2_init hst hf)
def fX4_init  (a0 : Nat) (z : Nat) (h : AH) : Option (Nat × AH) :=
  bl (wNew h z 14 40) (fun h1 => gd (kd h1 a0 = 5) (bl (wR h1 a0 0 (some z)) (fun h4 => bl (wNew h4 (z + 1) 13 40) (fun h5 => gd (kd h5 a0 = 5) (bl (wR h5 a0 1 (some (z + 1))) (fun h8 => bl (wNew h8 ((z + 1) + 1) 13 40) (fun h9 => gd (kd h9 a0 = 5) (bl (wR h9 a0 2 (some ((z + 1) + 1))) (fun h12 => bl (wNew h12 (((z + 1) + 1) + 1) 13 40) (fun h13 => gd (kd h13 a0 = 5) (bl (wR h13 a0 3 (some (((z + 1) + 1) + 1))) (fun h16 => some (((((z + 1) + 1) + 1) + 1), h16)))))))))))))
theorem wfX4_init {g : JG} (hst : (jl g).stackTraces = false)   {a0 : Nat} {z : Nat} {h : AH} {o : Nat × AH} (hf : fX4_init  a0 z h = some o) : J g MX4_init (jN g (none, o.1, o.2) rmX4_init.cells rmX4_init.slots) 0 [some (.ref a0)] [] z h 0 0 := by
  unfold fX4_init at hf
  refine J_aload_n dX4_init_0 rfl rfl ?_
  refine J_objInit dX4_init_1 tk_64 tk_25 tk_26 (by decide) (Nat.le_of_ble_eq_true rfl) ?_
  refine J_aload_n dX4_init_4 rfl rfl ?_
  refine J_bipush (v := 40) dX4_init_5 (by decide) ?_
  refine J_newarr (ty := .long) (N := 40) (t := 3) (kk0 := 14) dX4_init_7 rfl tk_90 (by decide) (by decide) (by decide) (fun _ => rfl) (fun _ _ hh => hh) (fun ca => ⟨_, rfl, rfl⟩) (by decide) (by decide) ?_
  obtain ⟨h1, eh1, hf⟩ := bls hf
  refine J_h eh1 ?_
  have k2 : kd h1 z = 14 := by rw [eh1]; exact wNew_kd _ _ _ _
  obtain ⟨k3, hf⟩ := gds hf
  refine P_4_0 dX4_init_9 tk_65 k3 rfl rfl ?_
  obtain ⟨h4, eh4, hf⟩ := bls hf
  refine J_h eh4 ?_
  refine J_aload_n dX4_init_12 rfl rfl ?_
  refine J_bipush (v := 40) dX4_init_13 (by decide) ?_
  refine J_newarr (ty := .int) (N := 40) (t := 2) (kk0 := 13) dX4_init_15 rfl tk_58 (by decide) (by decide) (by decide) (fun _ => rfl) (fun _ _ hh => hh) (fun ca => ⟨_, rfl, rfl⟩) (by decide) (by decide) ?_
  obtain ⟨h5, eh5, hf⟩ := bls hf
  refine J_h eh5 ?_
  have k6 : kd h5 (z + 1) = 13 := by rw [eh5]; exact wNew_kd _ _ _ _
  obtain ⟨k7, hf⟩ := gds hf
  refine P_4_1 dX4_init_17 tk_67 k7 rfl rfl ?_
  obtain ⟨h8, eh8, hf⟩ := bls hf
  refine J_h eh8 ?_
  refine J_aload_n dX4_init_20 rfl rfl ?_
  refine J_bipush (v := 40) dX4_init_21 (by decide) ?_
  refine J_newarr (ty := .int) (N := 40) (t := 2) (kk0 := 13) dX4_init_23 rfl tk_58 (by decide) (by decide) (by decide) (fun _ => rfl) (fun _ _ hh => hh) (fun ca => ⟨_, rfl, rfl⟩) (by decide) (by decide) ?_
  obtain ⟨h9, eh9, hf⟩ := bls hf
  refine J_h eh9 ?_
  have k10 : kd h9 ((z + 1) + 1) = 13 := by rw [eh9]; exact wNew_kd _ _ _ _
  obtain ⟨k11, hf⟩ := gds hf
  refine P_4_2 dX4_init_25 tk_69 k11 rfl rfl ?_
  obtain ⟨h12, eh12, hf⟩ := bls hf
  refine J_h eh12 ?_
  refine J_aload_n dX4_init_28 rfl rfl ?_
  refine J_bipush (v := 40) dX4_init_29 (by decide) ?_
  refine J_newarr (ty := .int) (N := 40) (t := 2) (kk0 := 13) dX4_init_31 rfl tk_58 (by decide) (by decide) (by decide) (fun _ => rfl) (fun _ _ hh => hh) (fun ca => ⟨_, rfl, rfl⟩) (by decide) (by decide) ?_
  obtain ⟨h13, eh13, hf⟩ := bls hf
  refine J_h eh13 ?_
  have k14 : kd h13 (((z + 1) + 1) + 1) = 13 := by rw [eh13]; exact wNew_kd _ _ _ _
  obtain ⟨k15, hf⟩ := gds hf
  refine P_4_3 dX4_init_33 tk_71 k15 rfl rfl ?_
  obtain ⟨h16, eh16, hf⟩ := bls hf
  refine J_h eh16 ?_
  cases hf
  exact J_vretN dX4_init_36 rfl (by decide) (by decide)
theorem mX4_init {g : JG} (hst : (jl g).stackTraces = false) {a0 : Nat} {z : Nat} {h : AH} {o : Nat × AH} (hf : fX4_init a0 z h = some o) : jMet g yX4_init (wj yX4_init cX4_init 1 none) rmX4_init [.ref a0] z h (none, o.1, o.2) :=
  jMet_mk (by decide) (Nat.le_of_ble_eq_true rfl) [some (.ref a0)] rfl (wfX4_init hst hf)
def fX2_copyFrom  (a0 : Nat) (a1 : Nat) (z : Nat) (h : AH) : Option (Nat × AH) :=
  gd (kd h a1 = 3) (Option.bind (rv h a1 0) (fun b2 => gd (kd h a0 = 3) (Option.bind (rv h a0 0) (fun b4 => gd (kd h b2 = 13) (gd (kd h b4 = 13) (gd (16 ≤ ln h b2 ∧ 16 ≤ ln h b4) (bl (wRowI h b4 (va_cpy (iv h b2) (iv h b4) (Int32.toNatClampNeg 0) (Int32.toNatClampNeg 0) (Int32.toNatClampNeg 16))) (fun h8 => Option.bind (rv h8 a1 1) (fun b10 => Option.bind (rv h8 a0 1) (fun b12 => gd (kd h8 b10 = 13) (gd (kd h8 b12 = 13) (gd (16 ≤ ln h8 b10 ∧ 16 ≤ ln h8 b12) (bl (wRowI h8 b12 (va_cpy (iv h8 b10) (iv h8 b12) (Int32.toNatClampNeg 0) (Int32.toNatClampNeg 0) (Int32.toNatClampNeg 16))) (fun h16 => Option.bind (rv h16 a1 2) (fun b18 => Option.bind (rv h16 a0 2) (fun b20 => gd (kd h16 b18 = 13) (gd (kd h16 b20 = 13) (gd (16 ≤ ln h16 b18 ∧ 16 ≤ ln h16 b20) (bl (wRowI h16 b20 (va_cpy (iv h16 b18) (iv h16 b20) (Int32.toNatClampNeg 0) (Int32.toNatClampNeg 0) (Int32.toNatClampNeg 16))) (fun h24 => bl (wI h24 a0 3 (iv h24 a1 3)) (fun h27 => some (z, h27))))))))))))))))))))))
theorem wfX2_copyFrom {g : JG} (hst : (jl g).stackTraces = false)   {a0 : Nat} {a1 : Nat} {z : Nat} {h : AH} {o : Nat × AH} (hf : fX2_copyFrom  a0 a1 z h = some o) : J g MX2_copyFrom (jN g (none, o.1, o.2) rmX2_copyFrom.cells rmX2_copyFrom.slots) 0 [some (.ref a0), some (.ref a1)] [] z h 0 0 := by
  unfold fX2_copyFrom at hf
  refine J_aload_n dX2_copyFrom_0 rfl rfl ?_
  obtain ⟨k1, hf⟩ := gds hf
  obtain ⟨b2, rb2, hf⟩ := rfs hf
  refine G_2_0 dX2_copyFrom_1 tk_39 k1 rb2 ?_
  refine J_iconst (v := 0) dX2_copyFrom_4 (by decide) ?_
  refine J_aload_n dX2_copyFrom_5 rfl rfl ?_
  obtain ⟨k3, hf⟩ := gds hf
  obtain ⟨b4, rb4, hf⟩ := rfs hf
  refine G_2_0 dX2_copyFrom_6 tk_39 k3 rb4 ?_
  refine J_iconst (v := 0) dX2_copyFrom_9 (by decide) ?_
  refine J_bipush (v := 16) dX2_copyFrom_10 (by decide) ?_
  obtain ⟨k5, hf⟩ := gds hf
  obtain ⟨k6, hf⟩ := gds hf
  obtain ⟨n7, hf⟩ := gds hf
  refine J_copyI dX2_copyFrom_12 tk_369 tk_371 tk_370 tk_16 k5 k6 (by decide) (by decide) (by decide) n7.1 n7.2 (by decide) (Nat.le_of_ble_eq_true rfl) ?_
  obtain ⟨h8, eh8, hf⟩ := bls hf
  refine J_h eh8 ?_
  refine J_aload_n dX2_copyFrom_15 rfl rfl ?_
  have k9 : kd h8 a1 = 3 := by rw [eh8]; exact k1
  obtain ⟨b10, rb10, hf⟩ := rfs hf
  refine G_2_1 dX2_copyFrom_16 tk_41 k9 rb10 ?_
  refine J_iconst (v := 0) dX2_copyFrom_19 (by decide) ?_
  refine J_aload_n dX2_copyFrom_20 rfl rfl ?_
  have k11 : kd h8 a0 = 3 := by rw [eh8]; exact k3
  obtain ⟨b12, rb12, hf⟩ := rfs hf
  refine G_2_1 dX2_copyFrom_21 tk_41 k11 rb12 ?_
  refine J_iconst (v := 0) dX2_copyFrom_24 (by decide) ?_
  refine J_bipush (v := 16) dX2_copyFrom_25 (by decide) ?_
  obtain ⟨k13, hf⟩ := gds hf
  obtain ⟨k14, hf⟩ := gds hf
  obtain ⟨n15, hf⟩ := gds hf
  refine J_copyI dX2_copyFrom_27 tk_369 tk_371 tk_370 tk_16 k13 k14 (by decide) (by decide) (by decide) n15.1 n15.2 (by decide) (Nat.le_of_ble_eq_true rfl) ?_
  obtain ⟨h16, eh16, hf⟩ := bls hf
  refine J_h eh16 ?_
  refine J_aload_n dX2_copyFrom_30 rfl rfl ?_
  have k17 : kd h16 a1 = 3 := by rw [eh16]; exact k9
  obtain ⟨b18, rb18, hf⟩ := rfs hf
  refine G_2_2 dX2_copyFrom_31 tk_44 k17 rb18 ?_
  refine J_iconst (v := 0) dX2_copyFrom_34 (by decide) ?_
  refine J_aload_n dX2_copyFrom_35 rfl rfl ?_
  have k19 : kd h16 a0 = 3 := by rw [eh16]; exact k11
  obtain ⟨b20, rb20, hf⟩ := rfs hf
  refine G_2_2 dX2_copyFrom_36 tk_44 k19 rb20 ?_
  refine J_iconst (v := 0) dX2_copyFrom_39 (by decide) ?_
  refine J_bipush (v := 16) dX2_copyFrom_40 (by decide) ?_
  obtain ⟨k21, hf⟩ := gds hf
  obtain ⟨k22, hf⟩ := gds hf
  obtain ⟨n23, hf⟩ := gds hf
  refine J_copyI dX2_copyFrom_42 tk_369 tk_371 tk_370 tk_16 k21 k22 (by decide) (by decide) (by decide) n23.1 n23.2 (by decide) (Nat.le_of_ble_eq_true rfl) ?_
  obtain ⟨h24, eh24, hf⟩ := bls hf
  refine J_h eh24 ?_
  refine J_aload_n dX2_copyFrom_45 rfl rfl ?_
  refine J_aload_n dX2_copyFrom_46 rfl rfl ?_
  have k25 : kd h24 a1 = 3 := by rw [eh24]; exact k17
  refine G_2_3 dX2_copyFrom_47 tk_47 k25 ?_
  have k26 : kd h24 a0 = 3 := by rw [eh24]; exact k19
  refine P_2_3 dX2_copyFrom_50 tk_47 k26 ?_
  obtain ⟨h27, eh27, hf⟩ := bls hf
  refine J_h eh27 ?_
  cases hf
  exact J_vretN dX2_copyFrom_53 rfl (by decide) (by decide)
theorem mX2_copyFrom {g : JG} (hst : (jl g).stackTraces = false) {a0 : Nat} {a1 : Nat} {z : Nat} {h : AH} {o : Nat × AH} (hf : fX2_copyFrom a0 a1 z h = some o) : jMet g yX2_copyFrom (wj yX2_copyFrom cX2_copyFrom 2 none) rmX2_copyFrom [.ref a0, .ref a1] z h (none, o.1, o.2) :=
  jMet_mk (by decide) (Nat.le_of_ble_eq_true rfl) [some (.ref a0), some (.ref a1)] rfl (wfX2_copyFrom hst hf)
def fX4_copyFrom  (a0 : Nat) (a1 : Nat) (z : Nat) (h : AH) : Option (Nat × AH) :=
  gd (kd h a1 = 5) (Option.bind (rv h a1 0) (fun b2 => gd (kd h a0 = 5) (Option.bind (rv h a0 0) (fun b4 => gd (kd h b2 = 14) (gd (kd h b4 = 14) (gd (40 ≤ ln h b2 ∧ 40 ≤ ln h b4) (bl (wRowJ h b4 (va_cpy (jv h b2) (jv h b4) (Int32.toNatClampNeg 0) (Int32.toNatClampNeg 0) (Int32.toNatClampNeg 40))) (fun h8 => Option.bind (rv h8 a1 1) (fun b10 => Option.bind (rv h8 a0 1) (fun b12 => gd (kd h8 b10 = 13) (gd (kd h8 b12 = 13) (gd (40 ≤ ln h8 b10 ∧ 40 ≤ ln h8 b12) (bl (wRowI h8 b12 (va_cpy (iv h8 b10) (iv h8 b12) (Int32.toNatClampNeg 0) (Int32.toNatClampNeg 0) (Int32.toNatClampNeg 40))) (fun h16 => Option.bind (rv h16 a1 2) (fun b18 => Option.bind (rv h16 a0 2) (fun b20 => gd (kd h16 b18 = 13) (gd (kd h16 b20 = 13) (gd (40 ≤ ln h16 b18 ∧ 40 ≤ ln h16 b20) (bl (wRowI h16 b20 (va_cpy (iv h16 b18) (iv h16 b20) (Int32.toNatClampNeg 0) (Int32.toNatClampNeg 0) (Int32.toNatClampNeg 40))) (fun h24 => Option.bind (rv h24 a1 3) (fun b26 => Option.bind (rv h24 a0 3) (fun b28 => gd (kd h24 b26 = 13) (gd (kd h24 b28 = 13) (gd (40 ≤ ln h24 b26 ∧ 40 ≤ ln h24 b28) (bl (wRowI h24 b28 (va_cpy (iv h24 b26) (iv h24 b28) (Int32.toNatClampNeg 0) (Int32.toNatClampNeg 0) (Int32.toNatClampNeg 40))) (fun h32 => bl (wI h32 a0 4 (iv h32 a1 4)) (fun h35 => bl (wI h35 a0 5 (iv h35 a1 5)) (fun h38 => some (z, h38)))))))))))))))))))))))))))))
theorem wfX4_copyFrom {g : JG} (hst : (jl g).stackTraces = false)   {a0 : Nat} {a1 : Nat} {z : Nat} {h : AH} {o : Nat × AH} (hf : fX4_copyFrom  a0 a1 z h = some o) : J g MX4_copyFrom (jN g (none, o.1, o.2) rmX4_copyFrom.cells rmX4_copyFrom.slots) 0 [some (.ref a0), some (.ref a1)] [] z h 0 0 := by
  unfold fX4_copyFrom at hf
  refine J_aload_n dX4_copyFrom_0 rfl rfl ?_
  obtain ⟨k1, hf⟩ := gds hf
  obtain ⟨b2, rb2, hf⟩ := rfs hf
  refine G_4_0 dX4_copyFrom_1 tk_65 k1 rb2 ?_
  refine J_iconst (v := 0) dX4_copyFrom_4 (by decide) ?_
  refine J_aload_n dX4_copyFrom_5 rfl rfl ?_
  obtain ⟨k3, hf⟩ := gds hf
  obtain ⟨b4, rb4, hf⟩ := rfs hf
  refine G_4_0 dX4_copyFrom_6 tk_65 k3 rb4 ?_
  refine J_iconst (v := 0) dX4_copyFrom_9 (by decide) ?_
  refine J_bipush (v := 40) dX4_copyFrom_10 (by decide) ?_
  obtain ⟨k5, hf⟩ := gds hf
  obtain ⟨k6, hf⟩ := gds hf
  obtain ⟨n7, hf⟩ := gds hf
  refine J_copyJ dX4_copyFrom_12 tk_376 tk_371 tk_370 tk_16 k5 k6 (by decide) (by decide) (by decide) n7.1 n7.2 (by decide) (Nat.le_of_ble_eq_true rfl) ?_
  obtain ⟨h8, eh8, hf⟩ := bls hf
  refine J_h eh8 ?_
  refine J_aload_n dX4_copyFrom_15 rfl rfl ?_
  have k9 : kd h8 a1 = 5 := by rw [eh8]; exact k1
  obtain ⟨b10, rb10, hf⟩ := rfs hf
  refine G_4_1 dX4_copyFrom_16 tk_67 k9 rb10 ?_
  refine J_iconst (v := 0) dX4_copyFrom_19 (by decide) ?_
  refine J_aload_n dX4_copyFrom_20 rfl rfl ?_
  have k11 : kd h8 a0 = 5 := by rw [eh8]; exact k3
  obtain ⟨b12, rb12, hf⟩ := rfs hf
  refine G_4_1 dX4_copyFrom_21 tk_67 k11 rb12 ?_
  refine J_iconst (v := 0) dX4_copyFrom_24 (by decide) ?_
  refine J_bipush (v := 40) dX4_copyFrom_25 (by decide) ?_
  obtain ⟨k13, hf⟩ := gds hf
  obtain ⟨k14, hf⟩ := gds hf
  obtain ⟨n15, hf⟩ := gds hf
  refine J_copyI dX4_copyFrom_27 tk_376 tk_371 tk_370 tk_16 k13 k14 (by decide) (by decide) (by decide) n15.1 n15.2 (by decide) (Nat.le_of_ble_eq_true rfl) ?_
  obtain ⟨h16, eh16, hf⟩ := bls hf
  refine J_h eh16 ?_
  refine J_aload_n dX4_copyFrom_30 rfl rfl ?_
  have k17 : kd h16 a1 = 5 := by rw [eh16]; exact k9
  obtain ⟨b18, rb18, hf⟩ := rfs hf
  refine G_4_2 dX4_copyFrom_31 tk_69 k17 rb18 ?_
  refine J_iconst (v := 0) dX4_copyFrom_34 (by decide) ?_
  refine J_aload_n dX4_copyFrom_35 rfl rfl ?_
  have k19 : kd h16 a0 = 5 := by rw [eh16]; exact k11
  obtain ⟨b20, rb20, hf⟩ := rfs hf
  refine G_4_2 dX4_copyFrom_36 tk_69 k19 rb20 ?_
  refine J_iconst (v := 0) dX4_copyFrom_39 (by decide) ?_
  refine J_bipush (v := 40) dX4_copyFrom_40 (by decide) ?_
  obtain ⟨k21, hf⟩ := gds hf
  obtain ⟨k22, hf⟩ := gds hf
  obtain ⟨n23, hf⟩ := gds hf
  refine J_copyI dX4_copyFrom_42 tk_376 tk_371 tk_370 tk_16 k21 k22 (by decide) (by decide) (by decide) n23.1 n23.2 (by decide) (Nat.le_of_ble_eq_true rfl) ?_
  obtain ⟨h24, eh24, hf⟩ := bls hf
  refine J_h eh24 ?_
  refine J_aload_n dX4_copyFrom_45 rfl rfl ?_
  have k25 : kd h24 a1 = 5 := by rw [eh24]; exact k17
  obtain ⟨b26, rb26, hf⟩ := rfs hf
  refine G_4_3 dX4_copyFrom_46 tk_71 k25 rb26 ?_
  refine J_iconst (v := 0) dX4_copyFrom_49 (by decide) ?_
  refine J_aload_n dX4_copyFrom_50 rfl rfl ?_
  have k27 : kd h24 a0 = 5 := by rw [eh24]; exact k19
  obtain ⟨b28, rb28, hf⟩ := rfs hf
  refine G_4_3 dX4_copyFrom_51 tk_71 k27 rb28 ?_
  refine J_iconst (v := 0) dX4_copyFrom_54 (by decide) ?_
  refine J_bipush (v := 40) dX4_copyFrom_55 (by decide) ?_
  obtain ⟨k29, hf⟩ := gds hf
  obtain ⟨k30, hf⟩ := gds hf
  obtain ⟨n31, hf⟩ := gds hf
  refine J_copyI dX4_copyFrom_57 tk_376 tk_371 tk_370 tk_16 k29 k30 (by decide) (by decide) (by decide) n31.1 n31.2 (by decide) (Nat.le_of_ble_eq_true rfl) ?_
  obtain ⟨h32, eh32, hf⟩ := bls hf
  refine J_h eh32 ?_
  refine J_aload_n dX4_copyFrom_60 rfl rfl ?_
  refine J_aload_n dX4_copyFrom_61 rfl rfl ?_
  have k33 : kd h32 a1 = 5 := by rw [eh32]; exact k25
  refine G_4_4 dX4_copyFrom_62 tk_73 k33 ?_
  have k34 : kd h32 a0 = 5 := by rw [eh32]; exact k27
  refine P_4_4 dX4_copyFrom_65 tk_73 k34 ?_
  obtain ⟨h35, eh35, hf⟩ := bls hf
  refine J_h eh35 ?_
  refine J_aload_n dX4_copyFrom_68 rfl rfl ?_
  refine J_aload_n dX4_copyFrom_69 rfl rfl ?_
  have k36 : kd h35 a1 = 5 := by rw [eh35]; exact k33
  refine G_4_5 dX4_copyFrom_70 tk_74 k36 ?_
  have k37 : kd h35 a0 = 5 := by rw [eh35]; exact k34
  refine P_4_5 dX4_copyFrom_73 tk_74 k37 ?_
  obtain ⟨h38, eh38, hf⟩ := bls hf
  refine J_h eh38 ?_
  cases hf
  exact J_vretN dX4_copyFrom_76 rfl (by decide) (by decide)
theorem mX4_copyFrom {g : JG} (hst : (jl g).stackTraces = false) {a0 : Nat} {a1 : Nat} {z : Nat} {h : AH} {o : Nat × AH} (hf : fX4_copyFrom a0 a1 z h = some o) : jMet g yX4_copyFrom (wj yX4_copyFrom cX4_copyFrom 2 none) rmX4_copyFrom [.ref a0, .ref a1] z h (none, o.1, o.2) :=
  jMet_mk (by decide) (Nat.le_of_ble_eq_true rfl) [some (.ref a0), some (.ref a1)] rfl (wfX4_copyFrom hst hf)
def fX6_add  (a0 : Nat) (x1 : Int32) (x2 : Int32) (z : Nat) (h : AH) : Option (Nat × AH) :=
  (if x1 < 0 then (some (z, h)) else ((if 8 ≤ x1 then (some (z, h)) else (gd (kd h a0 = 7) (Option.bind (rv h a0 0) (fun b4 => gd (kd h b4 = 13) (gd (¬ ((x1 : Int32) < 0 ∨ ln h b4 ≤ Int32.toNatClampNeg x1)) (gd (¬ ((x1 : Int32) < 0 ∨ ln h b4 ≤ Int32.toNatClampNeg x1)) (bl (wI h b4 (Int32.toNatClampNeg x1) ((iv h b4 (Int32.toNatClampNeg x1)) + x2)) (fun h8 => some (z, h8)))))))))))
theorem wfX6_add {g : JG} (hst : (jl g).stackTraces = false)   {a0 : Nat} {x1 : Int32} {x2 : Int32} {z : Nat} {h : AH} {o : Nat × AH} (hf : fX6_add  a0 x1 x2 z h = some o) : J g MX6_add (jN g (none, o.1, o.2) rmX6_add.cells rmX6_add.slots) 0 [some (.ref a0), some (.int x1), some (.int x2)] [] z h 0 0 := by
  unfold fX6_add at hf
  refine J_iload_n dX6_add_0 rfl rfl ?_
  rcases br hf with ⟨c1, hf⟩ | ⟨c1, hf⟩
  · refine J_if_lt (tgt := 20) dX6_add_1 (by decide) (fun _ => ?_) (fun w => absurd c1 w)
    cases hf
    exact J_vretN dX6_add_20 rfl (by decide) (by decide)
  · refine J_if_lt (tgt := 20) dX6_add_1 (by decide) (fun w => absurd w c1) (fun _ => ?_)
    refine J_iload_n dX6_add_4 rfl rfl ?_
    refine J_bipush (v := 8) dX6_add_5 (by decide) ?_
    rcases br hf with ⟨c2, hf⟩ | ⟨c2, hf⟩
    · refine J_icmp_ge (tgt := 20) dX6_add_7 (by decide) (fun _ => ?_) (fun w => absurd c2 w)
      cases hf
      exact J_vretN dX6_add_20 rfl (by decide) (by decide)
    · refine J_icmp_ge (tgt := 20) dX6_add_7 (by decide) (fun w => absurd w c2) (fun _ => ?_)
      refine J_aload_n dX6_add_10 rfl rfl ?_
      obtain ⟨k3, hf⟩ := gds hf
      obtain ⟨b4, rb4, hf⟩ := rfs hf
      refine G_6_0 dX6_add_11 tk_161 k3 rb4 ?_
      refine J_iload_n dX6_add_14 rfl rfl ?_
      refine J_dup2 dX6_add_15 rfl rfl ?_
      obtain ⟨k5, hf⟩ := gds hf
      obtain ⟨n6, hf⟩ := gds hf
      refine J_iaload dX6_add_16 k5 n6 ?_
      refine J_iload_n dX6_add_17 rfl rfl ?_
      refine J_iadd dX6_add_18 ?_
      obtain ⟨n7, hf⟩ := gds hf
      refine J_iastore dX6_add_19 k5 n7 ?_
      obtain ⟨h8, eh8, hf⟩ := bls hf
      refine J_h eh8 ?_
      cases hf
      exact J_vretN dX6_add_20 rfl (by decide) (by decide)
theorem mX6_add {g : JG} (hst : (jl g).stackTraces = false) {a0 : Nat} {x1 : Int32} {x2 : Int32} {z : Nat} {h : AH} {o : Nat × AH} (hf : fX6_add a0 x1 x2 z h = some o) : jMet g yX6_add (wj yX6_add cX6_add 3 none) rmX6_add [.ref a0, .int x1, .int x2] z h (none, o.1, o.2) :=
  jMet_mk (by decide) (Nat.le_of_ble_eq_true rfl) [some (.ref a0), some (.int x1), some (.int x2)] rfl (wfX6_add hst hf)
def fX2_has  (a0 : Nat) (x1 : Int32) (z : Nat) (h : AH) : Option (Int32 × Nat × AH) :=
  (if x1 < 0 then (some (0, z, h)) else (gd (kd h a0 = 3) ((if (iv h a0 3) ≤ x1 then (some (0, z, h)) else ((if 16 ≤ x1 then (some (0, z, h)) else (some (1, z, h))))))))
theorem wfX2_has {g : JG} (hst : (jl g).stackTraces = false)   {a0 : Nat} {x1 : Int32} {z : Nat} {h : AH} {o : Int32 × Nat × AH} (hf : fX2_has  a0 x1 z h = some o) : J g MX2_has (jN g (some (.int o.1), o.2.1, o.2.2) rmX2_has.cells rmX2_has.slots) 0 [some (.ref a0), some (.int x1)] [] z h 0 0 := by
  unfold fX2_has at hf
  refine J_iload_n dX2_has_0 rfl rfl ?_
  rcases br hf with ⟨c1, hf⟩ | ⟨c1, hf⟩
  · refine J_if_lt (tgt := 22) dX2_has_1 (by decide) (fun _ => ?_) (fun w => absurd c1 w)
    refine J_iconst (v := 0) dX2_has_22 (by decide) ?_
    cases hf
    exact J_zretN dX2_has_23 rfl (Or.inl rfl) (by decide) (by decide)
  · refine J_if_lt (tgt := 22) dX2_has_1 (by decide) (fun w => absurd w c1) (fun _ => ?_)
    refine J_iload_n dX2_has_4 rfl rfl ?_
    refine J_aload_n dX2_has_5 rfl rfl ?_
    obtain ⟨k2, hf⟩ := gds hf
    refine G_2_3 dX2_has_6 tk_47 k2 ?_
    rcases br hf with ⟨c3, hf⟩ | ⟨c3, hf⟩
    · refine J_icmp_ge (tgt := 22) dX2_has_9 (by decide) (fun _ => ?_) (fun w => absurd c3 w)
      refine J_iconst (v := 0) dX2_has_22 (by decide) ?_
      cases hf
      exact J_zretN dX2_has_23 rfl (Or.inl rfl) (by decide) (by decide)
    · refine J_icmp_ge (tgt := 22) dX2_has_9 (by decide) (fun w => absurd w c3) (fun _ => ?_)
      refine J_iload_n dX2_has_12 rfl rfl ?_
      refine J_bipush (v := 16) dX2_has_13 (by decide) ?_
      rcases br hf with ⟨c4, hf⟩ | ⟨c4, hf⟩
      · refine J_icmp_ge (tgt := 22) dX2_has_15 (by decide) (fun _ => ?_) (fun w => absurd c4 w)
        refine J_iconst (v := 0) dX2_has_22 (by decide) ?_
        cases hf
        exact J_zretN dX2_has_23 rfl (Or.inl rfl) (by decide) (by decide)
      · refine J_icmp_ge (tgt := 22) dX2_has_15 (by decide) (fun w => absurd w c4) (fun _ => ?_)
        refine J_iconst (v := 1) dX2_has_18 (by decide) ?_
        refine J_goto (tgt := 23) dX2_has_19 (by decide) ?_
        cases hf
        exact J_zretN dX2_has_23 rfl (Or.inr rfl) (by decide) (by decide)
theorem mX2_has {g : JG} (hst : (jl g).stackTraces = false) {a0 : Nat} {x1 : Int32} {z : Nat} {h : AH} {o : Int32 × Nat × AH} (hf : fX2_has a0 x1 z h = some o) : jMet g yX2_has (wj yX2_has cX2_has 2 (some .boolean)) rmX2_has [.ref a0, .int x1] z h (some (.int o.1), o.2.1, o.2.2) :=
  jMet_mk (by decide) (Nat.le_of_ble_eq_true rfl) [some (.ref a0), some (.int x1)] rfl (wfX2_has hst hf)
def bX2_grow_80 (q50 : Nat → Int32 → Int32 → Nat → AH → Option (Int32 × Nat × AH)) (a0 : Nat) (x2 : Int32) (x3 : Int32) (z : Nat) (h : AH) : Option (Int32 × Nat × AH) :=
  q50 a0 x2 (x3 + 1) z h
def lX2_grow_50B  (q50 : Nat → Int32 → Int32 → Nat → AH → Option (Int32 × Nat × AH)) (a0 : Nat) (x2 : Int32) (x3 : Int32) (z : Nat) (h : AH) : Option (Int32 × Nat × AH) :=
  (if x2 < x3 then (gd (kd h a0 = 3) (bl (wI h a0 3 (x2 + 1)) (fun h3 => some (x2, z, h3)))) else (gd (kd h a0 = 3) (Option.bind (rv h a0 1) (fun b5 => gd (kd h b5 = 13) (gd (¬ ((x2 : Int32) < 0 ∨ ln h b5 ≤ Int32.toNatClampNeg x2)) (bd3 (fX8_inSet (iv h b5 (Int32.toNatClampNeg x2)) x3 z h) (fun vo8 zo8 ho8h => (if vo8 = 0 then (bX2_grow_80 q50 a0 x2 x3 zo8 ho8h) else (gd (kd ho8h a0 = 3) (Option.bind (rv ho8h a0 2) (fun b11 => gd (kd ho8h b11 = 13) (gd (¬ ((x3 : Int32) < 0 ∨ ln ho8h b11 ≤ Int32.toNatClampNeg x3)) (gd (¬ ((x3 : Int32) < 0 ∨ ln ho8h b11 ≤ Int32.toNatClampNeg x3)) (bl (wI ho8h b11 (Int32.toNatClampNeg x3) ((iv ho8h b11 (Int32.toNatClampNeg x3)) ||| (1 <<< (x2 &&& 31)))) (fun h15 => bX2_grow_80 q50 a0 x2 x3 zo8 h15)))))))))))))))
def lX2_grow_50  : Nat → Nat → Int32 → Int32 → Nat → AH → Option (Int32 × Nat × AH)
  | 0 => fun _ _ _ _ _ => none
  | fuel + 1 => lX2_grow_50B  (lX2_grow_50  fuel)
def bX2_grow_46  (a0 : Nat) (x2 : Int32) (u0 : Nat) (s1 : Int32) (s2 : Int32) (s3 : Int32) (z : Nat) (h : AH) : Option (Int32 × Nat × AH) :=
  gd (kd h u0 = 13) (gd (¬ ((s1 : Int32) < 0 ∨ ln h u0 ≤ Int32.toNatClampNeg s1)) (bl (wI h u0 (Int32.toNatClampNeg s1) (s2 ||| s3)) (fun h3 => lX2_grow_50  fu a0 x2 0 z h3)))
def fX2_grow  (a0 : Nat) (x1 : Int32) (z : Nat) (h : AH) : Option (Int32 × Nat × AH) :=
  gd (kd h a0 = 3) (bl ((iv h a0 3)) (fun v2 => (if v2 < 16 then (Option.bind (rv h a0 0) (fun b4 => gd (kd h b4 = 13) (gd (¬ ((v2 : Int32) < 0 ∨ ln h b4 ≤ Int32.toNatClampNeg v2)) (bl (wI h b4 (Int32.toNatClampNeg v2) x1) (fun h7 => Option.bind (rv h7 a0 1) (fun b9 => bd3 (fX2_has a0 x1 z h7) (fun vo10 zo10 ho10h => (if vo10 = 0 then (bX2_grow_46  a0 v2 b9 v2 (1 <<< (v2 &&& 31)) 0 zo10 ho10h) else (gd (kd ho10h a0 = 3) (Option.bind (rv ho10h a0 1) (fun b13 => gd (kd ho10h b13 = 13) (gd (¬ ((x1 : Int32) < 0 ∨ ln ho10h b13 ≤ Int32.toNatClampNeg x1)) (bX2_grow_46  a0 v2 b9 v2 (1 <<< (v2 &&& 31)) (iv ho10h b13 (Int32.toNatClampNeg x1)) zo10 ho10h))))))))))))) else (some ((-1), z, h)))))
theorem wbX2_grow_80 {g : JG} (hst : (jl g).stackTraces = false) (q50 : Nat → Int32 → Int32 → Nat → AH → Option (Int32 × Nat × AH)) (hq50 : ∀ (a0 : Nat) (x2 : Int32) (x3 : Int32) (z : Nat) (h : AH) (o : Int32 × Nat × AH), q50 a0 x2 x3 z h = some o → J g MX2_grow (jN g (some (.int o.1), o.2.1, o.2.2) rmX2_grow.cells rmX2_grow.slots) 50 [some (.ref a0), none, some (.int x2), some (.int x3)] [] z h 0 0) {a0 : Nat} {x2 : Int32} {x3 : Int32} {z : Nat} {h : AH} {o : Int32 × Nat × AH} (hf : bX2_grow_80 q50 a0 x2 x3 z h = some o) : J g MX2_grow (jN g (some (.int o.1), o.2.1, o.2.2) rmX2_grow.cells rmX2_grow.slots) 80 [some (.ref a0), none, some (.int x2), some (.int x3)] [] z h 0 0 := by
  unfold bX2_grow_80 at hf
  refine S_iinc_3 (v := x3 + 1) dX2_grow_80 (congrArg (fun w => x3 + w) (by decide)) rfl (by decide) ?_
  refine J_goto (tgt := 50) dX2_grow_83 (by decide) ?_
  refine J.sub (jsub_s (jsub_n (jsub_s (jsub_s (jsub_nil _))))) ?_
  exact hq50 _ _ _ _ _ _ hf
theorem wlX2_grow_50 {g : JG} (hst : (jl g).stackTraces = false)   : ∀ (fuel : Nat) (a0 : Nat) (x2 : Int32) (x3 : Int32) (z : Nat) (h : AH) (o : Int32 × Nat × AH), lX2_grow_50  fuel a0 x2 x3 z h = some o → J g MX2_grow (jN g (some (.int o.1), o.2.1, o.2.2) rmX2_grow.cells rmX2_grow.slots) 50 [some (.ref a0), none, some (.int x2), some (.int x3)] [] z h 0 0 := by
  intro fuel
  induction fuel with
  | zero => intro a0 x2 x3 z h o hf; cases hf
  | succ fuel ih =>
    intro a0 x2 x3 z h o hf
    have hq50 := ih
    have hf : lX2_grow_50B  (lX2_grow_50  fuel) a0 x2 x3 z h = some o := hf
    generalize lX2_grow_50  fuel = q50 at hf hq50
    unfold lX2_grow_50B at hf
    refine J_iload_n dX2_grow_50 rfl rfl ?_
    refine J_iload_n dX2_grow_51 rfl rfl ?_
    rcases br hf with ⟨c1, hf⟩ | ⟨c1, hf⟩
    · refine J_icmp_gt (tgt := 86) dX2_grow_52 (by decide) (fun _ => ?_) (fun w => absurd c1 w)
      refine J_aload_n dX2_grow_86 rfl rfl ?_
      refine J_iload_n dX2_grow_87 rfl rfl ?_
      refine J_iconst (v := 1) dX2_grow_88 (by decide) ?_
      refine J_iadd dX2_grow_89 ?_
      obtain ⟨k2, hf⟩ := gds hf
      refine P_2_3 dX2_grow_90 tk_47 k2 ?_
      obtain ⟨h3, eh3, hf⟩ := bls hf
      refine J_h eh3 ?_
      refine J_iload_n dX2_grow_93 rfl rfl ?_
      cases hf
      exact J_iretN dX2_grow_94 rfl (by decide) (by decide)
    · refine J_icmp_gt (tgt := 86) dX2_grow_52 (by decide) (fun w => absurd w c1) (fun _ => ?_)
      refine J_aload_n dX2_grow_55 rfl rfl ?_
      obtain ⟨k4, hf⟩ := gds hf
      obtain ⟨b5, rb5, hf⟩ := rfs hf
      refine G_2_1 dX2_grow_56 tk_41 k4 rb5 ?_
      refine J_iload_n dX2_grow_59 rfl rfl ?_
      obtain ⟨k6, hf⟩ := gds hf
      obtain ⟨n7, hf⟩ := gds hf
      refine J_iaload dX2_grow_60 k6 n7 ?_
      refine J_iload_n dX2_grow_61 rfl rfl ?_
      obtain ⟨vo8, zo8, ho8h, ho8, hf⟩ := rfs3 hf
      refine CSN2i dX2_grow_62 (mX8_inSet hst ho8) tl_587 iX8_inSet ⟨by decide, by decide⟩ ⟨by decide, by decide⟩ (Nat.le_of_ble_eq_true rfl) ?_
      rcases br hf with ⟨c9, hf⟩ | ⟨c9, hf⟩
      · refine J_if_eq (tgt := 80) dX2_grow_65 (by decide) (fun _ => ?_) (fun w => absurd c9 w)
        refine J.sub (jsub_s (jsub_n (jsub_s (jsub_s (jsub_nil _))))) ?_
        exact wbX2_grow_80 hst _ hq50 hf
      · refine J_if_eq (tgt := 80) dX2_grow_65 (by decide) (fun w => absurd w c9) (fun _ => ?_)
        refine J_aload_n dX2_grow_68 rfl rfl ?_
        obtain ⟨k10, hf⟩ := gds hf
        obtain ⟨b11, rb11, hf⟩ := rfs hf
        refine G_2_2 dX2_grow_69 tk_44 k10 rb11 ?_
        refine J_iload_n dX2_grow_72 rfl rfl ?_
        refine J_dup2 dX2_grow_73 rfl rfl ?_
        obtain ⟨k12, hf⟩ := gds hf
        obtain ⟨n13, hf⟩ := gds hf
        refine J_iaload dX2_grow_74 k12 n13 ?_
        refine J_iconst (v := 1) dX2_grow_75 (by decide) ?_
        refine J_iload_n dX2_grow_76 rfl rfl ?_
        refine J_ishl dX2_grow_77 ?_
        refine J_ior dX2_grow_78 ?_
        obtain ⟨n14, hf⟩ := gds hf
        refine J_iastore dX2_grow_79 k12 n14 ?_
        obtain ⟨h15, eh15, hf⟩ := bls hf
        refine J_h eh15 ?_
        refine J.sub (jsub_s (jsub_n (jsub_s (jsub_s (jsub_nil _))))) ?_
        exact wbX2_grow_80 hst _ hq50 hf
theorem wbX2_grow_46 {g : JG} (hst : (jl g).stackTraces = false)   {a0 : Nat} {x2 : Int32} {u0 : Nat} {s1 : Int32} {s2 : Int32} {s3 : Int32} {z : Nat} {h : AH} {o : Int32 × Nat × AH} (hf : bX2_grow_46  a0 x2 u0 s1 s2 s3 z h = some o) : J g MX2_grow (jN g (some (.int o.1), o.2.1, o.2.2) rmX2_grow.cells rmX2_grow.slots) 46 [some (.ref a0), none, some (.int x2), none] [.int s3, .int s2, .int s1, .ref u0] z h 0 0 := by
  unfold bX2_grow_46 at hf
  refine J_ior dX2_grow_46 ?_
  obtain ⟨k1, hf⟩ := gds hf
  obtain ⟨n2, hf⟩ := gds hf
  refine J_iastore dX2_grow_47 k1 n2 ?_
  obtain ⟨h3, eh3, hf⟩ := bls hf
  refine J_h eh3 ?_
  refine J_iconst (v := 0) dX2_grow_48 (by decide) ?_
  refine S_istore_n_3 dX2_grow_49 rfl (by decide) ?_
  refine J.sub (jsub_s (jsub_n (jsub_s (jsub_s (jsub_nil _))))) ?_
  exact wlX2_grow_50 hst   _ _ _ _ _ _ _ hf
theorem wfX2_grow {g : JG} (hst : (jl g).stackTraces = false)   {a0 : Nat} {x1 : Int32} {z : Nat} {h : AH} {o : Int32 × Nat × AH} (hf : fX2_grow  a0 x1 z h = some o) : J g MX2_grow (jN g (some (.int o.1), o.2.1, o.2.2) rmX2_grow.cells rmX2_grow.slots) 0 [some (.ref a0), some (.int x1), none, none] [] z h 0 0 := by
  unfold fX2_grow at hf
  refine J_aload_n dX2_grow_0 rfl rfl ?_
  obtain ⟨k1, hf⟩ := gds hf
  refine G_2_3 dX2_grow_1 tk_47 k1 ?_
  obtain ⟨v2, ev2, hf⟩ := bls hf
  refine J_i ev2 ?_
  refine S_istore_n_2 dX2_grow_4 rfl (by decide) ?_
  refine J_iload_n dX2_grow_5 rfl rfl ?_
  refine J_bipush (v := 16) dX2_grow_6 (by decide) ?_
  rcases br hf with ⟨c3, hf⟩ | ⟨c3, hf⟩
  · refine J_icmp_lt (tgt := 13) dX2_grow_8 (by decide) (fun _ => ?_) (fun w => absurd c3 w)
    refine J_aload_n dX2_grow_13 rfl rfl ?_
    obtain ⟨b4, rb4, hf⟩ := rfs hf
    refine G_2_0 dX2_grow_14 tk_39 k1 rb4 ?_
    refine J_iload_n dX2_grow_17 rfl rfl ?_
    refine J_iload_n dX2_grow_18 rfl rfl ?_
    obtain ⟨k5, hf⟩ := gds hf
    obtain ⟨n6, hf⟩ := gds hf
    refine J_iastore dX2_grow_19 k5 n6 ?_
    obtain ⟨h7, eh7, hf⟩ := bls hf
    refine J_h eh7 ?_
    refine J_aload_n dX2_grow_20 rfl rfl ?_
    have k8 : kd h7 a0 = 3 := by rw [eh7]; exact k1
    obtain ⟨b9, rb9, hf⟩ := rfs hf
    refine G_2_1 dX2_grow_21 tk_41 k8 rb9 ?_
    refine J_iload_n dX2_grow_24 rfl rfl ?_
    refine J_iconst (v := 1) dX2_grow_25 (by decide) ?_
    refine J_iload_n dX2_grow_26 rfl rfl ?_
    refine J_ishl dX2_grow_27 ?_
    refine J_aload_n dX2_grow_28 rfl rfl ?_
    refine J_iload_n dX2_grow_29 rfl rfl ?_
    obtain ⟨vo10, zo10, ho10h, ho10, hf⟩ := rfs3 hf
    refine CV1i dX2_grow_30 (mX2_has hst ho10) tk_586 iX2_has k8 (by decide) rfl ⟨by decide, by decide⟩ ⟨by decide, by decide⟩ (Nat.le_of_ble_eq_true rfl) ?_
    rcases br hf with ⟨c11, hf⟩ | ⟨c11, hf⟩
    · refine J_if_eq (tgt := 45) dX2_grow_33 (by decide) (fun _ => ?_) (fun w => absurd c11 w)
      refine J_iconst (v := 0) dX2_grow_45 (by decide) ?_
      refine J.sub (jsub_s (jsub_n (jsub_s (jsub_n (jsub_nil _))))) ?_
      exact wbX2_grow_46 hst   hf
    · refine J_if_eq (tgt := 45) dX2_grow_33 (by decide) (fun w => absurd w c11) (fun _ => ?_)
      refine J_aload_n dX2_grow_36 rfl rfl ?_
      obtain ⟨k12, hf⟩ := gds hf
      obtain ⟨b13, rb13, hf⟩ := rfs hf
      refine G_2_1 dX2_grow_37 tk_41 k12 rb13 ?_
      refine J_iload_n dX2_grow_40 rfl rfl ?_
      obtain ⟨k14, hf⟩ := gds hf
      obtain ⟨n15, hf⟩ := gds hf
      refine J_iaload dX2_grow_41 k14 n15 ?_
      refine J_goto (tgt := 46) dX2_grow_42 (by decide) ?_
      refine J.sub (jsub_s (jsub_n (jsub_s (jsub_n (jsub_nil _))))) ?_
      exact wbX2_grow_46 hst   hf
  · refine J_icmp_lt (tgt := 13) dX2_grow_8 (by decide) (fun w => absurd w c3) (fun _ => ?_)
    refine J_iconst (v := (-1)) dX2_grow_11 (by decide) ?_
    cases hf
    exact J_iretN dX2_grow_12 rfl (by decide) (by decide)
theorem mX2_grow {g : JG} (hst : (jl g).stackTraces = false) {a0 : Nat} {x1 : Int32} {z : Nat} {h : AH} {o : Int32 × Nat × AH} (hf : fX2_grow a0 x1 z h = some o) : jMet g yX2_grow (wj yX2_grow cX2_grow 4 (some .int)) rmX2_grow [.ref a0, .int x1] z h (some (.int o.1), o.2.1, o.2.2) :=
  jMet_mk (by decide) (Nat.le_of_ble_eq_true rfl) [some (.ref a0), some (.int x1), none, none] rfl (wfX2_grow hst hf)
def fX4_rowOf  (a0 : Nat) (x1 : Int32) (z : Nat) (h : AH) : Option (Int32 × Nat × AH) :=
  gd (kd h a0 = 5) (some ((((iv h a0 4) + x1) - ((iv h a0 4) + x1) / 40 * 40), z, h))
theorem wfX4_rowOf {g : JG} (hst : (jl g).stackTraces = false)   {a0 : Nat} {x1 : Int32} {z : Nat} {h : AH} {o : Int32 × Nat × AH} (hf : fX4_rowOf  a0 x1 z h = some o) : J g MX4_rowOf (jN g (some (.int o.1), o.2.1, o.2.2) rmX4_rowOf.cells rmX4_rowOf.slots) 0 [some (.ref a0), some (.int x1)] [] z h 0 0 := by
  unfold fX4_rowOf at hf
  refine J_aload_n dX4_rowOf_0 rfl rfl ?_
  obtain ⟨k1, hf⟩ := gds hf
  refine G_4_4 dX4_rowOf_1 tk_73 k1 ?_
  refine J_iload_n dX4_rowOf_4 rfl rfl ?_
  refine J_iadd dX4_rowOf_5 ?_
  refine J_bipush (v := 40) dX4_rowOf_6 (by decide) ?_
  refine J_irem dX4_rowOf_8 (by decide) ?_
  cases hf
  exact J_iretN dX4_rowOf_9 rfl (by decide) (by decide)
theorem mX4_rowOf {g : JG} (hst : (jl g).stackTraces = false) {a0 : Nat} {x1 : Int32} {z : Nat} {h : AH} {o : Int32 × Nat × AH} (hf : fX4_rowOf a0 x1 z h = some o) : jMet g yX4_rowOf (wj yX4_rowOf cX4_rowOf 2 (some .int)) rmX4_rowOf [.ref a0, .int x1] z h (some (.int o.1), o.2.1, o.2.2) :=
  jMet_mk (by decide) (Nat.le_of_ble_eq_true rfl) [some (.ref a0), some (.int x1)] rfl (wfX4_rowOf hst hf)
def fX4_dropFirst  (a0 : Nat) (z : Nat) (h : AH) : Option (Nat × AH) :=
  gd (kd h a0 = 5) ((if (iv h a0 5) ≤ 0 then (some (z, h)) else (bd3 (fX4_rowOf a0 1 z h) (fun vo3 zo3 ho3h => gd (kd ho3h a0 = 5) (bl (wI ho3h a0 4 vo3) (fun h5 => bl (wI h5 a0 5 ((iv h5 a0 5) - 1)) (fun h7 => some (zo3, h7))))))))
theorem wfX4_dropFirst {g : JG} (hst : (jl g).stackTraces = false)   {a0 : Nat} {z : Nat} {h : AH} {o : Nat × AH} (hf : fX4_dropFirst  a0 z h = some o) : J g MX4_dropFirst (jN g (none, o.1, o.2) rmX4_dropFirst.cells rmX4_dropFirst.slots) 0 [some (.ref a0)] [] z h 0 0 := by
  unfold fX4_dropFirst at hf
  refine J_aload_n dX4_dropFirst_0 rfl rfl ?_
  obtain ⟨k1, hf⟩ := gds hf
  refine G_4_5 dX4_dropFirst_1 tk_74 k1 ?_
  rcases br hf with ⟨c2, hf⟩ | ⟨c2, hf⟩
  · refine J_if_le (tgt := 26) dX4_dropFirst_4 (by decide) (fun _ => ?_) (fun w => absurd c2 w)
    cases hf
    exact J_vretN dX4_dropFirst_26 rfl (by decide) (by decide)
  · refine J_if_le (tgt := 26) dX4_dropFirst_4 (by decide) (fun w => absurd w c2) (fun _ => ?_)
    refine J_aload_n dX4_dropFirst_7 rfl rfl ?_
    refine J_aload_n dX4_dropFirst_8 rfl rfl ?_
    refine J_iconst (v := 1) dX4_dropFirst_9 (by decide) ?_
    obtain ⟨vo3, zo3, ho3h, ho3, hf⟩ := rfs3 hf
    refine CV1i dX4_dropFirst_10 (mX4_rowOf hst ho3) tk_533 iX4_rowOf k1 (by decide) rfl ⟨by decide, by decide⟩ ⟨by decide, by decide⟩ (Nat.le_of_ble_eq_true rfl) ?_
    obtain ⟨k4, hf⟩ := gds hf
    refine P_4_4 dX4_dropFirst_13 tk_73 k4 ?_
    obtain ⟨h5, eh5, hf⟩ := bls hf
    refine J_h eh5 ?_
    refine J_aload_n dX4_dropFirst_16 rfl rfl ?_
    refine J_dup dX4_dropFirst_17 rfl ?_
    have k6 : kd h5 a0 = 5 := by rw [eh5]; exact k4
    refine G_4_5 dX4_dropFirst_18 tk_74 k6 ?_
    refine J_iconst (v := 1) dX4_dropFirst_21 (by decide) ?_
    refine J_isub dX4_dropFirst_22 ?_
    refine P_4_5 dX4_dropFirst_23 tk_74 k6 ?_
    obtain ⟨h7, eh7, hf⟩ := bls hf
    refine J_h eh7 ?_
    cases hf
    exact J_vretN dX4_dropFirst_26 rfl (by decide) (by decide)
theorem mX4_dropFirst {g : JG} (hst : (jl g).stackTraces = false) {a0 : Nat} {z : Nat} {h : AH} {o : Nat × AH} (hf : fX4_dropFirst a0 z h = some o) : jMet g yX4_dropFirst (wj yX4_dropFirst cX4_dropFirst 1 none) rmX4_dropFirst [.ref a0] z h (none, o.1, o.2) :=
  jMet_mk (by decide) (Nat.le_of_ble_eq_true rfl) [some (.ref a0)] rfl (wfX4_dropFirst hst hf)
def fX4_taskAt  (y0 : Int64) (x2 : Int32) (z : Nat) (h : AH) : Option (Int32 × Nat × AH) :=
  some (((Int64.toInt32 ((Int64.toUInt64 y0 >>> ((Int32.toInt64 (4 * x2)).toUInt64 &&& Int64.toUInt64 63)).toInt64)) &&& 15), z, h)
theorem wfX4_taskAt {g : JG} (hst : (jl g).stackTraces = false)   {y0 : Int64} {x2 : Int32} {z : Nat} {h : AH} {o : Int32 × Nat × AH} (hf : fX4_taskAt  y0 x2 z h = some o) : J g MX4_taskAt (jN g (some (.int o.1), o.2.1, o.2.2) rmX4_taskAt.cells rmX4_taskAt.slots) 0 [some (.long y0), none, some (.int x2)] [] z h 0 0 := by
  unfold fX4_taskAt at hf
  refine J_lload_n dX4_taskAt_0 rfl rfl ?_
  refine J_iconst (v := 4) dX4_taskAt_1 (by decide) ?_
  refine J_iload_n dX4_taskAt_2 rfl rfl ?_
  refine J_imul dX4_taskAt_3 ?_
  refine J_lushr dX4_taskAt_4 ?_
  refine J_l2i dX4_taskAt_5 ?_
  refine J_bipush (v := 15) dX4_taskAt_6 (by decide) ?_
  refine J_iand dX4_taskAt_8 ?_
  cases hf
  exact J_iretN dX4_taskAt_9 rfl (by decide) (by decide)
theorem mX4_taskAt {g : JG} (hst : (jl g).stackTraces = false) {y0 : Int64} {x2 : Int32} {z : Nat} {h : AH} {o : Int32 × Nat × AH} (hf : fX4_taskAt y0 x2 z h = some o) : jMet g yX4_taskAt (wj yX4_taskAt cX4_taskAt 3 (some .int)) rmX4_taskAt [.long y0, .int x2] z h (some (.int o.1), o.2.1, o.2.2) :=
  jMet_mk (by decide) (Nat.le_of_ble_eq_true rfl) [some (.long y0), none, some (.int x2)] rfl (wfX4_taskAt hst hf)
def lX4_members_5B  (q5 : Int64 → Int32 → Int32 → Int32 → Nat → AH → Option (Int32 × Nat × AH)) (y0 : Int64) (x2 : Int32) (x3 : Int32) (x4 : Int32) (z : Nat) (h : AH) : Option (Int32 × Nat × AH) :=
  (if x2 ≤ x4 then (some (x3, z, h)) else (bd3 (fX4_taskAt y0 x4 z h) (fun vo2 zo2 ho2h => bl ((x3 ||| (1 <<< (vo2 &&& 31)))) (fun v3 => q5 y0 x2 v3 (x4 + 1) zo2 ho2h))))
def lX4_members_5  : Nat → Int64 → Int32 → Int32 → Int32 → Nat → AH → Option (Int32 × Nat × AH)
  | 0 => fun _ _ _ _ _ _ => none
  | fuel + 1 => lX4_members_5B  (lX4_members_5  fuel)
def fX4_members  (y0 : Int64) (x2 : Int32) (z : Nat) (h : AH) : Option (Int32 × Nat × AH) :=
  lX4_members_5  fu y0 x2 0 0 z h
theorem wlX4_members_5 {g : JG} (hst : (jl g).stackTraces = false)   : ∀ (fuel : Nat) (y0 : Int64) (x2 : Int32) (x3 : Int32) (x4 : Int32) (z : Nat) (h : AH) (o : Int32 × Nat × AH), lX4_members_5  fuel y0 x2 x3 x4 z h = some o → J g MX4_members (jN g (some (.int o.1), o.2.1, o.2.2) rmX4_members.cells rmX4_members.slots) 5 [some (.long y0), none, some (.int x2), some (.int x3), some (.int x4)] [] z h 0 0 := by
  intro fuel
  induction fuel with
  | zero => intro y0 x2 x3 x4 z h o hf; cases hf
  | succ fuel ih =>
    intro y0 x2 x3 x4 z h o hf
    have hq5 := ih
    have hf : lX4_members_5B  (lX4_members_5  fuel) y0 x2 x3 x4 z h = some o := hf
    generalize lX4_members_5  fuel = q5 at hf hq5
    unfold lX4_members_5B at hf
    refine J_iload dX4_members_5 rfl ?_
    refine J_iload_n dX4_members_7 rfl rfl ?_
    rcases br hf with ⟨c1, hf⟩ | ⟨c1, hf⟩
    · refine J_icmp_ge (tgt := 28) dX4_members_8 (by decide) (fun _ => ?_) (fun w => absurd c1 w)
      refine J_iload_n dX4_members_28 rfl rfl ?_
      cases hf
      exact J_iretN dX4_members_29 rfl (by decide) (by decide)
    · refine J_icmp_ge (tgt := 28) dX4_members_8 (by decide) (fun w => absurd w c1) (fun _ => ?_)
      refine J_iload_n dX4_members_11 rfl rfl ?_
      refine J_iconst (v := 1) dX4_members_12 (by decide) ?_
      refine J_lload_n dX4_members_13 rfl rfl ?_
      refine J_iload dX4_members_14 rfl ?_
      obtain ⟨vo2, zo2, ho2h, ho2, hf⟩ := rfs3 hf
      refine CS2i (host := "") dX4_members_16 (mX4_taskAt hst ho2) tk_537 iX4_taskAt ⟨by decide, by decide⟩ ⟨by decide, by decide⟩ (Nat.le_of_ble_eq_true rfl) ?_
      refine J_ishl dX4_members_19 ?_
      refine J_ior dX4_members_20 ?_
      obtain ⟨v3, ev3, hf⟩ := bls hf
      refine J_i ev3 ?_
      refine S_istore_n_3 dX4_members_21 rfl (by decide) ?_
      refine S_iinc_4 (v := x4 + 1) dX4_members_22 (congrArg (fun w => x4 + w) (by decide)) rfl (by decide) ?_
      refine J_goto (tgt := 5) dX4_members_25 (by decide) ?_
      refine J.sub (jsub_s (jsub_n (jsub_s (jsub_s (jsub_s (jsub_nil _)))))) ?_
      exact hq5 _ _ _ _ _ _ _ hf
theorem wfX4_members {g : JG} (hst : (jl g).stackTraces = false)   {y0 : Int64} {x2 : Int32} {z : Nat} {h : AH} {o : Int32 × Nat × AH} (hf : fX4_members  y0 x2 z h = some o) : J g MX4_members (jN g (some (.int o.1), o.2.1, o.2.2) rmX4_members.cells rmX4_members.slots) 0 [some (.long y0), none, some (.int x2), none, none] [] z h 0 0 := by
  unfold fX4_members at hf
  refine J_iconst (v := 0) dX4_members_0 (by decide) ?_
  refine S_istore_n_3 dX4_members_1 rfl (by decide) ?_
  refine J_iconst (v := 0) dX4_members_2 (by decide) ?_
  refine S_istore_4 dX4_members_3 rfl (by decide) ?_
  refine J.sub (jsub_s (jsub_n (jsub_s (jsub_s (jsub_s (jsub_nil _)))))) ?_
  exact wlX4_members_5 hst   _ _ _ _ _ _ _ _ hf
theorem mX4_members {g : JG} (hst : (jl g).stackTraces = false) {y0 : Int64} {x2 : Int32} {z : Nat} {h : AH} {o : Int32 × Nat × AH} (hf : fX4_members y0 x2 z h = some o) : jMet g yX4_members (wj yX4_members cX4_members 5 (some .int)) rmX4_members [.long y0, .int x2] z h (some (.int o.1), o.2.1, o.2.2) :=
  jMet_mk (by decide) (Nat.le_of_ble_eq_true rfl) [some (.long y0), none, some (.int x2), none, none] rfl (wfX4_members hst hf)
def fX6_noteDeadlock  (a0 : Nat) (x1 : Int32) (x2 : Int32) (x3 : Int32) (z : Nat) (h : AH) : Option (Nat × AH) :=
  gd (kd h a0 = 7) (bl (wI h a0 1 x1) (fun h2 => bl (wI h2 a0 2 x2) (fun h4 => bl (wI h4 a0 3 x3) (fun h6 => bd2 (fX6_add a0 4 1 z h6) (fun zo8 ho8h => some (zo8, ho8h))))))
theorem wfX6_noteDeadlock {g : JG} (hst : (jl g).stackTraces = false)   {a0 : Nat} {x1 : Int32} {x2 : Int32} {x3 : Int32} {z : Nat} {h : AH} {o : Nat × AH} (hf : fX6_noteDeadlock  a0 x1 x2 x3 z h = some o) : J g MX6_noteDeadlock (jN g (none, o.1, o.2) rmX6_noteDeadlock.cells rmX6_noteDeadlock.slots) 0 [some (.ref a0), some (.int x1), some (.int x2), some (.int x3)] [] z h 0 0 := by
  unfold fX6_noteDeadlock at hf
  refine J_aload_n dX6_noteDeadlock_0 rfl rfl ?_
  refine J_iload_n dX6_noteDeadlock_1 rfl rfl ?_
  obtain ⟨k1, hf⟩ := gds hf
  refine P_6_1 dX6_noteDeadlock_2 tk_163 k1 ?_
  obtain ⟨h2, eh2, hf⟩ := bls hf
  refine J_h eh2 ?_
  refine J_aload_n dX6_noteDeadlock_5 rfl rfl ?_
  refine J_iload_n dX6_noteDeadlock_6 rfl rfl ?_
  have k3 : kd h2 a0 = 7 := by rw [eh2]; exact k1
  refine P_6_2 dX6_noteDeadlock_7 tk_165 k3 ?_
  obtain ⟨h4, eh4, hf⟩ := bls hf
  refine J_h eh4 ?_
  refine J_aload_n dX6_noteDeadlock_10 rfl rfl ?_
  refine J_iload_n dX6_noteDeadlock_11 rfl rfl ?_
  have k5 : kd h4 a0 = 7 := by rw [eh4]; exact k3
  refine P_6_3 dX6_noteDeadlock_12 tk_167 k5 ?_
  obtain ⟨h6, eh6, hf⟩ := bls hf
  refine J_h eh6 ?_
  refine J_aload_n dX6_noteDeadlock_15 rfl rfl ?_
  refine J_iconst (v := 4) dX6_noteDeadlock_16 (by decide) ?_
  refine J_iconst (v := 1) dX6_noteDeadlock_17 (by decide) ?_
  have k7 : kd h6 a0 = 7 := by rw [eh6]; exact k5
  obtain ⟨zo8, ho8h, ho8, hf⟩ := rfs2 hf
  refine CV2v dX6_noteDeadlock_18 (mX6_add hst ho8) tk_838 iX6_add k7 (by decide) rfl ⟨by decide, by decide⟩ ⟨by decide, by decide⟩ (Nat.le_of_ble_eq_true rfl) ?_
  cases hf
  exact J_vretN dX6_noteDeadlock_21 rfl (by decide) (by decide)
theorem mX6_noteDeadlock {g : JG} (hst : (jl g).stackTraces = false) {a0 : Nat} {x1 : Int32} {x2 : Int32} {x3 : Int32} {z : Nat} {h : AH} {o : Nat × AH} (hf : fX6_noteDeadlock a0 x1 x2 x3 z h = some o) : jMet g yX6_noteDeadlock (wj yX6_noteDeadlock cX6_noteDeadlock 4 none) rmX6_noteDeadlock [.ref a0, .int x1, .int x2, .int x3] z h (none, o.1, o.2) :=
  jMet_mk (by decide) (Nat.le_of_ble_eq_true rfl) [some (.ref a0), some (.int x1), some (.int x2), some (.int x3)] rfl (wfX6_noteDeadlock hst hf)
def fX4_extended  (y0 : Int64) (x2 : Int32) (x3 : Int32) (z : Nat) (h : AH) : Option (Int64 × Nat × AH) :=
  some ((y0 ||| ((Int32.toInt64 x3) <<< ((Int32.toInt64 (4 * x2)) &&& 63))), z, h)
theorem wfX4_extended {g : JG} (hst : (jl g).stackTraces = false)   {y0 : Int64} {x2 : Int32} {x3 : Int32} {z : Nat} {h : AH} {o : Int64 × Nat × AH} (hf : fX4_extended  y0 x2 x3 z h = some o) : J g MX4_extended (jN g (some (.long o.1), o.2.1, o.2.2) rmX4_extended.cells rmX4_extended.slots) 0 [some (.long y0), none, some (.int x2), some (.int x3)] [] z h 0 0 := by
  unfold fX4_extended at hf
  refine J_lload_n dX4_extended_0 rfl rfl ?_
  refine J_iload_n dX4_extended_1 rfl rfl ?_
  refine J_i2l dX4_extended_2 ?_
  refine J_iconst (v := 4) dX4_extended_3 (by decide) ?_
  refine J_iload_n dX4_extended_4 rfl rfl ?_
  refine J_imul dX4_extended_5 ?_
  refine J_lshl dX4_extended_6 ?_
  refine J_lor dX4_extended_7 ?_
  cases hf
  exact J_lretN dX4_extended_8 rfl (by decide) (by decide)
theorem mX4_extended {g : JG} (hst : (jl g).stackTraces = false) {y0 : Int64} {x2 : Int32} {x3 : Int32} {z : Nat} {h : AH} {o : Int64 × Nat × AH} (hf : fX4_extended y0 x2 x3 z h = some o) : jMet g yX4_extended (wj yX4_extended cX4_extended 4 (some .long)) rmX4_extended [.long y0, .int x2, .int x3] z h (some (.long o.1), o.2.1, o.2.2) :=
  jMet_mk (by decide) (Nat.le_of_ble_eq_true rfl) [some (.long y0), none, some (.int x2), some (.int x3)] rfl (wfX4_extended hst hf)
def fX4_send  (a0 : Nat) (y1 : Int64) (x3 : Int32) (x4 : Int32) (x5 : Int32) (z : Nat) (h : AH) : Option (Int32 × Nat × AH) :=
  gd (kd h a0 = 5) ((if (iv h a0 5) < 40 then (bd3 (fX4_rowOf a0 (iv h a0 5) z h) (fun vo3 zo3 ho3h => gd (kd ho3h a0 = 5) (Option.bind (rv ho3h a0 0) (fun b5 => gd (kd ho3h b5 = 14) (gd (¬ ((vo3 : Int32) < 0 ∨ ln ho3h b5 ≤ Int32.toNatClampNeg vo3)) (bl (wJ ho3h b5 (Int32.toNatClampNeg vo3) y1) (fun h8 => Option.bind (rv h8 a0 1) (fun b10 => gd (kd h8 b10 = 13) (gd (¬ ((vo3 : Int32) < 0 ∨ ln h8 b10 ≤ Int32.toNatClampNeg vo3)) (bl (wI h8 b10 (Int32.toNatClampNeg vo3) x3) (fun h13 => Option.bind (rv h13 a0 2) (fun b15 => gd (kd h13 b15 = 13) (gd (¬ ((vo3 : Int32) < 0 ∨ ln h13 b15 ≤ Int32.toNatClampNeg vo3)) (bl (wI h13 b15 (Int32.toNatClampNeg vo3) x4) (fun h18 => Option.bind (rv h18 a0 3) (fun b20 => gd (kd h18 b20 = 13) (gd (¬ ((vo3 : Int32) < 0 ∨ ln h18 b20 ≤ Int32.toNatClampNeg vo3)) (bl (wI h18 b20 (Int32.toNatClampNeg vo3) x5) (fun h23 => bl (wI h23 a0 5 ((iv h23 a0 5) + 1)) (fun h25 => some (1, zo3, h25))))))))))))))))))))) else (some (0, z, h))))
theorem wfX4_send {g : JG} (hst : (jl g).stackTraces = false)   {a0 : Nat} {y1 : Int64} {x3 : Int32} {x4 : Int32} {x5 : Int32} {z : Nat} {h : AH} {o : Int32 × Nat × AH} (hf : fX4_send  a0 y1 x3 x4 x5 z h = some o) : J g MX4_send (jN g (some (.int o.1), o.2.1, o.2.2) rmX4_send.cells rmX4_send.slots) 0 [some (.ref a0), some (.long y1), none, some (.int x3), some (.int x4), some (.int x5), none] [] z h 0 0 := by
  unfold fX4_send at hf
  refine J_aload_n dX4_send_0 rfl rfl ?_
  obtain ⟨k1, hf⟩ := gds hf
  refine G_4_5 dX4_send_1 tk_74 k1 ?_
  refine J_bipush (v := 40) dX4_send_4 (by decide) ?_
  rcases br hf with ⟨c2, hf⟩ | ⟨c2, hf⟩
  · refine J_icmp_lt (tgt := 11) dX4_send_6 (by decide) (fun _ => ?_) (fun w => absurd c2 w)
    refine J_aload_n dX4_send_11 rfl rfl ?_
    refine J_aload_n dX4_send_12 rfl rfl ?_
    refine G_4_5 dX4_send_13 tk_74 k1 ?_
    obtain ⟨vo3, zo3, ho3h, ho3, hf⟩ := rfs3 hf
    refine CV1i dX4_send_16 (mX4_rowOf hst ho3) tk_533 iX4_rowOf k1 (by decide) rfl ⟨by decide, by decide⟩ ⟨by decide, by decide⟩ (Nat.le_of_ble_eq_true rfl) ?_
    refine S_istore_6 dX4_send_19 rfl (by decide) ?_
    refine J_aload_n dX4_send_21 rfl rfl ?_
    obtain ⟨k4, hf⟩ := gds hf
    obtain ⟨b5, rb5, hf⟩ := rfs hf
    refine G_4_0 dX4_send_22 tk_65 k4 rb5 ?_
    refine J_iload dX4_send_25 rfl ?_
    refine J_lload_n dX4_send_27 rfl rfl ?_
    obtain ⟨k6, hf⟩ := gds hf
    obtain ⟨n7, hf⟩ := gds hf
    refine J_lastore dX4_send_28 k6 n7 ?_
    obtain ⟨h8, eh8, hf⟩ := bls hf
    refine J_h eh8 ?_
    refine J_aload_n dX4_send_29 rfl rfl ?_
    have k9 : kd h8 a0 = 5 := by rw [eh8]; exact k4
    obtain ⟨b10, rb10, hf⟩ := rfs hf
    refine G_4_1 dX4_send_30 tk_67 k9 rb10 ?_
    refine J_iload dX4_send_33 rfl ?_
    refine J_iload_n dX4_send_35 rfl rfl ?_
    obtain ⟨k11, hf⟩ := gds hf
    obtain ⟨n12, hf⟩ := gds hf
    refine J_iastore dX4_send_36 k11 n12 ?_
    obtain ⟨h13, eh13, hf⟩ := bls hf
    refine J_h eh13 ?_
    refine J_aload_n dX4_send_37 rfl rfl ?_
    have k14 : kd h13 a0 = 5 := by rw [eh13]; exact k9
    obtain ⟨b15, rb15, hf⟩ := rfs hf
    refine G_4_2 dX4_send_38 tk_69 k14 rb15 ?_
    refine J_iload dX4_send_41 rfl ?_
    refine J_iload dX4_send_43 rfl ?_
    obtain ⟨k16, hf⟩ := gds hf
    obtain ⟨n17, hf⟩ := gds hf
    refine J_iastore dX4_send_45 k16 n17 ?_
    obtain ⟨h18, eh18, hf⟩ := bls hf
    refine J_h eh18 ?_
    refine J_aload_n dX4_send_46 rfl rfl ?_
    have k19 : kd h18 a0 = 5 := by rw [eh18]; exact k14
    obtain ⟨b20, rb20, hf⟩ := rfs hf
    refine G_4_3 dX4_send_47 tk_71 k19 rb20 ?_
    refine J_iload dX4_send_50 rfl ?_
    refine J_iload dX4_send_52 rfl ?_
    obtain ⟨k21, hf⟩ := gds hf
    obtain ⟨n22, hf⟩ := gds hf
    refine J_iastore dX4_send_54 k21 n22 ?_
    obtain ⟨h23, eh23, hf⟩ := bls hf
    refine J_h eh23 ?_
    refine J_aload_n dX4_send_55 rfl rfl ?_
    refine J_dup dX4_send_56 rfl ?_
    have k24 : kd h23 a0 = 5 := by rw [eh23]; exact k19
    refine G_4_5 dX4_send_57 tk_74 k24 ?_
    refine J_iconst (v := 1) dX4_send_60 (by decide) ?_
    refine J_iadd dX4_send_61 ?_
    refine P_4_5 dX4_send_62 tk_74 k24 ?_
    obtain ⟨h25, eh25, hf⟩ := bls hf
    refine J_h eh25 ?_
    refine J_iconst (v := 1) dX4_send_65 (by decide) ?_
    cases hf
    exact J_zretN dX4_send_66 rfl (Or.inr rfl) (by decide) (by decide)
  · refine J_icmp_lt (tgt := 11) dX4_send_6 (by decide) (fun w => absurd w c2) (fun _ => ?_)
    refine J_iconst (v := 0) dX4_send_9 (by decide) ?_
    cases hf
    exact J_zretN dX4_send_10 rfl (Or.inl rfl) (by decide) (by decide)
theorem mX4_send {g : JG} (hst : (jl g).stackTraces = false) {a0 : Nat} {y1 : Int64} {x3 : Int32} {x4 : Int32} {x5 : Int32} {z : Nat} {h : AH} {o : Int32 × Nat × AH} (hf : fX4_send a0 y1 x3 x4 x5 z h = some o) : jMet g yX4_send (wj yX4_send cX4_send 7 (some .boolean)) rmX4_send [.ref a0, .long y1, .int x3, .int x4, .int x5] z h (some (.int o.1), o.2.1, o.2.2) :=
  jMet_mk (by decide) (Nat.le_of_ble_eq_true rfl) [some (.ref a0), some (.long y1), none, some (.int x3), some (.int x4), some (.int x5), none] rfl (wfX4_send hst hf)
def fX6_init  (a0 : Nat) (z : Nat) (h : AH) : Option (Nat × AH) :=
  bl (wNew h z 13 8) (fun h1 => gd (kd h1 a0 = 7) (bl (wR h1 a0 0 (some z)) (fun h4 => bl (wI h4 a0 1 (-1)) (fun h6 => bl (wI h6 a0 2 (-1)) (fun h8 => bl (wI h8 a0 3 (-1)) (fun h10 => some ((z + 1), h10)))))))
theorem wfX6_init {g : JG} (hst : (jl g).stackTraces = false)   {a0 : Nat} {z : Nat} {h : AH} {o : Nat × AH} (hf : fX6_init  a0 z h = some o) : J g MX6_init (jN g (none, o.1, o.2) rmX6_init.cells rmX6_init.slots) 0 [some (.ref a0)] [] z h 0 0 := by
  unfold fX6_init at hf
  refine J_aload_n dX6_init_0 rfl rfl ?_
  refine J_objInit dX6_init_1 tk_160 tk_25 tk_26 (by decide) (Nat.le_of_ble_eq_true rfl) ?_
  refine J_aload_n dX6_init_4 rfl rfl ?_
  refine J_bipush (v := 8) dX6_init_5 (by decide) ?_
  refine J_newarr (ty := .int) (N := 8) (t := 2) (kk0 := 13) dX6_init_7 rfl tk_58 (by decide) (by decide) (by decide) (fun _ => rfl) (fun _ _ hh => hh) (fun ca => ⟨_, rfl, rfl⟩) (by decide) (by decide) ?_
  obtain ⟨h1, eh1, hf⟩ := bls hf
  refine J_h eh1 ?_
  have k2 : kd h1 z = 13 := by rw [eh1]; exact wNew_kd _ _ _ _
  obtain ⟨k3, hf⟩ := gds hf
  refine P_6_0 dX6_init_9 tk_161 k3 rfl rfl ?_
  obtain ⟨h4, eh4, hf⟩ := bls hf
  refine J_h eh4 ?_
  refine J_aload_n dX6_init_12 rfl rfl ?_
  refine J_iconst (v := (-1)) dX6_init_13 (by decide) ?_
  have k5 : kd h4 a0 = 7 := by rw [eh4]; exact k3
  refine P_6_1 dX6_init_14 tk_163 k5 ?_
  obtain ⟨h6, eh6, hf⟩ := bls hf
  refine J_h eh6 ?_
  refine J_aload_n dX6_init_17 rfl rfl ?_
  refine J_iconst (v := (-1)) dX6_init_18 (by decide) ?_
  have k7 : kd h6 a0 = 7 := by rw [eh6]; exact k5
  refine P_6_2 dX6_init_19 tk_165 k7 ?_
  obtain ⟨h8, eh8, hf⟩ := bls hf
  refine J_h eh8 ?_
  refine J_aload_n dX6_init_22 rfl rfl ?_
  refine J_iconst (v := (-1)) dX6_init_23 (by decide) ?_
  have k9 : kd h8 a0 = 7 := by rw [eh8]; exact k7
  refine P_6_3 dX6_init_24 tk_167 k9 ?_
  obtain ⟨h10, eh10, hf⟩ := bls hf
  refine J_h eh10 ?_
  cases hf
  exact J_vretN dX6_init_27 rfl (by decide) (by decide)
theorem mX6_init {g : JG} (hst : (jl g).stackTraces = false) {a0 : Nat} {z : Nat} {h : AH} {o : Nat × AH} (hf : fX6_init a0 z h = some o) : jMet g yX6_init (wj yX6_init cX6_init 1 none) rmX6_init [.ref a0] z h (none, o.1, o.2) :=
  jMet_mk (by decide) (Nat.le_of_ble_eq_true rfl) [some (.ref a0)] rfl (wfX6_init hst hf)
def fX5_init  (a0 : Nat) (z : Nat) (h : AH) : Option (Nat × AH) :=
  bl (wNew h z 12 120) (fun h1 => gd (kd h1 a0 = 6) (bl (wR h1 a0 0 (some z)) (fun h4 => some ((z + 1), h4))))
theorem wfX5_init {g : JG} (hst : (jl g).stackTraces = false)   {a0 : Nat} {z : Nat} {h : AH} {o : Nat × AH} (hf : fX5_init  a0 z h = some o) : J g MX5_init (jN g (none, o.1, o.2) rmX5_init.cells rmX5_init.slots) 0 [some (.ref a0)] [] z h 0 0 := by
  unfold fX5_init at hf
  refine J_aload_n dX5_init_0 rfl rfl ?_
  refine J_objInit dX5_init_1 tk_236 tk_25 tk_26 (by decide) (Nat.le_of_ble_eq_true rfl) ?_
  refine J_aload_n dX5_init_4 rfl rfl ?_
  refine J_bipush (v := 120) dX5_init_5 (by decide) ?_
  refine J_newarr (ty := .char) (N := 120) (t := 1) (kk0 := 12) dX5_init_7 rfl tk_246 (by decide) (by decide) (by decide) (fun _ => rfl) (fun _ _ hh => hh) (fun ca => ⟨_, rfl, rfl⟩) (by decide) (by decide) ?_
  obtain ⟨h1, eh1, hf⟩ := bls hf
  refine J_h eh1 ?_
  have k2 : kd h1 z = 12 := by rw [eh1]; exact wNew_kd _ _ _ _
  obtain ⟨k3, hf⟩ := gds hf
  refine P_5_0 dX5_init_9 tk_237 k3 rfl rfl ?_
  obtain ⟨h4, eh4, hf⟩ := bls hf
  refine J_h eh4 ?_
  cases hf
  exact J_vretN dX5_init_12 rfl (by decide) (by decide)
theorem mX5_init {g : JG} (hst : (jl g).stackTraces = false) {a0 : Nat} {z : Nat} {h : AH} {o : Nat × AH} (hf : fX5_init a0 z h = some o) : jMet g yX5_init (wj yX5_init cX5_init 1 none) rmX5_init [.ref a0] z h (none, o.1, o.2) :=
  jMet_mk (by decide) (Nat.le_of_ble_eq_true rfl) [some (.ref a0)] rfl (wfX5_init hst hf)
def fX4_property  (a0 : Nat) (x1 : Int32) (x2 : Int32) (z : Nat) (h : AH) : Option (Int32 × Nat × AH) :=
  (if x1 < 0 then (some ((-1), z, h)) else (gd (kd h a0 = 5) ((if x1 < (iv h a0 5) then (bd3 (fX4_rowOf a0 x1 z h) (fun vo4 zo4 ho4h => (if x2 = 0 then (gd (kd ho4h a0 = 5) (Option.bind (rv ho4h a0 0) (fun b7 => gd (kd ho4h b7 = 14) (gd (¬ ((vo4 : Int32) < 0 ∨ ln ho4h b7 ≤ Int32.toNatClampNeg vo4)) (bd3 (fX4_taskAt (jv ho4h b7 (Int32.toNatClampNeg vo4)) 0 zo4 ho4h) (fun vo10 zo10 ho10h => some (vo10, zo10, ho10h))))))) else (if x2 = 1 then (gd (kd ho4h a0 = 5) (Option.bind (rv ho4h a0 2) (fun b13 => gd (kd ho4h b13 = 13) (gd (¬ ((vo4 : Int32) < 0 ∨ ln ho4h b13 ≤ Int32.toNatClampNeg vo4)) (some ((iv ho4h b13 (Int32.toNatClampNeg vo4)), zo4, ho4h)))))) else (if x2 = 2 then (gd (kd ho4h a0 = 5) (Option.bind (rv ho4h a0 3) (fun b18 => gd (kd ho4h b18 = 13) (gd (¬ ((vo4 : Int32) < 0 ∨ ln ho4h b18 ≤ Int32.toNatClampNeg vo4)) (some ((iv ho4h b18 (Int32.toNatClampNeg vo4)), zo4, ho4h)))))) else (if x2 = 3 then (gd (kd ho4h a0 = 5) (Option.bind (rv ho4h a0 1) (fun b23 => gd (kd ho4h b23 = 13) (gd (¬ ((vo4 : Int32) < 0 ∨ ln ho4h b23 ≤ Int32.toNatClampNeg vo4)) (some ((iv ho4h b23 (Int32.toNatClampNeg vo4)), zo4, ho4h)))))) else (gd (kd ho4h a0 = 5) (Option.bind (rv ho4h a0 0) (fun b27 => gd (kd ho4h b27 = 14) (gd (¬ ((vo4 : Int32) < 0 ∨ ln ho4h b27 ≤ Int32.toNatClampNeg vo4)) (Option.bind (rv ho4h a0 1) (fun b30 => gd (kd ho4h b30 = 13) (gd (¬ ((vo4 : Int32) < 0 ∨ ln ho4h b30 ≤ Int32.toNatClampNeg vo4)) (bd3 (fX4_members (jv ho4h b27 (Int32.toNatClampNeg vo4)) (iv ho4h b30 (Int32.toNatClampNeg vo4)) zo4 ho4h) (fun vo33 zo33 ho33h => some (vo33, zo33, ho33h)))))))))))))))) else (some ((-1), z, h))))))
theorem wfX4_property {g : JG} (hst : (jl g).stackTraces = false)   {a0 : Nat} {x1 : Int32} {x2 : Int32} {z : Nat} {h : AH} {o : Int32 × Nat × AH} (hf : fX4_property  a0 x1 x2 z h = some o) : J g MX4_property (jN g (some (.int o.1), o.2.1, o.2.2) rmX4_property.cells rmX4_property.slots) 0 [some (.ref a0), some (.int x1), some (.int x2), none] [] z h 0 0 := by
  unfold fX4_property at hf
  refine J_iload_n dX4_property_0 rfl rfl ?_
  rcases br hf with ⟨c1, hf⟩ | ⟨c1, hf⟩
  · refine J_if_lt (tgt := 12) dX4_property_1 (by decide) (fun _ => ?_) (fun w => absurd c1 w)
    refine J_iconst (v := (-1)) dX4_property_12 (by decide) ?_
    cases hf
    exact J_iretN dX4_property_13 rfl (by decide) (by decide)
  · refine J_if_lt (tgt := 12) dX4_property_1 (by decide) (fun w => absurd w c1) (fun _ => ?_)
    refine J_iload_n dX4_property_4 rfl rfl ?_
    refine J_aload_n dX4_property_5 rfl rfl ?_
    obtain ⟨k2, hf⟩ := gds hf
    refine G_4_5 dX4_property_6 tk_74 k2 ?_
    rcases br hf with ⟨c3, hf⟩ | ⟨c3, hf⟩
    · refine J_icmp_lt (tgt := 14) dX4_property_9 (by decide) (fun _ => ?_) (fun w => absurd c3 w)
      refine J_aload_n dX4_property_14 rfl rfl ?_
      refine J_iload_n dX4_property_15 rfl rfl ?_
      obtain ⟨vo4, zo4, ho4h, ho4, hf⟩ := rfs3 hf
      refine CV1i dX4_property_16 (mX4_rowOf hst ho4) tk_533 iX4_rowOf k2 (by decide) rfl ⟨by decide, by decide⟩ ⟨by decide, by decide⟩ (Nat.le_of_ble_eq_true rfl) ?_
      refine S_istore_n_3 dX4_property_19 rfl (by decide) ?_
      refine J_iload_n dX4_property_20 rfl rfl ?_
      rcases br hf with ⟨c5, hf⟩ | ⟨c5, hf⟩
      · refine J_tableC (off := 31) (tgt := 52) c5 dX4_property_21 (by decide) (by decide) (by decide) (by decide) ?_
        refine J_aload_n dX4_property_52 rfl rfl ?_
        obtain ⟨k6, hf⟩ := gds hf
        obtain ⟨b7, rb7, hf⟩ := rfs hf
        refine G_4_0 dX4_property_53 tk_65 k6 rb7 ?_
        refine J_iload_n dX4_property_56 rfl rfl ?_
        obtain ⟨k8, hf⟩ := gds hf
        obtain ⟨n9, hf⟩ := gds hf
        refine J_laload dX4_property_57 k8 n9 ?_
        refine J_iconst (v := 0) dX4_property_58 (by decide) ?_
        obtain ⟨vo10, zo10, ho10h, ho10, hf⟩ := rfs3 hf
        refine CS2i (host := "") dX4_property_59 (mX4_taskAt hst ho10) tk_537 iX4_taskAt ⟨by decide, by decide⟩ ⟨by decide, by decide⟩ (Nat.le_of_ble_eq_true rfl) ?_
        cases hf
        exact J_iretN dX4_property_62 rfl (by decide) (by decide)
      · skip
        rcases br hf with ⟨c11, hf⟩ | ⟨c11, hf⟩
        · refine J_tableC (off := 42) (tgt := 63) c11 dX4_property_21 (by decide) (by decide) (by decide) (by decide) ?_
          refine J_aload_n dX4_property_63 rfl rfl ?_
          obtain ⟨k12, hf⟩ := gds hf
          obtain ⟨b13, rb13, hf⟩ := rfs hf
          refine G_4_2 dX4_property_64 tk_69 k12 rb13 ?_
          refine J_iload_n dX4_property_67 rfl rfl ?_
          obtain ⟨k14, hf⟩ := gds hf
          obtain ⟨n15, hf⟩ := gds hf
          refine J_iaload dX4_property_68 k14 n15 ?_
          cases hf
          exact J_iretN dX4_property_69 rfl (by decide) (by decide)
        · skip
          rcases br hf with ⟨c16, hf⟩ | ⟨c16, hf⟩
          · refine J_tableC (off := 49) (tgt := 70) c16 dX4_property_21 (by decide) (by decide) (by decide) (by decide) ?_
            refine J_aload_n dX4_property_70 rfl rfl ?_
            obtain ⟨k17, hf⟩ := gds hf
            obtain ⟨b18, rb18, hf⟩ := rfs hf
            refine G_4_3 dX4_property_71 tk_71 k17 rb18 ?_
            refine J_iload_n dX4_property_74 rfl rfl ?_
            obtain ⟨k19, hf⟩ := gds hf
            obtain ⟨n20, hf⟩ := gds hf
            refine J_iaload dX4_property_75 k19 n20 ?_
            cases hf
            exact J_iretN dX4_property_76 rfl (by decide) (by decide)
          · skip
            rcases br hf with ⟨c21, hf⟩ | ⟨c21, hf⟩
            · refine J_tableC (off := 56) (tgt := 77) c21 dX4_property_21 (by decide) (by decide) (by decide) (by decide) ?_
              refine J_aload_n dX4_property_77 rfl rfl ?_
              obtain ⟨k22, hf⟩ := gds hf
              obtain ⟨b23, rb23, hf⟩ := rfs hf
              refine G_4_1 dX4_property_78 tk_67 k22 rb23 ?_
              refine J_iload_n dX4_property_81 rfl rfl ?_
              obtain ⟨k24, hf⟩ := gds hf
              obtain ⟨n25, hf⟩ := gds hf
              refine J_iaload dX4_property_82 k24 n25 ?_
              cases hf
              exact J_iretN dX4_property_83 rfl (by decide) (by decide)
            · skip
              have tc5 := tn (i := 0) c5 (by decide)
              have tc11 := tn (i := 1) c11 (by decide)
              have tc16 := tn (i := 2) c16 (by decide)
              have tc21 := tn (i := 3) c21 (by decide)
              refine J_tableOut (tgt := 84) dX4_property_21 (by omega) (by decide) ?_
              refine J_aload_n dX4_property_84 rfl rfl ?_
              obtain ⟨k26, hf⟩ := gds hf
              obtain ⟨b27, rb27, hf⟩ := rfs hf
              refine G_4_0 dX4_property_85 tk_65 k26 rb27 ?_
              refine J_iload_n dX4_property_88 rfl rfl ?_
              obtain ⟨k28, hf⟩ := gds hf
              obtain ⟨n29, hf⟩ := gds hf
              refine J_laload dX4_property_89 k28 n29 ?_
              refine J_aload_n dX4_property_90 rfl rfl ?_
              obtain ⟨b30, rb30, hf⟩ := rfs hf
              refine G_4_1 dX4_property_91 tk_67 k26 rb30 ?_
              refine J_iload_n dX4_property_94 rfl rfl ?_
              obtain ⟨k31, hf⟩ := gds hf
              obtain ⟨n32, hf⟩ := gds hf
              refine J_iaload dX4_property_95 k31 n32 ?_
              obtain ⟨vo33, zo33, ho33h, ho33, hf⟩ := rfs3 hf
              refine CS2i (host := "") dX4_property_96 (mX4_members hst ho33) tk_540 iX4_members ⟨by decide, by decide⟩ ⟨by decide, by decide⟩ (Nat.le_of_ble_eq_true rfl) ?_
              cases hf
              exact J_iretN dX4_property_99 rfl (by decide) (by decide)
    · refine J_icmp_lt (tgt := 14) dX4_property_9 (by decide) (fun w => absurd w c3) (fun _ => ?_)
      refine J_iconst (v := (-1)) dX4_property_12 (by decide) ?_
      cases hf
      exact J_iretN dX4_property_13 rfl (by decide) (by decide)
theorem mX4_property {g : JG} (hst : (jl g).stackTraces = false) {a0 : Nat} {x1 : Int32} {x2 : Int32} {z : Nat} {h : AH} {o : Int32 × Nat × AH} (hf : fX4_property a0 x1 x2 z h = some o) : jMet g yX4_property (wj yX4_property cX4_property 4 (some .int)) rmX4_property [.ref a0, .int x1, .int x2] z h (some (.int o.1), o.2.1, o.2.2) :=
  jMet_mk (by decide) (Nat.le_of_ble_eq_true rfl) [some (.ref a0), some (.int x1), some (.int x2), none] rfl (wfX4_property hst hf)
def bX5_append_30  (a0 : Nat) (z : Nat) (h : AH) : Option (Int32 × Nat × AH) :=
  gd (kd h a0 = 6) (some ((iv h a0 1), z, h))
def fX5_append  (a0 : Nat) (x1 : Int32) (z : Nat) (h : AH) : Option (Int32 × Nat × AH) :=
  gd (kd h a0 = 6) ((if 120 ≤ (iv h a0 1) then (bX5_append_30  a0 z h) else (Option.bind (rv h a0 0) (fun b3 => gd (kd h b3 = 12) (gd (¬ (((iv h a0 1) : Int32) < 0 ∨ ln h b3 ≤ Int32.toNatClampNeg (iv h a0 1))) (bl (wI h b3 (Int32.toNatClampNeg (iv h a0 1)) (vp_nar .char (((Int32.toUInt32 x1) % 65536).toInt32))) (fun h6 => bl (wI h6 a0 1 ((iv h6 a0 1) + 1)) (fun h8 => bX5_append_30  a0 z h8))))))))
theorem wbX5_append_30 {g : JG} (hst : (jl g).stackTraces = false)   {a0 : Nat} {z : Nat} {h : AH} {o : Int32 × Nat × AH} (hf : bX5_append_30  a0 z h = some o) : J g MX5_append (jN g (some (.int o.1), o.2.1, o.2.2) rmX5_append.cells rmX5_append.slots) 30 [some (.ref a0), none] [] z h 0 0 := by
  unfold bX5_append_30 at hf
  refine J_aload_n dX5_append_30 rfl rfl ?_
  obtain ⟨k1, hf⟩ := gds hf
  refine G_5_1 dX5_append_31 tk_239 k1 ?_
  cases hf
  exact J_iretN dX5_append_34 rfl (by decide) (by decide)
theorem wfX5_append {g : JG} (hst : (jl g).stackTraces = false)   {a0 : Nat} {x1 : Int32} {z : Nat} {h : AH} {o : Int32 × Nat × AH} (hf : fX5_append  a0 x1 z h = some o) : J g MX5_append (jN g (some (.int o.1), o.2.1, o.2.2) rmX5_append.cells rmX5_append.slots) 0 [some (.ref a0), some (.int x1)] [] z h 0 0 := by
  unfold fX5_append at hf
  refine J_aload_n dX5_append_0 rfl rfl ?_
  obtain ⟨k1, hf⟩ := gds hf
  refine G_5_1 dX5_append_1 tk_239 k1 ?_
  refine J_bipush (v := 120) dX5_append_4 (by decide) ?_
  rcases br hf with ⟨c2, hf⟩ | ⟨c2, hf⟩
  · refine J_icmp_ge (tgt := 30) dX5_append_6 (by decide) (fun _ => ?_) (fun w => absurd c2 w)
    refine J.sub (jsub_s (jsub_n (jsub_nil _))) ?_
    exact wbX5_append_30 hst   hf
  · refine J_icmp_ge (tgt := 30) dX5_append_6 (by decide) (fun w => absurd w c2) (fun _ => ?_)
    refine J_aload_n dX5_append_9 rfl rfl ?_
    obtain ⟨b3, rb3, hf⟩ := rfs hf
    refine G_5_0 dX5_append_10 tk_237 k1 rb3 ?_
    refine J_aload_n dX5_append_13 rfl rfl ?_
    refine G_5_1 dX5_append_14 tk_239 k1 ?_
    refine J_iload_n dX5_append_17 rfl rfl ?_
    refine J_i2c dX5_append_18 ?_
    obtain ⟨k4, hf⟩ := gds hf
    obtain ⟨n5, hf⟩ := gds hf
    refine J_castore dX5_append_19 k4 n5 ?_
    obtain ⟨h6, eh6, hf⟩ := bls hf
    refine J_h eh6 ?_
    refine J_aload_n dX5_append_20 rfl rfl ?_
    refine J_dup dX5_append_21 rfl ?_
    have k7 : kd h6 a0 = 6 := by rw [eh6]; exact k1
    refine G_5_1 dX5_append_22 tk_239 k7 ?_
    refine J_iconst (v := 1) dX5_append_25 (by decide) ?_
    refine J_iadd dX5_append_26 ?_
    refine P_5_1 dX5_append_27 tk_239 k7 ?_
    obtain ⟨h8, eh8, hf⟩ := bls hf
    refine J_h eh8 ?_
    refine J.sub (jsub_s (jsub_n (jsub_nil _))) ?_
    exact wbX5_append_30 hst   hf
theorem mX5_append {g : JG} (hst : (jl g).stackTraces = false) {a0 : Nat} {x1 : Int32} {z : Nat} {h : AH} {o : Int32 × Nat × AH} (hf : fX5_append a0 x1 z h = some o) : jMet g yX5_append (wj yX5_append cX5_append 2 (some .int)) rmX5_append [.ref a0, .int x1] z h (some (.int o.1), o.2.1, o.2.2) :=
  jMet_mk (by decide) (Nat.le_of_ble_eq_true rfl) [some (.ref a0), some (.int x1)] rfl (wfX5_append hst hf)
def fX5_numbersAfter  (x0 : Int32) (z : Nat) (h : AH) : Option (Int32 × Nat × AH) :=
  (if x0 = 97 then (some (1, z, h)) else (if x0 = 98 then (some (1, z, h)) else (if x0 = 99 then (some (0, z, h)) else (if x0 = 100 then (some (1, z, h)) else (if x0 = 101 then (some (0, z, h)) else (if x0 = 102 then (some (1, z, h)) else (if x0 = 103 then (some (0, z, h)) else (if x0 = 104 then (some (0, z, h)) else (if x0 = 105 then (some (0, z, h)) else (if x0 = 106 then (some (0, z, h)) else (if x0 = 107 then (some (0, z, h)) else (if x0 = 108 then (some (2, z, h)) else (if x0 = 109 then (some (0, z, h)) else (if x0 = 110 then (some (0, z, h)) else (if x0 = 111 then (some (0, z, h)) else (if x0 = 112 then (some (1, z, h)) else (if x0 = 113 then (some (2, z, h)) else (if x0 = 114 then (some (0, z, h)) else (if x0 = 115 then (some (0, z, h)) else (if x0 = 116 then (some (1, z, h)) else (some (0, z, h))))))))))))))))))))))
theorem wfX5_numbersAfter {g : JG} (hst : (jl g).stackTraces = false)   {x0 : Int32} {z : Nat} {h : AH} {o : Int32 × Nat × AH} (hf : fX5_numbersAfter  x0 z h = some o) : J g MX5_numbersAfter (jN g (some (.int o.1), o.2.1, o.2.2) rmX5_numbersAfter.cells rmX5_numbersAfter.slots) 0 [some (.int x0)] [] z h 0 0 := by
  unfold fX5_numbersAfter at hf
  refine J_iload_n dX5_numbersAfter_0 rfl rfl ?_
  rcases br hf with ⟨c1, hf⟩ | ⟨c1, hf⟩
  · refine J_tableC (off := 97) (tgt := 98) c1 dX5_numbersAfter_1 (by decide) (by decide) (by decide) (by decide) ?_
    refine J_iconst (v := 1) dX5_numbersAfter_98 (by decide) ?_
    cases hf
    exact J_iretN dX5_numbersAfter_99 rfl (by decide) (by decide)
  · skip
    rcases br hf with ⟨c2, hf⟩ | ⟨c2, hf⟩
    · refine J_tableC (off := 97) (tgt := 98) c2 dX5_numbersAfter_1 (by decide) (by decide) (by decide) (by decide) ?_
      refine J_iconst (v := 1) dX5_numbersAfter_98 (by decide) ?_
      cases hf
      exact J_iretN dX5_numbersAfter_99 rfl (by decide) (by decide)
    · skip
      rcases br hf with ⟨c3, hf⟩ | ⟨c3, hf⟩
      · refine J_tableC (off := 99) (tgt := 100) c3 dX5_numbersAfter_1 (by decide) (by decide) (by decide) (by decide) ?_
        refine J_iconst (v := 0) dX5_numbersAfter_100 (by decide) ?_
        cases hf
        exact J_iretN dX5_numbersAfter_101 rfl (by decide) (by decide)
      · skip
        rcases br hf with ⟨c4, hf⟩ | ⟨c4, hf⟩
        · refine J_tableC (off := 97) (tgt := 98) c4 dX5_numbersAfter_1 (by decide) (by decide) (by decide) (by decide) ?_
          refine J_iconst (v := 1) dX5_numbersAfter_98 (by decide) ?_
          cases hf
          exact J_iretN dX5_numbersAfter_99 rfl (by decide) (by decide)
        · skip
          rcases br hf with ⟨c5, hf⟩ | ⟨c5, hf⟩
          · refine J_tableC (off := 99) (tgt := 100) c5 dX5_numbersAfter_1 (by decide) (by decide) (by decide) (by decide) ?_
            refine J_iconst (v := 0) dX5_numbersAfter_100 (by decide) ?_
            cases hf
            exact J_iretN dX5_numbersAfter_101 rfl (by decide) (by decide)
          · skip
            rcases br hf with ⟨c6, hf⟩ | ⟨c6, hf⟩
            · refine J_tableC (off := 97) (tgt := 98) c6 dX5_numbersAfter_1 (by decide) (by decide) (by decide) (by decide) ?_
              refine J_iconst (v := 1) dX5_numbersAfter_98 (by decide) ?_
              cases hf
              exact J_iretN dX5_numbersAfter_99 rfl (by decide) (by decide)
            · skip
              rcases br hf with ⟨c7, hf⟩ | ⟨c7, hf⟩
              · refine J_tableC (off := 99) (tgt := 100) c7 dX5_numbersAfter_1 (by decide) (by decide) (by decide) (by decide) ?_
                refine J_iconst (v := 0) dX5_numbersAfter_100 (by decide) ?_
                cases hf
                exact J_iretN dX5_numbersAfter_101 rfl (by decide) (by decide)
              · skip
                rcases br hf with ⟨c8, hf⟩ | ⟨c8, hf⟩
                · refine J_tableC (off := 99) (tgt := 100) c8 dX5_numbersAfter_1 (by decide) (by decide) (by decide) (by decide) ?_
                  refine J_iconst (v := 0) dX5_numbersAfter_100 (by decide) ?_
                  cases hf
                  exact J_iretN dX5_numbersAfter_101 rfl (by decide) (by decide)
                · skip
                  rcases br hf with ⟨c9, hf⟩ | ⟨c9, hf⟩
                  · refine J_tableC (off := 99) (tgt := 100) c9 dX5_numbersAfter_1 (by decide) (by decide) (by decide) (by decide) ?_
                    refine J_iconst (v := 0) dX5_numbersAfter_100 (by decide) ?_
                    cases hf
                    exact J_iretN dX5_numbersAfter_101 rfl (by decide) (by decide)
                  · skip
                    rcases br hf with ⟨c10, hf⟩ | ⟨c10, hf⟩
                    · refine J_tableC (off := 99) (tgt := 100) c10 dX5_numbersAfter_1 (by decide) (by decide) (by decide) (by decide) ?_
                      refine J_iconst (v := 0) dX5_numbersAfter_100 (by decide) ?_
                      cases hf
                      exact J_iretN dX5_numbersAfter_101 rfl (by decide) (by decide)
                    · skip
                      rcases br hf with ⟨c11, hf⟩ | ⟨c11, hf⟩
                      · refine J_tableC (off := 99) (tgt := 100) c11 dX5_numbersAfter_1 (by decide) (by decide) (by decide) (by decide) ?_
                        refine J_iconst (v := 0) dX5_numbersAfter_100 (by decide) ?_
                        cases hf
                        exact J_iretN dX5_numbersAfter_101 rfl (by decide) (by decide)
                      · skip
                        rcases br hf with ⟨c12, hf⟩ | ⟨c12, hf⟩
                        · refine J_tableC (off := 95) (tgt := 96) c12 dX5_numbersAfter_1 (by decide) (by decide) (by decide) (by decide) ?_
                          refine J_iconst (v := 2) dX5_numbersAfter_96 (by decide) ?_
                          cases hf
                          exact J_iretN dX5_numbersAfter_97 rfl (by decide) (by decide)
                        · skip
                          rcases br hf with ⟨c13, hf⟩ | ⟨c13, hf⟩
                          · refine J_tableC (off := 99) (tgt := 100) c13 dX5_numbersAfter_1 (by decide) (by decide) (by decide) (by decide) ?_
                            refine J_iconst (v := 0) dX5_numbersAfter_100 (by decide) ?_
                            cases hf
                            exact J_iretN dX5_numbersAfter_101 rfl (by decide) (by decide)
                          · skip
                            rcases br hf with ⟨c14, hf⟩ | ⟨c14, hf⟩
                            · refine J_tableC (off := 99) (tgt := 100) c14 dX5_numbersAfter_1 (by decide) (by decide) (by decide) (by decide) ?_
                              refine J_iconst (v := 0) dX5_numbersAfter_100 (by decide) ?_
                              cases hf
                              exact J_iretN dX5_numbersAfter_101 rfl (by decide) (by decide)
                            · skip
                              rcases br hf with ⟨c15, hf⟩ | ⟨c15, hf⟩
                              · refine J_tableC (off := 99) (tgt := 100) c15 dX5_numbersAfter_1 (by decide) (by decide) (by decide) (by decide) ?_
                                refine J_iconst (v := 0) dX5_numbersAfter_100 (by decide) ?_
                                cases hf
                                exact J_iretN dX5_numbersAfter_101 rfl (by decide) (by decide)
                              · skip
                                rcases br hf with ⟨c16, hf⟩ | ⟨c16, hf⟩
                                · refine J_tableC (off := 97) (tgt := 98) c16 dX5_numbersAfter_1 (by decide) (by decide) (by decide) (by decide) ?_
                                  refine J_iconst (v := 1) dX5_numbersAfter_98 (by decide) ?_
                                  cases hf
                                  exact J_iretN dX5_numbersAfter_99 rfl (by decide) (by decide)
                                · skip
                                  rcases br hf with ⟨c17, hf⟩ | ⟨c17, hf⟩
                                  · refine J_tableC (off := 95) (tgt := 96) c17 dX5_numbersAfter_1 (by decide) (by decide) (by decide) (by decide) ?_
                                    refine J_iconst (v := 2) dX5_numbersAfter_96 (by decide) ?_
                                    cases hf
                                    exact J_iretN dX5_numbersAfter_97 rfl (by decide) (by decide)
                                  · skip
                                    rcases br hf with ⟨c18, hf⟩ | ⟨c18, hf⟩
                                    · refine J_tableC (off := 99) (tgt := 100) c18 dX5_numbersAfter_1 (by decide) (by decide) (by decide) (by decide) ?_
                                      refine J_iconst (v := 0) dX5_numbersAfter_100 (by decide) ?_
                                      cases hf
                                      exact J_iretN dX5_numbersAfter_101 rfl (by decide) (by decide)
                                    · skip
                                      rcases br hf with ⟨c19, hf⟩ | ⟨c19, hf⟩
                                      · refine J_tableC (off := 99) (tgt := 100) c19 dX5_numbersAfter_1 (by decide) (by decide) (by decide) (by decide) ?_
                                        refine J_iconst (v := 0) dX5_numbersAfter_100 (by decide) ?_
                                        cases hf
                                        exact J_iretN dX5_numbersAfter_101 rfl (by decide) (by decide)
                                      · skip
                                        rcases br hf with ⟨c20, hf⟩ | ⟨c20, hf⟩
                                        · refine J_tableC (off := 97) (tgt := 98) c20 dX5_numbersAfter_1 (by decide) (by decide) (by decide) (by decide) ?_
                                          refine J_iconst (v := 1) dX5_numbersAfter_98 (by decide) ?_
                                          cases hf
                                          exact J_iretN dX5_numbersAfter_99 rfl (by decide) (by decide)
                                        · skip
                                          have tc1 := tn (i := 97) c1 (by decide)
                                          have tc2 := tn (i := 98) c2 (by decide)
                                          have tc3 := tn (i := 99) c3 (by decide)
                                          have tc4 := tn (i := 100) c4 (by decide)
                                          have tc5 := tn (i := 101) c5 (by decide)
                                          have tc6 := tn (i := 102) c6 (by decide)
                                          have tc7 := tn (i := 103) c7 (by decide)
                                          have tc8 := tn (i := 104) c8 (by decide)
                                          have tc9 := tn (i := 105) c9 (by decide)
                                          have tc10 := tn (i := 106) c10 (by decide)
                                          have tc11 := tn (i := 107) c11 (by decide)
                                          have tc12 := tn (i := 108) c12 (by decide)
                                          have tc13 := tn (i := 109) c13 (by decide)
                                          have tc14 := tn (i := 110) c14 (by decide)
                                          have tc15 := tn (i := 111) c15 (by decide)
                                          have tc16 := tn (i := 112) c16 (by decide)
                                          have tc17 := tn (i := 113) c17 (by decide)
                                          have tc18 := tn (i := 114) c18 (by decide)
                                          have tc19 := tn (i := 115) c19 (by decide)
                                          have tc20 := tn (i := 116) c20 (by decide)
                                          refine J_tableOut (tgt := 100) dX5_numbersAfter_1 (by omega) (by decide) ?_
                                          refine J_iconst (v := 0) dX5_numbersAfter_100 (by decide) ?_
                                          cases hf
                                          exact J_iretN dX5_numbersAfter_101 rfl (by decide) (by decide)
theorem mX5_numbersAfter {g : JG} (hst : (jl g).stackTraces = false) {x0 : Int32} {z : Nat} {h : AH} {o : Int32 × Nat × AH} (hf : fX5_numbersAfter x0 z h = some o) : jMet g yX5_numbersAfter (wj yX5_numbersAfter cX5_numbersAfter 1 (some .int)) rmX5_numbersAfter [.int x0] z h (some (.int o.1), o.2.1, o.2.2) :=
  jMet_mk (by decide) (Nat.le_of_ble_eq_true rfl) [some (.int x0)] rfl (wfX5_numbersAfter hst hf)
def bX5_firstFault_98  (a0 : Nat) (x1 : Int32) (z : Nat) (h : AH) : Option (Int32 × Nat × AH) :=
  (if x1 = 0 then (some ((-1), z, h)) else (gd (kd h a0 = 6) (some ((iv h a0 1), z, h))))
def bX5_firstFault_92 (q6 : Nat → Int32 → Int32 → Int32 → Nat → AH → Option (Int32 × Nat × AH)) (a0 : Nat) (x1 : Int32) (x2 : Int32) (x3 : Int32) (z : Nat) (h : AH) : Option (Int32 × Nat × AH) :=
  q6 a0 x1 x2 (x3 + 1) z h
def bX5_firstFault_82 (q6 : Nat → Int32 → Int32 → Int32 → Nat → AH → Option (Int32 × Nat × AH)) (a0 : Nat) (x1 : Int32) (x3 : Int32) (s0 : Int32) (s1 : Int32) (z : Nat) (h : AH) : Option (Int32 × Nat × AH) :=
  (if s0 = s1 then (bX5_firstFault_92 q6 a0 (x1 + (-1)) 0 x3 z h) else (some (x3, z, h)))
def lX5_firstFault_6B  (q6 : Nat → Int32 → Int32 → Int32 → Nat → AH → Option (Int32 × Nat × AH)) (a0 : Nat) (x1 : Int32) (x2 : Int32) (x3 : Int32) (z : Nat) (h : AH) : Option (Int32 × Nat × AH) :=
  gd (kd h a0 = 6) ((if (iv h a0 1) ≤ x3 then (bX5_firstFault_98  a0 x1 z h) else ((if 120 ≤ x3 then (bX5_firstFault_98  a0 x1 z h) else (Option.bind (rv h a0 0) (fun b4 => gd (kd h b4 = 12) (gd (¬ ((x3 : Int32) < 0 ∨ ln h b4 ≤ Int32.toNatClampNeg x3)) (bl ((iv h b4 (Int32.toNatClampNeg x3))) (fun v7 => (if x1 = 0 then (bd3 (fX5_numbersAfter v7 z h) (fun vo14 zo14 ho14h => (if vo14 = 0 then (some (x3, zo14, ho14h)) else (bX5_firstFault_92 q6 a0 vo14 0 x3 zo14 ho14h)))) else (bd3 (fX8_isDigit v7 z h) (fun vo9 zo9 ho9h => (if vo9 = 0 then ((if x2 = 0 then (some (x3, zo9, ho9h)) else ((if x1 ≤ 1 then (bX5_firstFault_82 q6 a0 x1 x3 v7 59 zo9 ho9h) else (bX5_firstFault_82 q6 a0 x1 x3 v7 44 zo9 ho9h))))) else ((if (x2 + 1) ≤ 2 then (bX5_firstFault_92 q6 a0 x1 (x2 + 1) x3 zo9 ho9h) else (some (x3, zo9, ho9h)))))))))))))))))
def lX5_firstFault_6  : Nat → Nat → Int32 → Int32 → Int32 → Nat → AH → Option (Int32 × Nat × AH)
  | 0 => fun _ _ _ _ _ _ => none
  | fuel + 1 => lX5_firstFault_6B  (lX5_firstFault_6  fuel)
def fX5_firstFault  (a0 : Nat) (z : Nat) (h : AH) : Option (Int32 × Nat × AH) :=
  lX5_firstFault_6  fu a0 0 0 0 z h
theorem wbX5_firstFault_98 {g : JG} (hst : (jl g).stackTraces = false)   {a0 : Nat} {x1 : Int32} {z : Nat} {h : AH} {o : Int32 × Nat × AH} (hf : bX5_firstFault_98  a0 x1 z h = some o) : J g MX5_firstFault (jN g (some (.int o.1), o.2.1, o.2.2) rmX5_firstFault.cells rmX5_firstFault.slots) 98 [some (.ref a0), some (.int x1), none, none, none] [] z h 0 0 := by
  unfold bX5_firstFault_98 at hf
  refine J_iload_n dX5_firstFault_98 rfl rfl ?_
  rcases br hf with ⟨c1, hf⟩ | ⟨c1, hf⟩
  · refine J_if_ne (tgt := 106) dX5_firstFault_99 (by decide) (fun w => absurd c1 w) (fun _ => ?_)
    refine J_iconst (v := (-1)) dX5_firstFault_102 (by decide) ?_
    refine J_goto (tgt := 110) dX5_firstFault_103 (by decide) ?_
    cases hf
    exact J_iretN dX5_firstFault_110 rfl (by decide) (by decide)
  · refine J_if_ne (tgt := 106) dX5_firstFault_99 (by decide) (fun _ => ?_) (fun w => absurd w c1)
    refine J_aload_n dX5_firstFault_106 rfl rfl ?_
    obtain ⟨k2, hf⟩ := gds hf
    refine G_5_1 dX5_firstFault_107 tk_239 k2 ?_
    cases hf
    exact J_iretN dX5_firstFault_110 rfl (by decide) (by decide)
theorem wbX5_firstFault_92 {g : JG} (hst : (jl g).stackTraces = false) (q6 : Nat → Int32 → Int32 → Int32 → Nat → AH → Option (Int32 × Nat × AH)) (hq6 : ∀ (a0 : Nat) (x1 : Int32) (x2 : Int32) (x3 : Int32) (z : Nat) (h : AH) (o : Int32 × Nat × AH), q6 a0 x1 x2 x3 z h = some o → J g MX5_firstFault (jN g (some (.int o.1), o.2.1, o.2.2) rmX5_firstFault.cells rmX5_firstFault.slots) 6 [some (.ref a0), some (.int x1), some (.int x2), some (.int x3), none] [] z h 0 0) {a0 : Nat} {x1 : Int32} {x2 : Int32} {x3 : Int32} {z : Nat} {h : AH} {o : Int32 × Nat × AH} (hf : bX5_firstFault_92 q6 a0 x1 x2 x3 z h = some o) : J g MX5_firstFault (jN g (some (.int o.1), o.2.1, o.2.2) rmX5_firstFault.cells rmX5_firstFault.slots) 92 [some (.ref a0), some (.int x1), some (.int x2), some (.int x3), none] [] z h 0 0 := by
  unfold bX5_firstFault_92 at hf
  refine S_iinc_3 (v := x3 + 1) dX5_firstFault_92 (congrArg (fun w => x3 + w) (by decide)) rfl (by decide) ?_
  refine J_goto (tgt := 6) dX5_firstFault_95 (by decide) ?_
  refine J.sub (jsub_s (jsub_s (jsub_s (jsub_s (jsub_n (jsub_nil _)))))) ?_
  exact hq6 _ _ _ _ _ _ _ hf
theorem wbX5_firstFault_82 {g : JG} (hst : (jl g).stackTraces = false) (q6 : Nat → Int32 → Int32 → Int32 → Nat → AH → Option (Int32 × Nat × AH)) (hq6 : ∀ (a0 : Nat) (x1 : Int32) (x2 : Int32) (x3 : Int32) (z : Nat) (h : AH) (o : Int32 × Nat × AH), q6 a0 x1 x2 x3 z h = some o → J g MX5_firstFault (jN g (some (.int o.1), o.2.1, o.2.2) rmX5_firstFault.cells rmX5_firstFault.slots) 6 [some (.ref a0), some (.int x1), some (.int x2), some (.int x3), none] [] z h 0 0) {a0 : Nat} {x1 : Int32} {x3 : Int32} {s0 : Int32} {s1 : Int32} {z : Nat} {h : AH} {o : Int32 × Nat × AH} (hf : bX5_firstFault_82 q6 a0 x1 x3 s0 s1 z h = some o) : J g MX5_firstFault (jN g (some (.int o.1), o.2.1, o.2.2) rmX5_firstFault.cells rmX5_firstFault.slots) 82 [some (.ref a0), some (.int x1), none, some (.int x3), none] [.int s1, .int s0] z h 0 0 := by
  unfold bX5_firstFault_82 at hf
  rcases br hf with ⟨c1, hf⟩ | ⟨c1, hf⟩
  · refine J_icmp_eq (tgt := 87) dX5_firstFault_82 (by decide) (fun _ => ?_) (fun w => absurd c1 w)
    refine S_iinc_1 (v := x1 + (-1)) dX5_firstFault_87 (congrArg (fun w => x1 + w) (by decide)) rfl (by decide) ?_
    refine J_iconst (v := 0) dX5_firstFault_90 (by decide) ?_
    refine S_istore_n_2 dX5_firstFault_91 rfl (by decide) ?_
    refine J.sub (jsub_s (jsub_s (jsub_s (jsub_s (jsub_n (jsub_nil _)))))) ?_
    exact wbX5_firstFault_92 hst _ hq6 hf
  · refine J_icmp_eq (tgt := 87) dX5_firstFault_82 (by decide) (fun w => absurd w c1) (fun _ => ?_)
    refine J_iload_n dX5_firstFault_85 rfl rfl ?_
    cases hf
    exact J_iretN dX5_firstFault_86 rfl (by decide) (by decide)
theorem wlX5_firstFault_6 {g : JG} (hst : (jl g).stackTraces = false)   : ∀ (fuel : Nat) (a0 : Nat) (x1 : Int32) (x2 : Int32) (x3 : Int32) (z : Nat) (h : AH) (o : Int32 × Nat × AH), lX5_firstFault_6  fuel a0 x1 x2 x3 z h = some o → J g MX5_firstFault (jN g (some (.int o.1), o.2.1, o.2.2) rmX5_firstFault.cells rmX5_firstFault.slots) 6 [some (.ref a0), some (.int x1), some (.int x2), some (.int x3), none] [] z h 0 0 := by
  intro fuel
  induction fuel with
  | zero => intro a0 x1 x2 x3 z h o hf; cases hf
  | succ fuel ih =>
    intro a0 x1 x2 x3 z h o hf
    have hq6 := ih
    have hf : lX5_firstFault_6B  (lX5_firstFault_6  fuel) a0 x1 x2 x3 z h = some o := hf
    generalize lX5_firstFault_6  fuel = q6 at hf hq6
    unfold lX5_firstFault_6B at hf
    refine J_iload_n dX5_firstFault_6 rfl rfl ?_
    refine J_aload_n dX5_firstFault_7 rfl rfl ?_
    obtain ⟨k1, hf⟩ := gds hf
    refine G_5_1 dX5_firstFault_8 tk_239 k1 ?_
    rcases br hf with ⟨c2, hf⟩ | ⟨c2, hf⟩
    · refine J_icmp_ge (tgt := 98) dX5_firstFault_11 (by decide) (fun _ => ?_) (fun w => absurd c2 w)
      refine J.sub (jsub_s (jsub_s (jsub_n (jsub_n (jsub_n (jsub_nil _)))))) ?_
      exact wbX5_firstFault_98 hst   hf
    · refine J_icmp_ge (tgt := 98) dX5_firstFault_11 (by decide) (fun w => absurd w c2) (fun _ => ?_)
      refine J_iload_n dX5_firstFault_14 rfl rfl ?_
      refine J_bipush (v := 120) dX5_firstFault_15 (by decide) ?_
      rcases br hf with ⟨c3, hf⟩ | ⟨c3, hf⟩
      · refine J_icmp_ge (tgt := 98) dX5_firstFault_17 (by decide) (fun _ => ?_) (fun w => absurd c3 w)
        refine J.sub (jsub_s (jsub_s (jsub_n (jsub_n (jsub_n (jsub_nil _)))))) ?_
        exact wbX5_firstFault_98 hst   hf
      · refine J_icmp_ge (tgt := 98) dX5_firstFault_17 (by decide) (fun w => absurd w c3) (fun _ => ?_)
        refine J_aload_n dX5_firstFault_20 rfl rfl ?_
        obtain ⟨b4, rb4, hf⟩ := rfs hf
        refine G_5_0 dX5_firstFault_21 tk_237 k1 rb4 ?_
        refine J_iload_n dX5_firstFault_24 rfl rfl ?_
        obtain ⟨k5, hf⟩ := gds hf
        obtain ⟨n6, hf⟩ := gds hf
        refine J_caload dX5_firstFault_25 k5 n6 ?_
        obtain ⟨v7, ev7, hf⟩ := bls hf
        refine J_i ev7 ?_
        refine S_istore_4 dX5_firstFault_26 rfl (by decide) ?_
        refine J_iload_n dX5_firstFault_28 rfl rfl ?_
        rcases br hf with ⟨c8, hf⟩ | ⟨c8, hf⟩
        · refine J_if_ne (tgt := 46) dX5_firstFault_29 (by decide) (fun w => absurd c8 w) (fun _ => ?_)
          refine J_iload dX5_firstFault_32 rfl ?_
          obtain ⟨vo14, zo14, ho14h, ho14, hf⟩ := rfs3 hf
          refine CS1i (host := "") dX5_firstFault_34 (mX5_numbersAfter hst ho14) tk_414 iX5_numbersAfter ⟨by decide, by decide⟩ ⟨by decide, by decide⟩ (Nat.le_of_ble_eq_true rfl) ?_
          refine S_istore_n_1 dX5_firstFault_37 rfl (by decide) ?_
          refine J_iconst (v := 0) dX5_firstFault_38 (by decide) ?_
          refine S_istore_n_2 dX5_firstFault_39 rfl (by decide) ?_
          refine J_iload_n dX5_firstFault_40 rfl rfl ?_
          rcases br hf with ⟨c15, hf⟩ | ⟨c15, hf⟩
          · refine J_if_ne (tgt := 92) dX5_firstFault_41 (by decide) (fun w => absurd c15 w) (fun _ => ?_)
            refine J_iload_n dX5_firstFault_44 rfl rfl ?_
            cases hf
            exact J_iretN dX5_firstFault_45 rfl (by decide) (by decide)
          · refine J_if_ne (tgt := 92) dX5_firstFault_41 (by decide) (fun _ => ?_) (fun w => absurd w c15)
            refine J.sub (jsub_s (jsub_s (jsub_s (jsub_s (jsub_n (jsub_nil _)))))) ?_
            exact wbX5_firstFault_92 hst _ hq6 hf
        · refine J_if_ne (tgt := 46) dX5_firstFault_29 (by decide) (fun _ => ?_) (fun w => absurd w c8)
          refine J_iload dX5_firstFault_46 rfl ?_
          obtain ⟨vo9, zo9, ho9h, ho9, hf⟩ := rfs3 hf
          refine CSN1i dX5_firstFault_48 (mX8_isDigit hst ho9) tl_417 iX8_isDigit ⟨by decide, by decide⟩ ⟨by decide, by decide⟩ (Nat.le_of_ble_eq_true rfl) ?_
          rcases br hf with ⟨c10, hf⟩ | ⟨c10, hf⟩
          · refine J_if_eq (tgt := 64) dX5_firstFault_51 (by decide) (fun _ => ?_) (fun w => absurd c10 w)
            refine J_iload_n dX5_firstFault_64 rfl rfl ?_
            rcases br hf with ⟨c11, hf⟩ | ⟨c11, hf⟩
            · refine J_if_eq (tgt := 85) dX5_firstFault_65 (by decide) (fun _ => ?_) (fun w => absurd c11 w)
              refine J_iload_n dX5_firstFault_85 rfl rfl ?_
              cases hf
              exact J_iretN dX5_firstFault_86 rfl (by decide) (by decide)
            · refine J_if_eq (tgt := 85) dX5_firstFault_65 (by decide) (fun w => absurd w c11) (fun _ => ?_)
              refine J_iload dX5_firstFault_68 rfl ?_
              refine J_iload_n dX5_firstFault_70 rfl rfl ?_
              refine J_iconst (v := 1) dX5_firstFault_71 (by decide) ?_
              rcases br hf with ⟨c12, hf⟩ | ⟨c12, hf⟩
              · refine J_icmp_le (tgt := 80) dX5_firstFault_72 (by decide) (fun _ => ?_) (fun w => absurd c12 w)
                refine J_bipush (v := 59) dX5_firstFault_80 (by decide) ?_
                refine J.sub (jsub_s (jsub_s (jsub_n (jsub_s (jsub_n (jsub_nil _)))))) ?_
                exact wbX5_firstFault_82 hst _ hq6 hf
              · refine J_icmp_le (tgt := 80) dX5_firstFault_72 (by decide) (fun w => absurd w c12) (fun _ => ?_)
                refine J_bipush (v := 44) dX5_firstFault_75 (by decide) ?_
                refine J_goto (tgt := 82) dX5_firstFault_77 (by decide) ?_
                refine J.sub (jsub_s (jsub_s (jsub_n (jsub_s (jsub_n (jsub_nil _)))))) ?_
                exact wbX5_firstFault_82 hst _ hq6 hf
          · refine J_if_eq (tgt := 64) dX5_firstFault_51 (by decide) (fun w => absurd w c10) (fun _ => ?_)
            refine S_iinc_2 (v := x2 + 1) dX5_firstFault_54 (congrArg (fun w => x2 + w) (by decide)) rfl (by decide) ?_
            refine J_iload_n dX5_firstFault_57 rfl rfl ?_
            refine J_iconst (v := 2) dX5_firstFault_58 (by decide) ?_
            rcases br hf with ⟨c13, hf⟩ | ⟨c13, hf⟩
            · refine J_icmp_le (tgt := 92) dX5_firstFault_59 (by decide) (fun _ => ?_) (fun w => absurd c13 w)
              refine J.sub (jsub_s (jsub_s (jsub_s (jsub_s (jsub_n (jsub_nil _)))))) ?_
              exact wbX5_firstFault_92 hst _ hq6 hf
            · refine J_icmp_le (tgt := 92) dX5_firstFault_59 (by decide) (fun w => absurd w c13) (fun _ => ?_)
              refine J_iload_n dX5_firstFault_62 rfl rfl ?_
              cases hf
              exact J_iretN dX5_firstFault_63 rfl (by decide) (by decide)
theorem wfX5_firstFault {g : JG} (hst : (jl g).stackTraces = false)   {a0 : Nat} {z : Nat} {h : AH} {o : Int32 × Nat × AH} (hf : fX5_firstFault  a0 z h = some o) : J g MX5_firstFault (jN g (some (.int o.1), o.2.1, o.2.2) rmX5_firstFault.cells rmX5_firstFault.slots) 0 [some (.ref a0), none, none, none, none] [] z h 0 0 := by
  unfold fX5_firstFault at hf
  refine J_iconst (v := 0) dX5_firstFault_0 (by decide) ?_
  refine S_istore_n_1 dX5_firstFault_1 rfl (by decide) ?_
  refine J_iconst (v := 0) dX5_firstFault_2 (by decide) ?_
  refine S_istore_n_2 dX5_firstFault_3 rfl (by decide) ?_
  refine J_iconst (v := 0) dX5_firstFault_4 (by decide) ?_
  refine S_istore_n_3 dX5_firstFault_5 rfl (by decide) ?_
  refine J.sub (jsub_s (jsub_s (jsub_s (jsub_s (jsub_n (jsub_nil _)))))) ?_
  exact wlX5_firstFault_6 hst   _ _ _ _ _ _ _ _ hf
theorem mX5_firstFault {g : JG} (hst : (jl g).stackTraces = false) {a0 : Nat} {z : Nat} {h : AH} {o : Int32 × Nat × AH} (hf : fX5_firstFault a0 z h = some o) : jMet g yX5_firstFault (wj yX5_firstFault cX5_firstFault 5 (some .int)) rmX5_firstFault [.ref a0] z h (some (.int o.1), o.2.1, o.2.2) :=
  jMet_mk (by decide) (Nat.le_of_ble_eq_true rfl) [some (.ref a0), none, none, none, none] rfl (wfX5_firstFault hst hf)
