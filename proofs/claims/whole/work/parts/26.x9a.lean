/-! decompiled methods and their walks (printed by gen/gen.py) -/
def fX9_init  (a0 : Nat) (z : Nat) (h : AH) : Option (Nat × AH) :=
  bl (wNew h z 13 613) (fun h1 => gd (kd h1 a0 = 10) (bl (wR h1 a0 0 (some z)) (fun h4 => bl (wNew h4 (z + 1) 13 3065) (fun h5 => gd (kd h5 a0 = 10) (bl (wR h5 a0 1 (some (z + 1))) (fun h8 => bl (wNew h8 ((z + 1) + 1) 13 8) (fun h9 => gd (kd h9 a0 = 10) (bl (wR h9 a0 3 (some ((z + 1) + 1))) (fun h12 => bl (wNew h12 (((z + 1) + 1) + 1) 11 120) (fun h13 => gd (kd h13 a0 = 10) (bl (wR h13 a0 4 (some (((z + 1) + 1) + 1))) (fun h16 => bl (wI h16 a0 7 (-1)) (fun h18 => bl (wI h18 a0 8 (-1)) (fun h20 => bl (wI h20 a0 9 (-1)) (fun h22 => bl (wNew h22 ((((z + 1) + 1) + 1) + 1) 13 613) (fun h23 => gd (kd h23 a0 = 10) (bl (wR h23 a0 10 (some ((((z + 1) + 1) + 1) + 1))) (fun h26 => bl (wNew h26 (((((z + 1) + 1) + 1) + 1) + 1) 13 10) (fun h27 => gd (kd h27 a0 = 10) (bl (wR h27 a0 11 (some (((((z + 1) + 1) + 1) + 1) + 1))) (fun h30 => bl (wNew h30 ((((((z + 1) + 1) + 1) + 1) + 1) + 1) 13 10) (fun h31 => gd (kd h31 a0 = 10) (bl (wR h31 a0 13 (some ((((((z + 1) + 1) + 1) + 1) + 1) + 1))) (fun h34 => bl (wNew h34 (((((((z + 1) + 1) + 1) + 1) + 1) + 1) + 1) 13 10) (fun h35 => gd (kd h35 a0 = 10) (bl (wR h35 a0 14 (some (((((((z + 1) + 1) + 1) + 1) + 1) + 1) + 1))) (fun h38 => bl (wNew h38 ((((((((z + 1) + 1) + 1) + 1) + 1) + 1) + 1) + 1) 13 10240) (fun h39 => gd (kd h39 a0 = 10) (bl (wR h39 a0 15 (some ((((((((z + 1) + 1) + 1) + 1) + 1) + 1) + 1) + 1))) (fun h42 => Option.bind (rv h42 a0 0) (fun b44 => gd (kd h42 b44 = 13) (gd (¬ ((19 : Int32) < 0 ∨ ln h42 b44 ≤ Int32.toNatClampNeg 19)) (bl (wI h42 b44 (Int32.toNatClampNeg 19) 4) (fun h47 => Option.bind (rv h47 a0 0) (fun b49 => gd (kd h47 b49 = 13) (gd (¬ ((20 : Int32) < 0 ∨ ln h47 b49 ≤ Int32.toNatClampNeg 20)) (bl (wI h47 b49 (Int32.toNatClampNeg 20) 1) (fun h52 => some ((((((((((z + 1) + 1) + 1) + 1) + 1) + 1) + 1) + 1) + 1), h52)))))))))))))))))))))))))))))))))))))))
theorem wfX9_init {g : JG} (hst : (jl g).stackTraces = false)   {a0 : Nat} {z : Nat} {h : AH} {o : Nat × AH} (hf : fX9_init  a0 z h = some o) : J g MX9_init (jN g (none, o.1, o.2) rmX9_init.cells rmX9_init.slots) 0 [some (.ref a0)] [] z h 0 0 := by
  unfold fX9_init at hf
  refine J_aload_n dX9_init_0 rfl rfl ?_
  refine J_objInit dX9_init_1 tk_918 tk_25 tk_26 (by decide) (Nat.le_of_ble_eq_true rfl) ?_
  refine J_aload_n dX9_init_4 rfl rfl ?_
  refine J_sipush (v := 613) dX9_init_5 (by decide) ?_
  refine J_newarr (ty := .int) (N := 613) (t := 2) (kk0 := 13) dX9_init_8 rfl tk_58 (by decide) (by decide) (by decide) (fun _ => rfl) (fun _ _ hh => hh) (fun ca => ⟨_, rfl, rfl⟩) (by decide) (by decide) ?_
  obtain ⟨h1, eh1, hf⟩ := bls hf
  refine J_h eh1 ?_
  have k2 : kd h1 z = 13 := by rw [eh1]; exact wNew_kd _ _ _ _
  obtain ⟨k3, hf⟩ := gds hf
  refine P_9_0 dX9_init_10 tk_919 k3 rfl rfl ?_
  obtain ⟨h4, eh4, hf⟩ := bls hf
  refine J_h eh4 ?_
  refine J_aload_n dX9_init_13 rfl rfl ?_
  refine J_sipush (v := 3065) dX9_init_14 (by decide) ?_
  refine J_newarr (ty := .int) (N := 3065) (t := 2) (kk0 := 13) dX9_init_17 rfl tk_58 (by decide) (by decide) (by decide) (fun _ => rfl) (fun _ _ hh => hh) (fun ca => ⟨_, rfl, rfl⟩) (by decide) (by decide) ?_
  obtain ⟨h5, eh5, hf⟩ := bls hf
  refine J_h eh5 ?_
  have k6 : kd h5 (z + 1) = 13 := by rw [eh5]; exact wNew_kd _ _ _ _
  obtain ⟨k7, hf⟩ := gds hf
  refine P_9_1 dX9_init_19 tk_920 k7 rfl rfl ?_
  obtain ⟨h8, eh8, hf⟩ := bls hf
  refine J_h eh8 ?_
  refine J_aload_n dX9_init_22 rfl rfl ?_
  refine J_bipush (v := 8) dX9_init_23 (by decide) ?_
  refine J_newarr (ty := .int) (N := 8) (t := 2) (kk0 := 13) dX9_init_25 rfl tk_58 (by decide) (by decide) (by decide) (fun _ => rfl) (fun _ _ hh => hh) (fun ca => ⟨_, rfl, rfl⟩) (by decide) (by decide) ?_
  obtain ⟨h9, eh9, hf⟩ := bls hf
  refine J_h eh9 ?_
  have k10 : kd h9 ((z + 1) + 1) = 13 := by rw [eh9]; exact wNew_kd _ _ _ _
  obtain ⟨k11, hf⟩ := gds hf
  refine P_9_3 dX9_init_27 tk_922 k11 rfl rfl ?_
  obtain ⟨h12, eh12, hf⟩ := bls hf
  refine J_h eh12 ?_
  refine J_aload_n dX9_init_30 rfl rfl ?_
  refine J_bipush (v := 120) dX9_init_31 (by decide) ?_
  refine J_newarr (ty := .byte) (N := 120) (t := 0) (kk0 := 11) dX9_init_33 rfl tk_504 (by decide) (by decide) (by decide) (fun _ => rfl) (fun _ _ hh => hh) (fun ca => ⟨_, rfl, rfl⟩) (by decide) (by decide) ?_
  obtain ⟨h13, eh13, hf⟩ := bls hf
  refine J_h eh13 ?_
  have k14 : kd h13 (((z + 1) + 1) + 1) = 11 := by rw [eh13]; exact wNew_kd _ _ _ _
  obtain ⟨k15, hf⟩ := gds hf
  refine P_9_4 dX9_init_35 tk_923 k15 rfl rfl ?_
  obtain ⟨h16, eh16, hf⟩ := bls hf
  refine J_h eh16 ?_
  refine J_aload_n dX9_init_38 rfl rfl ?_
  refine J_iconst (v := (-1)) dX9_init_39 (by decide) ?_
  have k17 : kd h16 a0 = 10 := by rw [eh16]; exact k15
  refine P_9_7 dX9_init_40 tk_926 k17 ?_
  obtain ⟨h18, eh18, hf⟩ := bls hf
  refine J_h eh18 ?_
  refine J_aload_n dX9_init_43 rfl rfl ?_
  refine J_iconst (v := (-1)) dX9_init_44 (by decide) ?_
  have k19 : kd h18 a0 = 10 := by rw [eh18]; exact k17
  refine P_9_8 dX9_init_45 tk_927 k19 ?_
  obtain ⟨h20, eh20, hf⟩ := bls hf
  refine J_h eh20 ?_
  refine J_aload_n dX9_init_48 rfl rfl ?_
  refine J_iconst (v := (-1)) dX9_init_49 (by decide) ?_
  have k21 : kd h20 a0 = 10 := by rw [eh20]; exact k19
  refine P_9_9 dX9_init_50 tk_928 k21 ?_
  obtain ⟨h22, eh22, hf⟩ := bls hf
  refine J_h eh22 ?_
  refine J_aload_n dX9_init_53 rfl rfl ?_
  refine J_sipush (v := 613) dX9_init_54 (by decide) ?_
  refine J_newarr (ty := .int) (N := 613) (t := 2) (kk0 := 13) dX9_init_57 rfl tk_58 (by decide) (by decide) (by decide) (fun _ => rfl) (fun _ _ hh => hh) (fun ca => ⟨_, rfl, rfl⟩) (by decide) (by decide) ?_
  obtain ⟨h23, eh23, hf⟩ := bls hf
  refine J_h eh23 ?_
  have k24 : kd h23 ((((z + 1) + 1) + 1) + 1) = 13 := by rw [eh23]; exact wNew_kd _ _ _ _
  obtain ⟨k25, hf⟩ := gds hf
  refine P_9_10 dX9_init_59 tk_929 k25 rfl rfl ?_
  obtain ⟨h26, eh26, hf⟩ := bls hf
  refine J_h eh26 ?_
  refine J_aload_n dX9_init_62 rfl rfl ?_
  refine J_bipush (v := 10) dX9_init_63 (by decide) ?_
  refine J_newarr (ty := .int) (N := 10) (t := 2) (kk0 := 13) dX9_init_65 rfl tk_58 (by decide) (by decide) (by decide) (fun _ => rfl) (fun _ _ hh => hh) (fun ca => ⟨_, rfl, rfl⟩) (by decide) (by decide) ?_
  obtain ⟨h27, eh27, hf⟩ := bls hf
  refine J_h eh27 ?_
  have k28 : kd h27 (((((z + 1) + 1) + 1) + 1) + 1) = 13 := by rw [eh27]; exact wNew_kd _ _ _ _
  obtain ⟨k29, hf⟩ := gds hf
  refine P_9_11 dX9_init_67 tk_930 k29 rfl rfl ?_
  obtain ⟨h30, eh30, hf⟩ := bls hf
  refine J_h eh30 ?_
  refine J_aload_n dX9_init_70 rfl rfl ?_
  refine J_bipush (v := 10) dX9_init_71 (by decide) ?_
  refine J_newarr (ty := .int) (N := 10) (t := 2) (kk0 := 13) dX9_init_73 rfl tk_58 (by decide) (by decide) (by decide) (fun _ => rfl) (fun _ _ hh => hh) (fun ca => ⟨_, rfl, rfl⟩) (by decide) (by decide) ?_
  obtain ⟨h31, eh31, hf⟩ := bls hf
  refine J_h eh31 ?_
  have k32 : kd h31 ((((((z + 1) + 1) + 1) + 1) + 1) + 1) = 13 := by rw [eh31]; exact wNew_kd _ _ _ _
  obtain ⟨k33, hf⟩ := gds hf
  refine P_9_13 dX9_init_75 tk_932 k33 rfl rfl ?_
  obtain ⟨h34, eh34, hf⟩ := bls hf
  refine J_h eh34 ?_
  refine J_aload_n dX9_init_78 rfl rfl ?_
  refine J_bipush (v := 10) dX9_init_79 (by decide) ?_
  refine J_newarr (ty := .int) (N := 10) (t := 2) (kk0 := 13) dX9_init_81 rfl tk_58 (by decide) (by decide) (by decide) (fun _ => rfl) (fun _ _ hh => hh) (fun ca => ⟨_, rfl, rfl⟩) (by decide) (by decide) ?_
  obtain ⟨h35, eh35, hf⟩ := bls hf
  refine J_h eh35 ?_
  have k36 : kd h35 (((((((z + 1) + 1) + 1) + 1) + 1) + 1) + 1) = 13 := by rw [eh35]; exact wNew_kd _ _ _ _
  obtain ⟨k37, hf⟩ := gds hf
  refine P_9_14 dX9_init_83 tk_933 k37 rfl rfl ?_
  obtain ⟨h38, eh38, hf⟩ := bls hf
  refine J_h eh38 ?_
  refine J_aload_n dX9_init_86 rfl rfl ?_
  refine J_sipush (v := 10240) dX9_init_87 (by decide) ?_
  refine J_newarr (ty := .int) (N := 10240) (t := 2) (kk0 := 13) dX9_init_90 rfl tk_58 (by decide) (by decide) (by decide) (fun _ => rfl) (fun _ _ hh => hh) (fun ca => ⟨_, rfl, rfl⟩) (by decide) (by decide) ?_
  obtain ⟨h39, eh39, hf⟩ := bls hf
  refine J_h eh39 ?_
  have k40 : kd h39 ((((((((z + 1) + 1) + 1) + 1) + 1) + 1) + 1) + 1) = 13 := by rw [eh39]; exact wNew_kd _ _ _ _
  obtain ⟨k41, hf⟩ := gds hf
  refine P_9_15 dX9_init_92 tk_934 k41 rfl rfl ?_
  obtain ⟨h42, eh42, hf⟩ := bls hf
  refine J_h eh42 ?_
  refine J_aload_n dX9_init_95 rfl rfl ?_
  have k43 : kd h42 a0 = 10 := by rw [eh42]; exact k41
  obtain ⟨b44, rb44, hf⟩ := rfs hf
  refine G_9_0 dX9_init_96 tk_919 k43 rb44 ?_
  refine J_bipush (v := 19) dX9_init_99 (by decide) ?_
  refine J_iconst (v := 4) dX9_init_101 (by decide) ?_
  obtain ⟨k45, hf⟩ := gds hf
  obtain ⟨n46, hf⟩ := gds hf
  refine J_iastore dX9_init_102 k45 n46 ?_
  obtain ⟨h47, eh47, hf⟩ := bls hf
  refine J_h eh47 ?_
  refine J_aload_n dX9_init_103 rfl rfl ?_
  have k48 : kd h47 a0 = 10 := by rw [eh47]; exact k43
  obtain ⟨b49, rb49, hf⟩ := rfs hf
  refine G_9_0 dX9_init_104 tk_919 k48 rb49 ?_
  refine J_bipush (v := 20) dX9_init_107 (by decide) ?_
  refine J_iconst (v := 1) dX9_init_109 (by decide) ?_
  obtain ⟨k50, hf⟩ := gds hf
  obtain ⟨n51, hf⟩ := gds hf
  refine J_iastore dX9_init_110 k50 n51 ?_
  obtain ⟨h52, eh52, hf⟩ := bls hf
  refine J_h eh52 ?_
  cases hf
  exact J_vretN dX9_init_111 rfl (by decide) (by decide)
theorem mX9_init {g : JG} (hst : (jl g).stackTraces = false) {a0 : Nat} {z : Nat} {h : AH} {o : Nat × AH} (hf : fX9_init a0 z h = some o) : jMet g yX9_init (wj yX9_init cX9_init 1 none) rmX9_init [.ref a0] z h (none, o.1, o.2) :=
  jMet_mk (by decide) (Nat.le_of_ble_eq_true rfl) [some (.ref a0)] rfl (wfX9_init hst hf)
def fX9_in  (x0 : Int32) (x1 : Int32) (x2 : Int32) (z : Nat) (h : AH) : Option (Int32 × Nat × AH) :=
  (if x0 < x1 then (some (0, z, h)) else ((if x2 < x0 then (some (0, z, h)) else (some (1, z, h)))))
theorem wfX9_in {g : JG} (hst : (jl g).stackTraces = false)   {x0 : Int32} {x1 : Int32} {x2 : Int32} {z : Nat} {h : AH} {o : Int32 × Nat × AH} (hf : fX9_in  x0 x1 x2 z h = some o) : J g MX9_in (jN g (some (.int o.1), o.2.1, o.2.2) rmX9_in.cells rmX9_in.slots) 0 [some (.int x0), some (.int x1), some (.int x2)] [] z h 0 0 := by
  unfold fX9_in at hf
  refine J_iload_n dX9_in_0 rfl rfl ?_
  refine J_iload_n dX9_in_1 rfl rfl ?_
  rcases br hf with ⟨c1, hf⟩ | ⟨c1, hf⟩
  · refine J_icmp_lt (tgt := 14) dX9_in_2 (by decide) (fun _ => ?_) (fun w => absurd c1 w)
    refine J_iconst (v := 0) dX9_in_14 (by decide) ?_
    cases hf
    exact J_zretN dX9_in_15 rfl (Or.inl rfl) (by decide) (by decide)
  · refine J_icmp_lt (tgt := 14) dX9_in_2 (by decide) (fun w => absurd w c1) (fun _ => ?_)
    refine J_iload_n dX9_in_5 rfl rfl ?_
    refine J_iload_n dX9_in_6 rfl rfl ?_
    rcases br hf with ⟨c2, hf⟩ | ⟨c2, hf⟩
    · refine J_icmp_gt (tgt := 14) dX9_in_7 (by decide) (fun _ => ?_) (fun w => absurd c2 w)
      refine J_iconst (v := 0) dX9_in_14 (by decide) ?_
      cases hf
      exact J_zretN dX9_in_15 rfl (Or.inl rfl) (by decide) (by decide)
    · refine J_icmp_gt (tgt := 14) dX9_in_7 (by decide) (fun w => absurd w c2) (fun _ => ?_)
      refine J_iconst (v := 1) dX9_in_10 (by decide) ?_
      refine J_goto (tgt := 15) dX9_in_11 (by decide) ?_
      cases hf
      exact J_zretN dX9_in_15 rfl (Or.inr rfl) (by decide) (by decide)
theorem mX9_in {g : JG} (hst : (jl g).stackTraces = false) {x0 : Int32} {x1 : Int32} {x2 : Int32} {z : Nat} {h : AH} {o : Int32 × Nat × AH} (hf : fX9_in x0 x1 x2 z h = some o) : jMet g yX9_in (wj yX9_in cX9_in 3 (some .boolean)) rmX9_in [.int x0, .int x1, .int x2] z h (some (.int o.1), o.2.1, o.2.2) :=
  jMet_mk (by decide) (Nat.le_of_ble_eq_true rfl) [some (.int x0), some (.int x1), some (.int x2)] rfl (wfX9_in hst hf)
def fX9_isResource  (a0 : Nat) (x1 : Int32) (z : Nat) (h : AH) : Option (Int32 × Nat × AH) :=
  gd (kd h a0 = 10) (Option.bind (rv h a0 0) (fun b2 => gd (kd h b2 = 13) (gd (¬ ((0 : Int32) < 0 ∨ ln h b2 ≤ Int32.toNatClampNeg 0)) (bd3 (fX9_in x1 0 ((iv h b2 (Int32.toNatClampNeg 0)) - 1) z h) (fun vo5 zo5 ho5h => gd (vo5 = 0 ∨ vo5 = 1) (some (vo5, zo5, ho5h)))))))
theorem wfX9_isResource {g : JG} (hst : (jl g).stackTraces = false)   {a0 : Nat} {x1 : Int32} {z : Nat} {h : AH} {o : Int32 × Nat × AH} (hf : fX9_isResource  a0 x1 z h = some o) : J g MX9_isResource (jN g (some (.int o.1), o.2.1, o.2.2) rmX9_isResource.cells rmX9_isResource.slots) 0 [some (.ref a0), some (.int x1)] [] z h 0 0 := by
  unfold fX9_isResource at hf
  refine J_iload_n dX9_isResource_0 rfl rfl ?_
  refine J_iconst (v := 0) dX9_isResource_1 (by decide) ?_
  refine J_aload_n dX9_isResource_2 rfl rfl ?_
  obtain ⟨k1, hf⟩ := gds hf
  obtain ⟨b2, rb2, hf⟩ := rfs hf
  refine G_9_0 dX9_isResource_3 tk_919 k1 rb2 ?_
  refine J_iconst (v := 0) dX9_isResource_6 (by decide) ?_
  obtain ⟨k3, hf⟩ := gds hf
  obtain ⟨n4, hf⟩ := gds hf
  refine J_iaload dX9_isResource_7 k3 n4 ?_
  refine J_iconst (v := 1) dX9_isResource_8 (by decide) ?_
  refine J_isub dX9_isResource_9 ?_
  obtain ⟨vo5, zo5, ho5h, ho5, hf⟩ := rfs3 hf
  refine CS3i (host := "") dX9_isResource_10 (mX9_in hst ho5) tk_996 iX9_in ⟨by decide, by decide⟩ ⟨by decide, by decide⟩ (Nat.le_of_ble_eq_true rfl) ?_
  obtain ⟨z9, hf⟩ := gds hf
  cases hf
  exact J_zretN dX9_isResource_13 rfl z9 (by decide) (by decide)
theorem mX9_isResource {g : JG} (hst : (jl g).stackTraces = false) {a0 : Nat} {x1 : Int32} {z : Nat} {h : AH} {o : Int32 × Nat × AH} (hf : fX9_isResource a0 x1 z h = some o) : jMet g yX9_isResource (wj yX9_isResource cX9_isResource 2 (some .boolean)) rmX9_isResource [.ref a0, .int x1] z h (some (.int o.1), o.2.1, o.2.2) :=
  jMet_mk (by decide) (Nat.le_of_ble_eq_true rfl) [some (.ref a0), some (.int x1)] rfl (wfX9_isResource hst hf)
def lX9_begins_2B  (q2 : Nat → Int32 → Nat → AH → Option (Nat × AH)) (a0 : Nat) (x1 : Int32) (z : Nat) (h : AH) : Option (Nat × AH) :=
  (if 613 ≤ x1 then (some (z, h)) else (gd (kd h a0 = 10) (Option.bind (rv h a0 10) (fun b3 => Option.bind (rv h a0 0) (fun b4 => gd (kd h b4 = 13) (gd (¬ ((x1 : Int32) < 0 ∨ ln h b4 ≤ Int32.toNatClampNeg x1)) (gd (kd h b3 = 13) (gd (¬ ((x1 : Int32) < 0 ∨ ln h b3 ≤ Int32.toNatClampNeg x1)) (bl (wI h b3 (Int32.toNatClampNeg x1) (iv h b4 (Int32.toNatClampNeg x1))) (fun h9 => q2 a0 (x1 + 1) z h9))))))))))
def lX9_begins_2  : Nat → Nat → Int32 → Nat → AH → Option (Nat × AH)
  | 0 => fun _ _ _ _ => none
  | fuel + 1 => lX9_begins_2B  (lX9_begins_2  fuel)
def fX9_begins  (a0 : Nat) (z : Nat) (h : AH) : Option (Nat × AH) :=
  lX9_begins_2  fu a0 0 z h
theorem wlX9_begins_2 {g : JG} (hst : (jl g).stackTraces = false)   : ∀ (fuel : Nat) (a0 : Nat) (x1 : Int32) (z : Nat) (h : AH) (o : Nat × AH), lX9_begins_2  fuel a0 x1 z h = some o → J g MX9_begins (jN g (none, o.1, o.2) rmX9_begins.cells rmX9_begins.slots) 2 [some (.ref a0), some (.int x1)] [] z h 0 0 := by
  intro fuel
  induction fuel with
  | zero => intro a0 x1 z h o hf; cases hf
  | succ fuel ih =>
    intro a0 x1 z h o hf
    have hq2 := ih
    have hf : lX9_begins_2B  (lX9_begins_2  fuel) a0 x1 z h = some o := hf
    generalize lX9_begins_2  fuel = q2 at hf hq2
    unfold lX9_begins_2B at hf
    refine J_iload_n dX9_begins_2 rfl rfl ?_
    refine J_sipush (v := 613) dX9_begins_3 (by decide) ?_
    rcases br hf with ⟨c1, hf⟩ | ⟨c1, hf⟩
    · refine J_icmp_ge (tgt := 27) dX9_begins_6 (by decide) (fun _ => ?_) (fun w => absurd c1 w)
      cases hf
      exact J_vretN dX9_begins_27 rfl (by decide) (by decide)
    · refine J_icmp_ge (tgt := 27) dX9_begins_6 (by decide) (fun w => absurd w c1) (fun _ => ?_)
      refine J_aload_n dX9_begins_9 rfl rfl ?_
      obtain ⟨k2, hf⟩ := gds hf
      obtain ⟨b3, rb3, hf⟩ := rfs hf
      refine G_9_10 dX9_begins_10 tk_929 k2 rb3 ?_
      refine J_iload_n dX9_begins_13 rfl rfl ?_
      refine J_aload_n dX9_begins_14 rfl rfl ?_
      obtain ⟨b4, rb4, hf⟩ := rfs hf
      refine G_9_0 dX9_begins_15 tk_919 k2 rb4 ?_
      refine J_iload_n dX9_begins_18 rfl rfl ?_
      obtain ⟨k5, hf⟩ := gds hf
      obtain ⟨n6, hf⟩ := gds hf
      refine J_iaload dX9_begins_19 k5 n6 ?_
      obtain ⟨k7, hf⟩ := gds hf
      obtain ⟨n8, hf⟩ := gds hf
      refine J_iastore dX9_begins_20 k7 n8 ?_
      obtain ⟨h9, eh9, hf⟩ := bls hf
      refine J_h eh9 ?_
      refine S_iinc_1 (v := x1 + 1) dX9_begins_21 (congrArg (fun w => x1 + w) (by decide)) rfl (by decide) ?_
      refine J_goto (tgt := 2) dX9_begins_24 (by decide) ?_
      refine J.sub (jsub_s (jsub_s (jsub_nil _))) ?_
      exact hq2 _ _ _ _ _ hf
theorem wfX9_begins {g : JG} (hst : (jl g).stackTraces = false)   {a0 : Nat} {z : Nat} {h : AH} {o : Nat × AH} (hf : fX9_begins  a0 z h = some o) : J g MX9_begins (jN g (none, o.1, o.2) rmX9_begins.cells rmX9_begins.slots) 0 [some (.ref a0), none] [] z h 0 0 := by
  unfold fX9_begins at hf
  refine J_iconst (v := 0) dX9_begins_0 (by decide) ?_
  refine S_istore_n_1 dX9_begins_1 rfl (by decide) ?_
  refine J.sub (jsub_s (jsub_s (jsub_nil _))) ?_
  exact wlX9_begins_2 hst   _ _ _ _ _ _ hf
theorem mX9_begins {g : JG} (hst : (jl g).stackTraces = false) {a0 : Nat} {z : Nat} {h : AH} {o : Nat × AH} (hf : fX9_begins a0 z h = some o) : jMet g yX9_begins (wj yX9_begins cX9_begins 2 none) rmX9_begins [.ref a0] z h (none, o.1, o.2) :=
  jMet_mk (by decide) (Nat.le_of_ble_eq_true rfl) [some (.ref a0), none] rfl (wfX9_begins hst hf)
def lX9_records_51B  (q51 : Nat → Int32 → Nat → AH → Option (Nat × AH)) (a0 : Nat) (x1 : Int32) (z : Nat) (h : AH) : Option (Nat × AH) :=
  (if 613 ≤ x1 then (gd (kd h a0 = 10) (bl (wI h a0 2 ((iv h a0 2) + 1)) (fun h3 => some (z, h3)))) else (gd (kd h a0 = 10) (Option.bind (rv h a0 1) (fun b5 => Option.bind (rv h a0 10) (fun b6 => gd (kd h b6 = 13) (gd (¬ ((x1 : Int32) < 0 ∨ ln h b6 ≤ Int32.toNatClampNeg x1)) (gd (kd h b5 = 13) (gd (¬ ((((613 * (iv h a0 2)) + x1) : Int32) < 0 ∨ ln h b5 ≤ Int32.toNatClampNeg ((613 * (iv h a0 2)) + x1))) (bl (wI h b5 (Int32.toNatClampNeg ((613 * (iv h a0 2)) + x1)) (iv h b6 (Int32.toNatClampNeg x1))) (fun h11 => q51 a0 (x1 + 1) z h11))))))))))
def lX9_records_51  : Nat → Nat → Int32 → Nat → AH → Option (Nat × AH)
  | 0 => fun _ _ _ _ => none
  | fuel + 1 => lX9_records_51B  (lX9_records_51  fuel)
def bX9_records_49  (a0 : Nat) (z : Nat) (h : AH) : Option (Nat × AH) :=
  lX9_records_51  fu a0 0 z h
def lX9_records_10B  (q10 : Nat → Int32 → Nat → AH → Option (Nat × AH)) (a0 : Nat) (x1 : Int32) (z : Nat) (h : AH) : Option (Nat × AH) :=
  (if 2452 ≤ x1 then (gd (kd h a0 = 10) (bl (wI h a0 2 ((iv h a0 2) - 1)) (fun h3 => bX9_records_49  a0 z h3))) else (gd (kd h a0 = 10) (Option.bind (rv h a0 1) (fun b5 => Option.bind (rv h a0 1) (fun b6 => gd (kd h b6 = 13) (gd (¬ (((x1 + 613) : Int32) < 0 ∨ ln h b6 ≤ Int32.toNatClampNeg (x1 + 613))) (gd (kd h b5 = 13) (gd (¬ ((x1 : Int32) < 0 ∨ ln h b5 ≤ Int32.toNatClampNeg x1)) (bl (wI h b5 (Int32.toNatClampNeg x1) (iv h b6 (Int32.toNatClampNeg (x1 + 613)))) (fun h11 => q10 a0 (x1 + 1) z h11))))))))))
def lX9_records_10  : Nat → Nat → Int32 → Nat → AH → Option (Nat × AH)
  | 0 => fun _ _ _ _ => none
  | fuel + 1 => lX9_records_10B  (lX9_records_10  fuel)
def fX9_records  (a0 : Nat) (z : Nat) (h : AH) : Option (Nat × AH) :=
  gd (kd h a0 = 10) ((if (iv h a0 2) = 5 then (lX9_records_10  fu a0 0 z h) else (bX9_records_49  a0 z h)))
theorem wlX9_records_51 {g : JG} (hst : (jl g).stackTraces = false)   : ∀ (fuel : Nat) (a0 : Nat) (x1 : Int32) (z : Nat) (h : AH) (o : Nat × AH), lX9_records_51  fuel a0 x1 z h = some o → J g MX9_records (jN g (none, o.1, o.2) rmX9_records.cells rmX9_records.slots) 51 [some (.ref a0), some (.int x1)] [] z h 0 0 := by
  intro fuel
  induction fuel with
  | zero => intro a0 x1 z h o hf; cases hf
  | succ fuel ih =>
    intro a0 x1 z h o hf
    have hq51 := ih
    have hf : lX9_records_51B  (lX9_records_51  fuel) a0 x1 z h = some o := hf
    generalize lX9_records_51  fuel = q51 at hf hq51
    unfold lX9_records_51B at hf
    refine J_iload_n dX9_records_51 rfl rfl ?_
    refine J_sipush (v := 613) dX9_records_52 (by decide) ?_
    rcases br hf with ⟨c1, hf⟩ | ⟨c1, hf⟩
    · refine J_icmp_ge (tgt := 85) dX9_records_55 (by decide) (fun _ => ?_) (fun w => absurd c1 w)
      refine J_aload_n dX9_records_85 rfl rfl ?_
      refine J_dup dX9_records_86 rfl ?_
      obtain ⟨k2, hf⟩ := gds hf
      refine G_9_2 dX9_records_87 tk_921 k2 ?_
      refine J_iconst (v := 1) dX9_records_90 (by decide) ?_
      refine J_iadd dX9_records_91 ?_
      refine P_9_2 dX9_records_92 tk_921 k2 ?_
      obtain ⟨h3, eh3, hf⟩ := bls hf
      refine J_h eh3 ?_
      cases hf
      exact J_vretN dX9_records_95 rfl (by decide) (by decide)
    · refine J_icmp_ge (tgt := 85) dX9_records_55 (by decide) (fun w => absurd w c1) (fun _ => ?_)
      refine J_aload_n dX9_records_58 rfl rfl ?_
      obtain ⟨k4, hf⟩ := gds hf
      obtain ⟨b5, rb5, hf⟩ := rfs hf
      refine G_9_1 dX9_records_59 tk_920 k4 rb5 ?_
      refine J_sipush (v := 613) dX9_records_62 (by decide) ?_
      refine J_aload_n dX9_records_65 rfl rfl ?_
      refine G_9_2 dX9_records_66 tk_921 k4 ?_
      refine J_imul dX9_records_69 ?_
      refine J_iload_n dX9_records_70 rfl rfl ?_
      refine J_iadd dX9_records_71 ?_
      refine J_aload_n dX9_records_72 rfl rfl ?_
      obtain ⟨b6, rb6, hf⟩ := rfs hf
      refine G_9_10 dX9_records_73 tk_929 k4 rb6 ?_
      refine J_iload_n dX9_records_76 rfl rfl ?_
      obtain ⟨k7, hf⟩ := gds hf
      obtain ⟨n8, hf⟩ := gds hf
      refine J_iaload dX9_records_77 k7 n8 ?_
      obtain ⟨k9, hf⟩ := gds hf
      obtain ⟨n10, hf⟩ := gds hf
      refine J_iastore dX9_records_78 k9 n10 ?_
      obtain ⟨h11, eh11, hf⟩ := bls hf
      refine J_h eh11 ?_
      refine S_iinc_1 (v := x1 + 1) dX9_records_79 (congrArg (fun w => x1 + w) (by decide)) rfl (by decide) ?_
      refine J_goto (tgt := 51) dX9_records_82 (by decide) ?_
      refine J.sub (jsub_s (jsub_s (jsub_nil _))) ?_
      exact hq51 _ _ _ _ _ hf
theorem wbX9_records_49 {g : JG} (hst : (jl g).stackTraces = false)   {a0 : Nat} {z : Nat} {h : AH} {o : Nat × AH} (hf : bX9_records_49  a0 z h = some o) : J g MX9_records (jN g (none, o.1, o.2) rmX9_records.cells rmX9_records.slots) 49 [some (.ref a0), none] [] z h 0 0 := by
  unfold bX9_records_49 at hf
  refine J_iconst (v := 0) dX9_records_49 (by decide) ?_
  refine S_istore_n_1 dX9_records_50 rfl (by decide) ?_
  refine J.sub (jsub_s (jsub_s (jsub_nil _))) ?_
  exact wlX9_records_51 hst   _ _ _ _ _ _ hf
theorem wlX9_records_10 {g : JG} (hst : (jl g).stackTraces = false)   : ∀ (fuel : Nat) (a0 : Nat) (x1 : Int32) (z : Nat) (h : AH) (o : Nat × AH), lX9_records_10  fuel a0 x1 z h = some o → J g MX9_records (jN g (none, o.1, o.2) rmX9_records.cells rmX9_records.slots) 10 [some (.ref a0), some (.int x1)] [] z h 0 0 := by
  intro fuel
  induction fuel with
  | zero => intro a0 x1 z h o hf; cases hf
  | succ fuel ih =>
    intro a0 x1 z h o hf
    have hq10 := ih
    have hf : lX9_records_10B  (lX9_records_10  fuel) a0 x1 z h = some o := hf
    generalize lX9_records_10  fuel = q10 at hf hq10
    unfold lX9_records_10B at hf
    refine J_iload_n dX9_records_10 rfl rfl ?_
    refine J_sipush (v := 2452) dX9_records_11 (by decide) ?_
    rcases br hf with ⟨c1, hf⟩ | ⟨c1, hf⟩
    · refine J_icmp_ge (tgt := 39) dX9_records_14 (by decide) (fun _ => ?_) (fun w => absurd c1 w)
      refine J_aload_n dX9_records_39 rfl rfl ?_
      refine J_dup dX9_records_40 rfl ?_
      obtain ⟨k2, hf⟩ := gds hf
      refine G_9_2 dX9_records_41 tk_921 k2 ?_
      refine J_iconst (v := 1) dX9_records_44 (by decide) ?_
      refine J_isub dX9_records_45 ?_
      refine P_9_2 dX9_records_46 tk_921 k2 ?_
      obtain ⟨h3, eh3, hf⟩ := bls hf
      refine J_h eh3 ?_
      refine J.sub (jsub_s (jsub_n (jsub_nil _))) ?_
      exact wbX9_records_49 hst   hf
    · refine J_icmp_ge (tgt := 39) dX9_records_14 (by decide) (fun w => absurd w c1) (fun _ => ?_)
      refine J_aload_n dX9_records_17 rfl rfl ?_
      obtain ⟨k4, hf⟩ := gds hf
      obtain ⟨b5, rb5, hf⟩ := rfs hf
      refine G_9_1 dX9_records_18 tk_920 k4 rb5 ?_
      refine J_iload_n dX9_records_21 rfl rfl ?_
      refine J_aload_n dX9_records_22 rfl rfl ?_
      obtain ⟨b6, rb6, hf⟩ := rfs hf
      refine G_9_1 dX9_records_23 tk_920 k4 rb6 ?_
      refine J_iload_n dX9_records_26 rfl rfl ?_
      refine J_sipush (v := 613) dX9_records_27 (by decide) ?_
      refine J_iadd dX9_records_30 ?_
      obtain ⟨k7, hf⟩ := gds hf
      obtain ⟨n8, hf⟩ := gds hf
      refine J_iaload dX9_records_31 k7 n8 ?_
      obtain ⟨k9, hf⟩ := gds hf
      obtain ⟨n10, hf⟩ := gds hf
      refine J_iastore dX9_records_32 k9 n10 ?_
      obtain ⟨h11, eh11, hf⟩ := bls hf
      refine J_h eh11 ?_
      refine S_iinc_1 (v := x1 + 1) dX9_records_33 (congrArg (fun w => x1 + w) (by decide)) rfl (by decide) ?_
      refine J_goto (tgt := 10) dX9_records_36 (by decide) ?_
      refine J.sub (jsub_s (jsub_s (jsub_nil _))) ?_
      exact hq10 _ _ _ _ _ hf
theorem wfX9_records {g : JG} (hst : (jl g).stackTraces = false)   {a0 : Nat} {z : Nat} {h : AH} {o : Nat × AH} (hf : fX9_records  a0 z h = some o) : J g MX9_records (jN g (none, o.1, o.2) rmX9_records.cells rmX9_records.slots) 0 [some (.ref a0), none] [] z h 0 0 := by
  unfold fX9_records at hf
  refine J_aload_n dX9_records_0 rfl rfl ?_
  obtain ⟨k1, hf⟩ := gds hf
  refine G_9_2 dX9_records_1 tk_921 k1 ?_
  refine J_iconst (v := 5) dX9_records_4 (by decide) ?_
  rcases br hf with ⟨c2, hf⟩ | ⟨c2, hf⟩
  · refine J_icmp_ne (tgt := 49) dX9_records_5 (by decide) (fun w => absurd c2 w) (fun _ => ?_)
    refine J_iconst (v := 0) dX9_records_8 (by decide) ?_
    refine S_istore_n_1 dX9_records_9 rfl (by decide) ?_
    refine J.sub (jsub_s (jsub_s (jsub_nil _))) ?_
    exact wlX9_records_10 hst   _ _ _ _ _ _ hf
  · refine J_icmp_ne (tgt := 49) dX9_records_5 (by decide) (fun _ => ?_) (fun w => absurd w c2)
    refine J.sub (jsub_s (jsub_n (jsub_nil _))) ?_
    exact wbX9_records_49 hst   hf
theorem mX9_records {g : JG} (hst : (jl g).stackTraces = false) {a0 : Nat} {z : Nat} {h : AH} {o : Nat × AH} (hf : fX9_records a0 z h = some o) : jMet g yX9_records (wj yX9_records cX9_records 2 none) rmX9_records [.ref a0] z h (none, o.1, o.2) :=
  jMet_mk (by decide) (Nat.le_of_ble_eq_true rfl) [some (.ref a0), none] rfl (wfX9_records hst hf)
def bX9_addResource_34  (a0 : Nat) (x1 : Int32) (u0 : Nat) (s1 : Int32) (z : Nat) (h : AH) : Option (Int32 × Nat × AH) :=
  gd (kd h u0 = 10) (bl (wI h u0 6 s1) (fun h2 => gd (kd h2 a0 = 10) ((if (iv h2 a0 6) ≤ 0 then (bd2 (fX9_begins a0 z h2) (fun zo5 ho5h => gd (kd ho5h a0 = 10) (Option.bind (rv ho5h a0 0) (fun b7 => Option.bind (rv ho5h a0 0) (fun b8 => gd (kd ho5h b8 = 13) (gd (¬ ((0 : Int32) < 0 ∨ ln ho5h b8 ≤ Int32.toNatClampNeg 0)) (gd (kd ho5h b7 = 13) (gd (¬ (((1 + (iv ho5h b8 (Int32.toNatClampNeg 0))) : Int32) < 0 ∨ ln ho5h b7 ≤ Int32.toNatClampNeg (1 + (iv ho5h b8 (Int32.toNatClampNeg 0))))) (bl (wI ho5h b7 (Int32.toNatClampNeg (1 + (iv ho5h b8 (Int32.toNatClampNeg 0)))) x1) (fun h13 => Option.bind (rv h13 a0 0) (fun b15 => gd (kd h13 b15 = 13) (gd (¬ ((0 : Int32) < 0 ∨ ln h13 b15 ≤ Int32.toNatClampNeg 0)) (gd (¬ ((0 : Int32) < 0 ∨ ln h13 b15 ≤ Int32.toNatClampNeg 0)) (bl (wI h13 b15 (Int32.toNatClampNeg 0) ((iv h13 b15 (Int32.toNatClampNeg 0)) + 1)) (fun h19 => bd2 (fX9_records a0 zo5 h19) (fun zo21 ho21h => gd (kd ho21h a0 = 10) (Option.bind (rv ho21h a0 0) (fun b23 => gd (kd ho21h b23 = 13) (gd (¬ ((0 : Int32) < 0 ∨ ln ho21h b23 ≤ Int32.toNatClampNeg 0)) (some (((iv ho21h b23 (Int32.toNatClampNeg 0)) - 1), zo21, ho21h))))))))))))))))))))) else (some (0, z, h2))))))
def bX9_addResource_18  (a0 : Nat) (x1 : Int32) (u0 : Nat) (z : Nat) (h : AH) : Option (Int32 × Nat × AH) :=
  gd (kd h a0 = 10) (Option.bind (rv h a0 0) (fun b2 => gd (kd h b2 = 13) (gd (¬ ((0 : Int32) < 0 ∨ ln h b2 ≤ Int32.toNatClampNeg 0)) ((if (iv h b2 (Int32.toNatClampNeg 0)) = 16 then (bX9_addResource_34  a0 x1 u0 2 z h) else (bX9_addResource_34  a0 x1 u0 0 z h))))))
def fX9_addResource  (a0 : Nat) (x1 : Int32) (z : Nat) (h : AH) : Option (Int32 × Nat × AH) :=
  (if x1 = (-1) then (bX9_addResource_18  a0 x1 a0 z h) else (gd (kd h a0 = 10) (bd3 (fX9_isResource a0 x1 z h) (fun vo3 zo3 ho3h => (if vo3 = 0 then (bX9_addResource_34  a0 x1 a0 1 zo3 ho3h) else (bX9_addResource_18  a0 x1 a0 zo3 ho3h))))))
theorem wbX9_addResource_34 {g : JG} (hst : (jl g).stackTraces = false)   {a0 : Nat} {x1 : Int32} {u0 : Nat} {s1 : Int32} {z : Nat} {h : AH} {o : Int32 × Nat × AH} (hf : bX9_addResource_34  a0 x1 u0 s1 z h = some o) : J g MX9_addResource (jN g (some (.int o.1), o.2.1, o.2.2) rmX9_addResource.cells rmX9_addResource.slots) 34 [some (.ref a0), some (.int x1)] [.int s1, .ref u0] z h 0 0 := by
  unfold bX9_addResource_34 at hf
  obtain ⟨k1, hf⟩ := gds hf
  refine P_9_6 dX9_addResource_34 tk_925 k1 ?_
  obtain ⟨h2, eh2, hf⟩ := bls hf
  refine J_h eh2 ?_
  refine J_aload_n dX9_addResource_37 rfl rfl ?_
  obtain ⟨k3, hf⟩ := gds hf
  refine G_9_6 dX9_addResource_38 tk_925 k3 ?_
  rcases br hf with ⟨c4, hf⟩ | ⟨c4, hf⟩
  · refine J_if_le (tgt := 46) dX9_addResource_41 (by decide) (fun _ => ?_) (fun w => absurd c4 w)
    refine J_aload_n dX9_addResource_46 rfl rfl ?_
    obtain ⟨zo5, ho5h, ho5, hf⟩ := rfs2 hf
    refine CV0v dX9_addResource_47 (mX9_begins hst ho5) tk_999 iX9_begins k3 (by decide) rfl ⟨by decide, by decide⟩ ⟨by decide, by decide⟩ (Nat.le_of_ble_eq_true rfl) ?_
    refine J_aload_n dX9_addResource_50 rfl rfl ?_
    obtain ⟨k6, hf⟩ := gds hf
    obtain ⟨b7, rb7, hf⟩ := rfs hf
    refine G_9_0 dX9_addResource_51 tk_919 k6 rb7 ?_
    refine J_iconst (v := 1) dX9_addResource_54 (by decide) ?_
    refine J_aload_n dX9_addResource_55 rfl rfl ?_
    obtain ⟨b8, rb8, hf⟩ := rfs hf
    refine G_9_0 dX9_addResource_56 tk_919 k6 rb8 ?_
    refine J_iconst (v := 0) dX9_addResource_59 (by decide) ?_
    obtain ⟨k9, hf⟩ := gds hf
    obtain ⟨n10, hf⟩ := gds hf
    refine J_iaload dX9_addResource_60 k9 n10 ?_
    refine J_iadd dX9_addResource_61 ?_
    refine J_iload_n dX9_addResource_62 rfl rfl ?_
    obtain ⟨k11, hf⟩ := gds hf
    obtain ⟨n12, hf⟩ := gds hf
    refine J_iastore dX9_addResource_63 k11 n12 ?_
    obtain ⟨h13, eh13, hf⟩ := bls hf
    refine J_h eh13 ?_
    refine J_aload_n dX9_addResource_64 rfl rfl ?_
    have k14 : kd h13 a0 = 10 := by rw [eh13]; exact k6
    obtain ⟨b15, rb15, hf⟩ := rfs hf
    refine G_9_0 dX9_addResource_65 tk_919 k14 rb15 ?_
    refine J_iconst (v := 0) dX9_addResource_68 (by decide) ?_
    refine J_dup2 dX9_addResource_69 rfl rfl ?_
    obtain ⟨k16, hf⟩ := gds hf
    obtain ⟨n17, hf⟩ := gds hf
    refine J_iaload dX9_addResource_70 k16 n17 ?_
    refine J_iconst (v := 1) dX9_addResource_71 (by decide) ?_
    refine J_iadd dX9_addResource_72 ?_
    obtain ⟨n18, hf⟩ := gds hf
    refine J_iastore dX9_addResource_73 k16 n18 ?_
    obtain ⟨h19, eh19, hf⟩ := bls hf
    refine J_h eh19 ?_
    refine J_aload_n dX9_addResource_74 rfl rfl ?_
    have k20 : kd h19 a0 = 10 := by rw [eh19]; exact k14
    obtain ⟨zo21, ho21h, ho21, hf⟩ := rfs2 hf
    refine CV0v dX9_addResource_75 (mX9_records hst ho21) tk_1003 iX9_records k20 (by decide) rfl ⟨by decide, by decide⟩ ⟨by decide, by decide⟩ (Nat.le_of_ble_eq_true rfl) ?_
    refine J_aload_n dX9_addResource_78 rfl rfl ?_
    obtain ⟨k22, hf⟩ := gds hf
    obtain ⟨b23, rb23, hf⟩ := rfs hf
    refine G_9_0 dX9_addResource_79 tk_919 k22 rb23 ?_
    refine J_iconst (v := 0) dX9_addResource_82 (by decide) ?_
    obtain ⟨k24, hf⟩ := gds hf
    obtain ⟨n25, hf⟩ := gds hf
    refine J_iaload dX9_addResource_83 k24 n25 ?_
    refine J_iconst (v := 1) dX9_addResource_84 (by decide) ?_
    refine J_isub dX9_addResource_85 ?_
    cases hf
    exact J_iretN dX9_addResource_86 rfl (by decide) (by decide)
  · refine J_if_le (tgt := 46) dX9_addResource_41 (by decide) (fun w => absurd w c4) (fun _ => ?_)
    refine J_iconst (v := 0) dX9_addResource_44 (by decide) ?_
    cases hf
    exact J_iretN dX9_addResource_45 rfl (by decide) (by decide)
theorem wbX9_addResource_18 {g : JG} (hst : (jl g).stackTraces = false)   {a0 : Nat} {x1 : Int32} {u0 : Nat} {z : Nat} {h : AH} {o : Int32 × Nat × AH} (hf : bX9_addResource_18  a0 x1 u0 z h = some o) : J g MX9_addResource (jN g (some (.int o.1), o.2.1, o.2.2) rmX9_addResource.cells rmX9_addResource.slots) 18 [some (.ref a0), some (.int x1)] [.ref u0] z h 0 0 := by
  unfold bX9_addResource_18 at hf
  refine J_aload_n dX9_addResource_18 rfl rfl ?_
  obtain ⟨k1, hf⟩ := gds hf
  obtain ⟨b2, rb2, hf⟩ := rfs hf
  refine G_9_0 dX9_addResource_19 tk_919 k1 rb2 ?_
  refine J_iconst (v := 0) dX9_addResource_22 (by decide) ?_
  obtain ⟨k3, hf⟩ := gds hf
  obtain ⟨n4, hf⟩ := gds hf
  refine J_iaload dX9_addResource_23 k3 n4 ?_
  refine J_bipush (v := 16) dX9_addResource_24 (by decide) ?_
  rcases br hf with ⟨c5, hf⟩ | ⟨c5, hf⟩
  · refine J_icmp_ne (tgt := 33) dX9_addResource_26 (by decide) (fun w => absurd c5 w) (fun _ => ?_)
    refine J_iconst (v := 2) dX9_addResource_29 (by decide) ?_
    refine J_goto (tgt := 34) dX9_addResource_30 (by decide) ?_
    refine J.sub (jsub_s (jsub_s (jsub_nil _))) ?_
    exact wbX9_addResource_34 hst   hf
  · refine J_icmp_ne (tgt := 33) dX9_addResource_26 (by decide) (fun _ => ?_) (fun w => absurd w c5)
    refine J_iconst (v := 0) dX9_addResource_33 (by decide) ?_
    refine J.sub (jsub_s (jsub_s (jsub_nil _))) ?_
    exact wbX9_addResource_34 hst   hf
theorem wfX9_addResource {g : JG} (hst : (jl g).stackTraces = false)   {a0 : Nat} {x1 : Int32} {z : Nat} {h : AH} {o : Int32 × Nat × AH} (hf : fX9_addResource  a0 x1 z h = some o) : J g MX9_addResource (jN g (some (.int o.1), o.2.1, o.2.2) rmX9_addResource.cells rmX9_addResource.slots) 0 [some (.ref a0), some (.int x1)] [] z h 0 0 := by
  unfold fX9_addResource at hf
  refine J_aload_n dX9_addResource_0 rfl rfl ?_
  refine J_iload_n dX9_addResource_1 rfl rfl ?_
  refine J_iconst (v := (-1)) dX9_addResource_2 (by decide) ?_
  rcases br hf with ⟨c1, hf⟩ | ⟨c1, hf⟩
  · refine J_icmp_eq (tgt := 18) dX9_addResource_3 (by decide) (fun _ => ?_) (fun w => absurd c1 w)
    refine J.sub (jsub_s (jsub_s (jsub_nil _))) ?_
    exact wbX9_addResource_18 hst   hf
  · refine J_icmp_eq (tgt := 18) dX9_addResource_3 (by decide) (fun w => absurd w c1) (fun _ => ?_)
    refine J_aload_n dX9_addResource_6 rfl rfl ?_
    refine J_iload_n dX9_addResource_7 rfl rfl ?_
    obtain ⟨k2, hf⟩ := gds hf
    obtain ⟨vo3, zo3, ho3h, ho3, hf⟩ := rfs3 hf
    refine CV1i dX9_addResource_8 (mX9_isResource hst ho3) tk_992 iX9_isResource k2 (by decide) rfl ⟨by decide, by decide⟩ ⟨by decide, by decide⟩ (Nat.le_of_ble_eq_true rfl) ?_
    rcases br hf with ⟨c4, hf⟩ | ⟨c4, hf⟩
    · refine J_if_ne (tgt := 18) dX9_addResource_11 (by decide) (fun w => absurd c4 w) (fun _ => ?_)
      refine J_iconst (v := 1) dX9_addResource_14 (by decide) ?_
      refine J_goto (tgt := 34) dX9_addResource_15 (by decide) ?_
      refine J.sub (jsub_s (jsub_s (jsub_nil _))) ?_
      exact wbX9_addResource_34 hst   hf
    · refine J_if_ne (tgt := 18) dX9_addResource_11 (by decide) (fun _ => ?_) (fun w => absurd w c4)
      refine J.sub (jsub_s (jsub_s (jsub_nil _))) ?_
      exact wbX9_addResource_18 hst   hf
theorem mX9_addResource {g : JG} (hst : (jl g).stackTraces = false) {a0 : Nat} {x1 : Int32} {z : Nat} {h : AH} {o : Int32 × Nat × AH} (hf : fX9_addResource a0 x1 z h = some o) : jMet g yX9_addResource (wj yX9_addResource cX9_addResource 2 (some .int)) rmX9_addResource [.ref a0, .int x1] z h (some (.int o.1), o.2.1, o.2.2) :=
  jMet_mk (by decide) (Nat.le_of_ble_eq_true rfl) [some (.ref a0), some (.int x1)] rfl (wfX9_addResource hst hf)
def fX9_thrown  (a0 : Nat) (z : Nat) (h : AH) : Option (Int32 × Nat × AH) :=
  gd (kd h a0 = 10) (some ((iv h a0 6), z, h))
theorem wfX9_thrown {g : JG} (hst : (jl g).stackTraces = false)   {a0 : Nat} {z : Nat} {h : AH} {o : Int32 × Nat × AH} (hf : fX9_thrown  a0 z h = some o) : J g MX9_thrown (jN g (some (.int o.1), o.2.1, o.2.2) rmX9_thrown.cells rmX9_thrown.slots) 0 [some (.ref a0)] [] z h 0 0 := by
  unfold fX9_thrown at hf
  refine J_aload_n dX9_thrown_0 rfl rfl ?_
  obtain ⟨k1, hf⟩ := gds hf
  refine G_9_6 dX9_thrown_1 tk_925 k1 ?_
  cases hf
  exact J_iretN dX9_thrown_4 rfl (by decide) (by decide)
theorem mX9_thrown {g : JG} (hst : (jl g).stackTraces = false) {a0 : Nat} {z : Nat} {h : AH} {o : Int32 × Nat × AH} (hf : fX9_thrown a0 z h = some o) : jMet g yX9_thrown (wj yX9_thrown cX9_thrown 1 (some .int)) rmX9_thrown [.ref a0] z h (some (.int o.1), o.2.1, o.2.2) :=
  jMet_mk (by decide) (Nat.le_of_ble_eq_true rfl) [some (.ref a0)] rfl (wfX9_thrown hst hf)
def fX9_resources  (a0 : Nat) (z : Nat) (h : AH) : Option (Int32 × Nat × AH) :=
  gd (kd h a0 = 10) (bl (wI h a0 6 0) (fun h2 => Option.bind (rv h2 a0 0) (fun b4 => gd (kd h2 b4 = 13) (gd (¬ ((0 : Int32) < 0 ∨ ln h2 b4 ≤ Int32.toNatClampNeg 0)) (some ((iv h2 b4 (Int32.toNatClampNeg 0)), z, h2))))))
theorem wfX9_resources {g : JG} (hst : (jl g).stackTraces = false)   {a0 : Nat} {z : Nat} {h : AH} {o : Int32 × Nat × AH} (hf : fX9_resources  a0 z h = some o) : J g MX9_resources (jN g (some (.int o.1), o.2.1, o.2.2) rmX9_resources.cells rmX9_resources.slots) 0 [some (.ref a0)] [] z h 0 0 := by
  unfold fX9_resources at hf
  refine J_aload_n dX9_resources_0 rfl rfl ?_
  refine J_iconst (v := 0) dX9_resources_1 (by decide) ?_
  obtain ⟨k1, hf⟩ := gds hf
  refine P_9_6 dX9_resources_2 tk_925 k1 ?_
  obtain ⟨h2, eh2, hf⟩ := bls hf
  refine J_h eh2 ?_
  refine J_aload_n dX9_resources_5 rfl rfl ?_
  have k3 : kd h2 a0 = 10 := by rw [eh2]; exact k1
  obtain ⟨b4, rb4, hf⟩ := rfs hf
  refine G_9_0 dX9_resources_6 tk_919 k3 rb4 ?_
  refine J_iconst (v := 0) dX9_resources_9 (by decide) ?_
  obtain ⟨k5, hf⟩ := gds hf
  obtain ⟨n6, hf⟩ := gds hf
  refine J_iaload dX9_resources_10 k5 n6 ?_
  cases hf
  exact J_iretN dX9_resources_11 rfl (by decide) (by decide)
theorem mX9_resources {g : JG} (hst : (jl g).stackTraces = false) {a0 : Nat} {z : Nat} {h : AH} {o : Int32 × Nat × AH} (hf : fX9_resources a0 z h = some o) : jMet g yX9_resources (wj yX9_resources cX9_resources 1 (some .int)) rmX9_resources [.ref a0] z h (some (.int o.1), o.2.1, o.2.2) :=
  jMet_mk (by decide) (Nat.le_of_ble_eq_true rfl) [some (.ref a0)] rfl (wfX9_resources hst hf)
def bX9_isBelow_24  (x2 : Int32) (x3 : Int32) (z : Nat) (h : AH) : Option (Int32 × Nat × AH) :=
  (if x3 = x2 then (some (1, z, h)) else (some (0, z, h)))
def lX9_isBelow_2B  (q2 : Nat → Int32 → Int32 → Nat → AH → Option (Int32 × Nat × AH)) (a0 : Nat) (x2 : Int32) (x3 : Int32) (z : Nat) (h : AH) : Option (Int32 × Nat × AH) :=
  (if x3 = (-1) then (bX9_isBelow_24  x2 x3 z h) else ((if x3 = x2 then (bX9_isBelow_24  x2 x3 z h) else (gd (kd h a0 = 10) (Option.bind (rv h a0 0) (fun b4 => gd (kd h b4 = 13) (gd (¬ (((1 + x3) : Int32) < 0 ∨ ln h b4 ≤ Int32.toNatClampNeg (1 + x3))) (bl ((iv h b4 (Int32.toNatClampNeg (1 + x3)))) (fun v7 => q2 a0 x2 v7 z h)))))))))
def lX9_isBelow_2  : Nat → Nat → Int32 → Int32 → Nat → AH → Option (Int32 × Nat × AH)
  | 0 => fun _ _ _ _ _ => none
  | fuel + 1 => lX9_isBelow_2B  (lX9_isBelow_2  fuel)
def fX9_isBelow  (a0 : Nat) (x1 : Int32) (x2 : Int32) (z : Nat) (h : AH) : Option (Int32 × Nat × AH) :=
  lX9_isBelow_2  fu a0 x2 x1 z h
theorem wbX9_isBelow_24 {g : JG} (hst : (jl g).stackTraces = false)   {x2 : Int32} {x3 : Int32} {z : Nat} {h : AH} {o : Int32 × Nat × AH} (hf : bX9_isBelow_24  x2 x3 z h = some o) : J g MX9_isBelow (jN g (some (.int o.1), o.2.1, o.2.2) rmX9_isBelow.cells rmX9_isBelow.slots) 24 [none, none, some (.int x2), some (.int x3)] [] z h 0 0 := by
  unfold bX9_isBelow_24 at hf
  refine J_iload_n dX9_isBelow_24 rfl rfl ?_
  refine J_iload_n dX9_isBelow_25 rfl rfl ?_
  rcases br hf with ⟨c1, hf⟩ | ⟨c1, hf⟩
  · refine J_icmp_ne (tgt := 33) dX9_isBelow_26 (by decide) (fun w => absurd c1 w) (fun _ => ?_)
    refine J_iconst (v := 1) dX9_isBelow_29 (by decide) ?_
    refine J_goto (tgt := 34) dX9_isBelow_30 (by decide) ?_
    cases hf
    exact J_zretN dX9_isBelow_34 rfl (Or.inr rfl) (by decide) (by decide)
  · refine J_icmp_ne (tgt := 33) dX9_isBelow_26 (by decide) (fun _ => ?_) (fun w => absurd w c1)
    refine J_iconst (v := 0) dX9_isBelow_33 (by decide) ?_
    cases hf
    exact J_zretN dX9_isBelow_34 rfl (Or.inl rfl) (by decide) (by decide)
theorem wlX9_isBelow_2 {g : JG} (hst : (jl g).stackTraces = false)   : ∀ (fuel : Nat) (a0 : Nat) (x2 : Int32) (x3 : Int32) (z : Nat) (h : AH) (o : Int32 × Nat × AH), lX9_isBelow_2  fuel a0 x2 x3 z h = some o → J g MX9_isBelow (jN g (some (.int o.1), o.2.1, o.2.2) rmX9_isBelow.cells rmX9_isBelow.slots) 2 [some (.ref a0), none, some (.int x2), some (.int x3)] [] z h 0 0 := by
  intro fuel
  induction fuel with
  | zero => intro a0 x2 x3 z h o hf; cases hf
  | succ fuel ih =>
    intro a0 x2 x3 z h o hf
    have hq2 := ih
    have hf : lX9_isBelow_2B  (lX9_isBelow_2  fuel) a0 x2 x3 z h = some o := hf
    generalize lX9_isBelow_2  fuel = q2 at hf hq2
    unfold lX9_isBelow_2B at hf
    refine J_iload_n dX9_isBelow_2 rfl rfl ?_
    refine J_iconst (v := (-1)) dX9_isBelow_3 (by decide) ?_
    rcases br hf with ⟨c1, hf⟩ | ⟨c1, hf⟩
    · refine J_icmp_eq (tgt := 24) dX9_isBelow_4 (by decide) (fun _ => ?_) (fun w => absurd c1 w)
      refine J.sub (jsub_n (jsub_n (jsub_s (jsub_s (jsub_nil _))))) ?_
      exact wbX9_isBelow_24 hst   hf
    · refine J_icmp_eq (tgt := 24) dX9_isBelow_4 (by decide) (fun w => absurd w c1) (fun _ => ?_)
      refine J_iload_n dX9_isBelow_7 rfl rfl ?_
      refine J_iload_n dX9_isBelow_8 rfl rfl ?_
      rcases br hf with ⟨c2, hf⟩ | ⟨c2, hf⟩
      · refine J_icmp_eq (tgt := 24) dX9_isBelow_9 (by decide) (fun _ => ?_) (fun w => absurd c2 w)
        refine J.sub (jsub_n (jsub_n (jsub_s (jsub_s (jsub_nil _))))) ?_
        exact wbX9_isBelow_24 hst   hf
      · refine J_icmp_eq (tgt := 24) dX9_isBelow_9 (by decide) (fun w => absurd w c2) (fun _ => ?_)
        refine J_aload_n dX9_isBelow_12 rfl rfl ?_
        obtain ⟨k3, hf⟩ := gds hf
        obtain ⟨b4, rb4, hf⟩ := rfs hf
        refine G_9_0 dX9_isBelow_13 tk_919 k3 rb4 ?_
        refine J_iconst (v := 1) dX9_isBelow_16 (by decide) ?_
        refine J_iload_n dX9_isBelow_17 rfl rfl ?_
        refine J_iadd dX9_isBelow_18 ?_
        obtain ⟨k5, hf⟩ := gds hf
        obtain ⟨n6, hf⟩ := gds hf
        refine J_iaload dX9_isBelow_19 k5 n6 ?_
        obtain ⟨v7, ev7, hf⟩ := bls hf
        refine J_i ev7 ?_
        refine S_istore_n_3 dX9_isBelow_20 rfl (by decide) ?_
        refine J_goto (tgt := 2) dX9_isBelow_21 (by decide) ?_
        refine J.sub (jsub_s (jsub_n (jsub_s (jsub_s (jsub_nil _))))) ?_
        exact hq2 _ _ _ _ _ _ hf
theorem wfX9_isBelow {g : JG} (hst : (jl g).stackTraces = false)   {a0 : Nat} {x1 : Int32} {x2 : Int32} {z : Nat} {h : AH} {o : Int32 × Nat × AH} (hf : fX9_isBelow  a0 x1 x2 z h = some o) : J g MX9_isBelow (jN g (some (.int o.1), o.2.1, o.2.2) rmX9_isBelow.cells rmX9_isBelow.slots) 0 [some (.ref a0), some (.int x1), some (.int x2), none] [] z h 0 0 := by
  unfold fX9_isBelow at hf
  refine J_iload_n dX9_isBelow_0 rfl rfl ?_
  refine S_istore_n_3 dX9_isBelow_1 rfl (by decide) ?_
  refine J.sub (jsub_s (jsub_n (jsub_s (jsub_s (jsub_nil _))))) ?_
  exact wlX9_isBelow_2 hst   _ _ _ _ _ _ _ hf
theorem mX9_isBelow {g : JG} (hst : (jl g).stackTraces = false) {a0 : Nat} {x1 : Int32} {x2 : Int32} {z : Nat} {h : AH} {o : Int32 × Nat × AH} (hf : fX9_isBelow a0 x1 x2 z h = some o) : jMet g yX9_isBelow (wj yX9_isBelow cX9_isBelow 4 (some .boolean)) rmX9_isBelow [.ref a0, .int x1, .int x2] z h (some (.int o.1), o.2.1, o.2.2) :=
  jMet_mk (by decide) (Nat.le_of_ble_eq_true rfl) [some (.ref a0), some (.int x1), some (.int x2), none] rfl (wfX9_isBelow hst hf)
def fX9_of  (a0 : Nat) (x1 : Int32) (x2 : Int32) (z : Nat) (h : AH) : Option (Int32 × Nat × AH) :=
  gd (kd h a0 = 10) (Option.bind (rv h a0 0) (fun b2 => gd (kd h b2 = 13) (gd (¬ ((((32 + (6 * x1)) + x2) : Int32) < 0 ∨ ln h b2 ≤ Int32.toNatClampNeg ((32 + (6 * x1)) + x2))) (some ((iv h b2 (Int32.toNatClampNeg ((32 + (6 * x1)) + x2))), z, h)))))
theorem wfX9_of {g : JG} (hst : (jl g).stackTraces = false)   {a0 : Nat} {x1 : Int32} {x2 : Int32} {z : Nat} {h : AH} {o : Int32 × Nat × AH} (hf : fX9_of  a0 x1 x2 z h = some o) : J g MX9_of (jN g (some (.int o.1), o.2.1, o.2.2) rmX9_of.cells rmX9_of.slots) 0 [some (.ref a0), some (.int x1), some (.int x2)] [] z h 0 0 := by
  unfold fX9_of at hf
  refine J_aload_n dX9_of_0 rfl rfl ?_
  obtain ⟨k1, hf⟩ := gds hf
  obtain ⟨b2, rb2, hf⟩ := rfs hf
  refine G_9_0 dX9_of_1 tk_919 k1 rb2 ?_
  refine J_bipush (v := 32) dX9_of_4 (by decide) ?_
  refine J_bipush (v := 6) dX9_of_6 (by decide) ?_
  refine J_iload_n dX9_of_8 rfl rfl ?_
  refine J_imul dX9_of_9 ?_
  refine J_iadd dX9_of_10 ?_
  refine J_iload_n dX9_of_11 rfl rfl ?_
  refine J_iadd dX9_of_12 ?_
  obtain ⟨k3, hf⟩ := gds hf
  obtain ⟨n4, hf⟩ := gds hf
  refine J_iaload dX9_of_13 k3 n4 ?_
  cases hf
  exact J_iretN dX9_of_14 rfl (by decide) (by decide)
theorem mX9_of {g : JG} (hst : (jl g).stackTraces = false) {a0 : Nat} {x1 : Int32} {x2 : Int32} {z : Nat} {h : AH} {o : Int32 × Nat × AH} (hf : fX9_of a0 x1 x2 z h = some o) : jMet g yX9_of (wj yX9_of cX9_of 3 (some .int)) rmX9_of [.ref a0, .int x1, .int x2] z h (some (.int o.1), o.2.1, o.2.2) :=
  jMet_mk (by decide) (Nat.le_of_ble_eq_true rfl) [some (.ref a0), some (.int x1), some (.int x2)] rfl (wfX9_of hst hf)
def fX9_isTask  (a0 : Nat) (x1 : Int32) (z : Nat) (h : AH) : Option (Int32 × Nat × AH) :=
  bd3 (fX9_in x1 0 9 z h) (fun vo1 zo1 ho1h => (if vo1 = 0 then (some (0, zo1, ho1h)) else (gd (kd ho1h a0 = 10) (bd3 (fX9_of a0 x1 0 zo1 ho1h) (fun vo4 zo4 ho4h => (if vo4 = 1 then (some (1, zo4, ho4h)) else (some (0, zo4, ho4h))))))))
theorem wfX9_isTask {g : JG} (hst : (jl g).stackTraces = false)   {a0 : Nat} {x1 : Int32} {z : Nat} {h : AH} {o : Int32 × Nat × AH} (hf : fX9_isTask  a0 x1 z h = some o) : J g MX9_isTask (jN g (some (.int o.1), o.2.1, o.2.2) rmX9_isTask.cells rmX9_isTask.slots) 0 [some (.ref a0), some (.int x1)] [] z h 0 0 := by
  unfold fX9_isTask at hf
  refine J_iload_n dX9_isTask_0 rfl rfl ?_
  refine J_iconst (v := 0) dX9_isTask_1 (by decide) ?_
  refine J_bipush (v := 9) dX9_isTask_2 (by decide) ?_
  obtain ⟨vo1, zo1, ho1h, ho1, hf⟩ := rfs3 hf
  refine CS3i (host := "") dX9_isTask_4 (mX9_in hst ho1) tk_996 iX9_in ⟨by decide, by decide⟩ ⟨by decide, by decide⟩ (Nat.le_of_ble_eq_true rfl) ?_
  rcases br hf with ⟨c2, hf⟩ | ⟨c2, hf⟩
  · refine J_if_eq (tgt := 24) dX9_isTask_7 (by decide) (fun _ => ?_) (fun w => absurd c2 w)
    refine J_iconst (v := 0) dX9_isTask_24 (by decide) ?_
    cases hf
    exact J_zretN dX9_isTask_25 rfl (Or.inl rfl) (by decide) (by decide)
  · refine J_if_eq (tgt := 24) dX9_isTask_7 (by decide) (fun w => absurd w c2) (fun _ => ?_)
    refine J_aload_n dX9_isTask_10 rfl rfl ?_
    refine J_iload_n dX9_isTask_11 rfl rfl ?_
    refine J_iconst (v := 0) dX9_isTask_12 (by decide) ?_
    obtain ⟨k3, hf⟩ := gds hf
    obtain ⟨vo4, zo4, ho4h, ho4, hf⟩ := rfs3 hf
    refine CV2i dX9_isTask_13 (mX9_of hst ho4) tk_1023 iX9_of k3 (by decide) rfl ⟨by decide, by decide⟩ ⟨by decide, by decide⟩ (Nat.le_of_ble_eq_true rfl) ?_
    refine J_iconst (v := 1) dX9_isTask_16 (by decide) ?_
    rcases br hf with ⟨c5, hf⟩ | ⟨c5, hf⟩
    · refine J_icmp_ne (tgt := 24) dX9_isTask_17 (by decide) (fun w => absurd c5 w) (fun _ => ?_)
      refine J_iconst (v := 1) dX9_isTask_20 (by decide) ?_
      refine J_goto (tgt := 25) dX9_isTask_21 (by decide) ?_
      cases hf
      exact J_zretN dX9_isTask_25 rfl (Or.inr rfl) (by decide) (by decide)
    · refine J_icmp_ne (tgt := 24) dX9_isTask_17 (by decide) (fun _ => ?_) (fun w => absurd w c5)
      refine J_iconst (v := 0) dX9_isTask_24 (by decide) ?_
      cases hf
      exact J_zretN dX9_isTask_25 rfl (Or.inl rfl) (by decide) (by decide)
theorem mX9_isTask {g : JG} (hst : (jl g).stackTraces = false) {a0 : Nat} {x1 : Int32} {z : Nat} {h : AH} {o : Int32 × Nat × AH} (hf : fX9_isTask a0 x1 z h = some o) : jMet g yX9_isTask (wj yX9_isTask cX9_isTask 2 (some .boolean)) rmX9_isTask [.ref a0, .int x1] z h (some (.int o.1), o.2.1, o.2.2) :=
  jMet_mk (by decide) (Nat.le_of_ble_eq_true rfl) [some (.ref a0), some (.int x1)] rfl (wfX9_isTask hst hf)
def fX9_overlaps  (a0 : Nat) (x1 : Int32) (x2 : Int32) (z : Nat) (h : AH) : Option (Int32 × Nat × AH) :=
  gd (kd h a0 = 10) (bd3 (fX9_isBelow a0 x1 x2 z h) (fun vo2 zo2 ho2h => (if vo2 = 0 then (gd (kd ho2h a0 = 10) (bd3 (fX9_isBelow a0 x2 x1 zo2 ho2h) (fun vo5 zo5 ho5h => (if vo5 = 0 then (some (0, zo5, ho5h)) else (some (1, zo5, ho5h)))))) else (some (1, zo2, ho2h)))))
theorem wfX9_overlaps {g : JG} (hst : (jl g).stackTraces = false)   {a0 : Nat} {x1 : Int32} {x2 : Int32} {z : Nat} {h : AH} {o : Int32 × Nat × AH} (hf : fX9_overlaps  a0 x1 x2 z h = some o) : J g MX9_overlaps (jN g (some (.int o.1), o.2.1, o.2.2) rmX9_overlaps.cells rmX9_overlaps.slots) 0 [some (.ref a0), some (.int x1), some (.int x2)] [] z h 0 0 := by
  unfold fX9_overlaps at hf
  refine J_aload_n dX9_overlaps_0 rfl rfl ?_
  refine J_iload_n dX9_overlaps_1 rfl rfl ?_
  refine J_iload_n dX9_overlaps_2 rfl rfl ?_
  obtain ⟨k1, hf⟩ := gds hf
  obtain ⟨vo2, zo2, ho2h, ho2, hf⟩ := rfs3 hf
  refine CV2i dX9_overlaps_3 (mX9_isBelow hst ho2) tk_1015 iX9_isBelow k1 (by decide) rfl ⟨by decide, by decide⟩ ⟨by decide, by decide⟩ (Nat.le_of_ble_eq_true rfl) ?_
  rcases br hf with ⟨c3, hf⟩ | ⟨c3, hf⟩
  · refine J_if_ne (tgt := 18) dX9_overlaps_6 (by decide) (fun w => absurd c3 w) (fun _ => ?_)
    refine J_aload_n dX9_overlaps_9 rfl rfl ?_
    refine J_iload_n dX9_overlaps_10 rfl rfl ?_
    refine J_iload_n dX9_overlaps_11 rfl rfl ?_
    obtain ⟨k4, hf⟩ := gds hf
    obtain ⟨vo5, zo5, ho5h, ho5, hf⟩ := rfs3 hf
    refine CV2i dX9_overlaps_12 (mX9_isBelow hst ho5) tk_1015 iX9_isBelow k4 (by decide) rfl ⟨by decide, by decide⟩ ⟨by decide, by decide⟩ (Nat.le_of_ble_eq_true rfl) ?_
    rcases br hf with ⟨c6, hf⟩ | ⟨c6, hf⟩
    · refine J_if_eq (tgt := 22) dX9_overlaps_15 (by decide) (fun _ => ?_) (fun w => absurd c6 w)
      refine J_iconst (v := 0) dX9_overlaps_22 (by decide) ?_
      cases hf
      exact J_zretN dX9_overlaps_23 rfl (Or.inl rfl) (by decide) (by decide)
    · refine J_if_eq (tgt := 22) dX9_overlaps_15 (by decide) (fun w => absurd w c6) (fun _ => ?_)
      refine J_iconst (v := 1) dX9_overlaps_18 (by decide) ?_
      refine J_goto (tgt := 23) dX9_overlaps_19 (by decide) ?_
      cases hf
      exact J_zretN dX9_overlaps_23 rfl (Or.inr rfl) (by decide) (by decide)
  · refine J_if_ne (tgt := 18) dX9_overlaps_6 (by decide) (fun _ => ?_) (fun w => absurd w c3)
    refine J_iconst (v := 1) dX9_overlaps_18 (by decide) ?_
    refine J_goto (tgt := 23) dX9_overlaps_19 (by decide) ?_
    cases hf
    exact J_zretN dX9_overlaps_23 rfl (Or.inr rfl) (by decide) (by decide)
theorem mX9_overlaps {g : JG} (hst : (jl g).stackTraces = false) {a0 : Nat} {x1 : Int32} {x2 : Int32} {z : Nat} {h : AH} {o : Int32 × Nat × AH} (hf : fX9_overlaps a0 x1 x2 z h = some o) : jMet g yX9_overlaps (wj yX9_overlaps cX9_overlaps 3 (some .boolean)) rmX9_overlaps [.ref a0, .int x1, .int x2] z h (some (.int o.1), o.2.1, o.2.2) :=
  jMet_mk (by decide) (Nat.le_of_ble_eq_true rfl) [some (.ref a0), some (.int x1), some (.int x2)] rfl (wfX9_overlaps hst hf)
def bX9_resource_221 (q129 : Nat → Int32 → Int32 → Int32 → Int32 → Int32 → Int32 → Int32 → Int32 → Nat → AH → Option (Int32 × Nat × AH)) (a0 : Nat) (x1 : Int32) (x2 : Int32) (x3 : Int32) (x4 : Int32) (x5 : Int32) (x7 : Int32) (x8 : Int32) (s0 : Int32) (s1 : Int32) (z : Nat) (h : AH) : Option (Int32 × Nat × AH) :=
  bl ((s0 ||| s1)) (fun v1 => q129 a0 x1 x2 x3 x4 x5 v1 x7 (x8 + 1) z h)
def bX9_resource_220 (q129 : Nat → Int32 → Int32 → Int32 → Int32 → Int32 → Int32 → Int32 → Int32 → Nat → AH → Option (Int32 × Nat × AH)) (a0 : Nat) (x1 : Int32) (x2 : Int32) (x3 : Int32) (x4 : Int32) (x5 : Int32) (x7 : Int32) (x8 : Int32) (s0 : Int32) (z : Nat) (h : AH) : Option (Int32 × Nat × AH) :=
  bX9_resource_221 q129 a0 x1 x2 x3 x4 x5 x7 x8 s0 0 z h
def bX9_resource_194 (q129 : Nat → Int32 → Int32 → Int32 → Int32 → Int32 → Int32 → Int32 → Int32 → Nat → AH → Option (Int32 × Nat × AH)) (a0 : Nat) (x1 : Int32) (x2 : Int32) (x3 : Int32) (x4 : Int32) (x6 : Int32) (x7 : Int32) (x8 : Int32) (x9 : Int32) (s0 : Int32) (z : Nat) (h : AH) : Option (Int32 × Nat × AH) :=
  (if x9 = 0 then (bX9_resource_220 q129 a0 x1 x2 x3 x4 s0 x7 x8 x6 z h) else (gd (kd h a0 = 10) (bd3 (fX9_overlaps a0 x1 x8 z h) (fun vo3 zo3 ho3h => (if vo3 = 0 then (bX9_resource_220 q129 a0 x1 x2 x3 x4 s0 x7 x8 x6 zo3 ho3h) else (bX9_resource_221 q129 a0 x1 x2 x3 x4 s0 x7 x8 x6 (1 <<< (x7 &&& 31)) zo3 ho3h))))))
def bX9_resource_192 (q129 : Nat → Int32 → Int32 → Int32 → Int32 → Int32 → Int32 → Int32 → Int32 → Nat → AH → Option (Int32 × Nat × AH)) (a0 : Nat) (x1 : Int32) (x2 : Int32) (x3 : Int32) (x4 : Int32) (x5 : Int32) (x6 : Int32) (x7 : Int32) (x8 : Int32) (x9 : Int32) (z : Nat) (h : AH) : Option (Int32 × Nat × AH) :=
  bX9_resource_194 q129 a0 x1 x2 x3 x4 x6 x7 x8 x9 x5 z h
def bX9_resource_170 (q129 : Nat → Int32 → Int32 → Int32 → Int32 → Int32 → Int32 → Int32 → Int32 → Nat → AH → Option (Int32 × Nat × AH)) (a0 : Nat) (x1 : Int32) (x2 : Int32) (x3 : Int32) (x4 : Int32) (x5 : Int32) (x6 : Int32) (x7 : Int32) (x8 : Int32) (s0 : Int32) (z : Nat) (h : AH) : Option (Int32 × Nat × AH) :=
  (if s0 = 0 then (bX9_resource_192 q129 a0 x1 x2 x3 x4 x5 x6 x7 x8 s0 z h) else (gd (kd h a0 = 10) (bd3 (fX9_isBelow a0 x1 x8 z h) (fun vo3 zo3 ho3h => (if vo3 = 0 then (bX9_resource_192 q129 a0 x1 x2 x3 x4 x5 x6 x7 x8 s0 zo3 ho3h) else (bX9_resource_194 q129 a0 x1 x2 x3 x4 x6 x7 x8 s0 x7 zo3 ho3h))))))
def bX9_resource_169 (q129 : Nat → Int32 → Int32 → Int32 → Int32 → Int32 → Int32 → Int32 → Int32 → Nat → AH → Option (Int32 × Nat × AH)) (a0 : Nat) (x1 : Int32) (x2 : Int32) (x3 : Int32) (x4 : Int32) (x5 : Int32) (x6 : Int32) (x7 : Int32) (x8 : Int32) (z : Nat) (h : AH) : Option (Int32 × Nat × AH) :=
  bX9_resource_170 q129 a0 x1 x2 x3 x4 x5 x6 x7 x8 0 z h
def lX9_resource_129B (q121 : Nat → Int32 → Int32 → Int32 → Int32 → Int32 → Int32 → Int32 → Nat → AH → Option (Int32 × Nat × AH)) (q129 : Nat → Int32 → Int32 → Int32 → Int32 → Int32 → Int32 → Int32 → Int32 → Nat → AH → Option (Int32 × Nat × AH)) (a0 : Nat) (x1 : Int32) (x2 : Int32) (x3 : Int32) (x4 : Int32) (x5 : Int32) (x6 : Int32) (x7 : Int32) (x8 : Int32) (z : Nat) (h : AH) : Option (Int32 × Nat × AH) :=
  gd (kd h a0 = 10) (Option.bind (rv h a0 0) (fun b2 => gd (kd h b2 = 13) (gd (¬ ((0 : Int32) < 0 ∨ ln h b2 ≤ Int32.toNatClampNeg 0)) ((if (iv h b2 (Int32.toNatClampNeg 0)) ≤ x8 then (q121 a0 x1 x2 x3 x4 x5 x6 (x7 + (-1)) z h) else (bd3 (fX9_isTask a0 x7 z h) (fun vo6 zo6 ho6h => (if vo6 = 0 then (bX9_resource_169 q129 a0 x1 x2 x3 x4 x5 x6 x7 x8 zo6 ho6h) else (gd (kd ho6h a0 = 10) (bd3 (fX9_of a0 x7 3 zo6 ho6h) (fun vo9 zo9 ho9h => (if ((vo9 >>> (x8 &&& 31)) &&& 1) = 1 then (bX9_resource_170 q129 a0 x1 x2 x3 x4 x5 x6 x7 x8 1 zo9 ho9h) else (bX9_resource_169 q129 a0 x1 x2 x3 x4 x5 x6 x7 x8 zo9 ho9h)))))))))))))
def lX9_resource_129 (q121 : Nat → Int32 → Int32 → Int32 → Int32 → Int32 → Int32 → Int32 → Nat → AH → Option (Int32 × Nat × AH)) : Nat → Nat → Int32 → Int32 → Int32 → Int32 → Int32 → Int32 → Int32 → Int32 → Nat → AH → Option (Int32 × Nat × AH)
  | 0 => fun _ _ _ _ _ _ _ _ _ _ _ => none
  | fuel + 1 => lX9_resource_129B q121 (lX9_resource_129 q121 fuel)
def lX9_resource_121B  (q121 : Nat → Int32 → Int32 → Int32 → Int32 → Int32 → Int32 → Int32 → Nat → AH → Option (Int32 × Nat × AH)) (a0 : Nat) (x1 : Int32) (x2 : Int32) (x3 : Int32) (x4 : Int32) (x5 : Int32) (x6 : Int32) (x7 : Int32) (z : Nat) (h : AH) : Option (Int32 × Nat × AH) :=
  (if x7 < 0 then ((if x2 = 0 then (gd (kd h a0 = 10) (Option.bind (rv h a0 0) (fun b7 => gd (kd h b7 = 13) (gd (¬ (((1 + x1) : Int32) < 0 ∨ ln h b7 ≤ Int32.toNatClampNeg (1 + x1))) (some ((iv h b7 (Int32.toNatClampNeg (1 + x1))), z, h)))))) else ((if x2 = 1 then (some (x3, z, h)) else ((if x2 = 2 then (some (x4, z, h)) else ((if x2 = 3 then (some (x5, z, h)) else (some (x6, z, h)))))))))) else (lX9_resource_129 q121 fu a0 x1 x2 x3 x4 x5 x6 x7 0 z h))
def lX9_resource_121  : Nat → Nat → Int32 → Int32 → Int32 → Int32 → Int32 → Int32 → Int32 → Nat → AH → Option (Int32 × Nat × AH)
  | 0 => fun _ _ _ _ _ _ _ _ _ _ => none
  | fuel + 1 => lX9_resource_121B  (lX9_resource_121  fuel)
def bX9_resource_108 (q53 : Nat → Int32 → Int32 → Int32 → Int32 → Int32 → Int32 → Int32 → Nat → AH → Option (Int32 × Nat × AH)) (a0 : Nat) (x1 : Int32) (x2 : Int32) (x3 : Int32) (x5 : Int32) (x6 : Int32) (x7 : Int32) (s0 : Int32) (s1 : Int32) (z : Nat) (h : AH) : Option (Int32 × Nat × AH) :=
  bl ((s0 ||| s1)) (fun v1 => q53 a0 x1 x2 x3 v1 x5 x6 (x7 + 1) z h)
def bX9_resource_86 (q53 : Nat → Int32 → Int32 → Int32 → Int32 → Int32 → Int32 → Int32 → Nat → AH → Option (Int32 × Nat × AH)) (a0 : Nat) (x1 : Int32) (x2 : Int32) (x4 : Int32) (x5 : Int32) (x6 : Int32) (x7 : Int32) (s0 : Int32) (s1 : Int32) (z : Nat) (h : AH) : Option (Int32 × Nat × AH) :=
  bl ((s0 + s1)) (fun v1 => gd (kd h a0 = 10) (bd3 (fX9_isBelow a0 x7 x1 z h) (fun vo3 zo3 ho3h => (if vo3 = 0 then (bX9_resource_108 q53 a0 x1 x2 v1 x5 x6 x7 x4 0 zo3 ho3h) else (bX9_resource_108 q53 a0 x1 x2 v1 x5 x6 x7 x4 (1 <<< (x7 &&& 31)) zo3 ho3h)))))
def bX9_resource_85 (q53 : Nat → Int32 → Int32 → Int32 → Int32 → Int32 → Int32 → Int32 → Nat → AH → Option (Int32 × Nat × AH)) (a0 : Nat) (x1 : Int32) (x2 : Int32) (x4 : Int32) (x5 : Int32) (x6 : Int32) (x7 : Int32) (s0 : Int32) (z : Nat) (h : AH) : Option (Int32 × Nat × AH) :=
  bX9_resource_86 q53 a0 x1 x2 x4 x5 x6 x7 s0 0 z h
def lX9_resource_53B  (q53 : Nat → Int32 → Int32 → Int32 → Int32 → Int32 → Int32 → Int32 → Nat → AH → Option (Int32 × Nat × AH)) (a0 : Nat) (x1 : Int32) (x2 : Int32) (x3 : Int32) (x4 : Int32) (x5 : Int32) (x6 : Int32) (x7 : Int32) (z : Nat) (h : AH) : Option (Int32 × Nat × AH) :=
  gd (kd h a0 = 10) (Option.bind (rv h a0 0) (fun b2 => gd (kd h b2 = 13) (gd (¬ ((0 : Int32) < 0 ∨ ln h b2 ≤ Int32.toNatClampNeg 0)) ((if (iv h b2 (Int32.toNatClampNeg 0)) ≤ x7 then (lX9_resource_121  fu a0 x1 x2 x3 x4 x5 x6 9 z h) else ((if x7 = x1 then (bX9_resource_85 q53 a0 x1 x2 x4 x5 x6 x7 x3 z h) else (bd3 (fX9_isBelow a0 x1 x7 z h) (fun vo7 zo7 ho7h => (if vo7 = 0 then (bX9_resource_85 q53 a0 x1 x2 x4 x5 x6 x7 x3 zo7 ho7h) else (bX9_resource_86 q53 a0 x1 x2 x4 x5 x6 x7 x3 1 zo7 ho7h)))))))))))
def lX9_resource_53  : Nat → Nat → Int32 → Int32 → Int32 → Int32 → Int32 → Int32 → Int32 → Nat → AH → Option (Int32 × Nat × AH)
  | 0 => fun _ _ _ _ _ _ _ _ _ _ => none
  | fuel + 1 => lX9_resource_53B  (lX9_resource_53  fuel)
def bX9_resource_27  (a0 : Nat) (x1 : Int32) (x2 : Int32) (u0 : Nat) (s1 : Int32) (z : Nat) (h : AH) : Option (Int32 × Nat × AH) :=
  gd (kd h u0 = 10) (bl (wI h u0 6 s1) (fun h2 => gd (kd h2 a0 = 10) ((if (iv h2 a0 6) ≤ 0 then (lX9_resource_53  fu a0 x1 x2 0 0 (-1) 0 0 z h2) else (some (0, z, h2))))))
def fX9_resource  (a0 : Nat) (x1 : Int32) (x2 : Int32) (z : Nat) (h : AH) : Option (Int32 × Nat × AH) :=
  gd (kd h a0 = 10) (bd3 (fX9_isResource a0 x1 z h) (fun vo2 zo2 ho2h => (if vo2 = 0 then (bX9_resource_27  a0 x1 x2 a0 1 zo2 ho2h) else (bd3 (fX9_in x2 0 4 zo2 ho2h) (fun vo4 zo4 ho4h => (if vo4 = 0 then (bX9_resource_27  a0 x1 x2 a0 2 zo4 ho4h) else (bX9_resource_27  a0 x1 x2 a0 0 zo4 ho4h)))))))
theorem wbX9_resource_221 {g : JG} (hst : (jl g).stackTraces = false) (q129 : Nat → Int32 → Int32 → Int32 → Int32 → Int32 → Int32 → Int32 → Int32 → Nat → AH → Option (Int32 × Nat × AH)) (hq129 : ∀ (a0 : Nat) (x1 : Int32) (x2 : Int32) (x3 : Int32) (x4 : Int32) (x5 : Int32) (x6 : Int32) (x7 : Int32) (x8 : Int32) (z : Nat) (h : AH) (o : Int32 × Nat × AH), q129 a0 x1 x2 x3 x4 x5 x6 x7 x8 z h = some o → J g MX9_resource (jN g (some (.int o.1), o.2.1, o.2.2) rmX9_resource.cells rmX9_resource.slots) 129 [some (.ref a0), some (.int x1), some (.int x2), some (.int x3), some (.int x4), some (.int x5), some (.int x6), some (.int x7), some (.int x8), none] [] z h 0 0) {a0 : Nat} {x1 : Int32} {x2 : Int32} {x3 : Int32} {x4 : Int32} {x5 : Int32} {x7 : Int32} {x8 : Int32} {s0 : Int32} {s1 : Int32} {z : Nat} {h : AH} {o : Int32 × Nat × AH} (hf : bX9_resource_221 q129 a0 x1 x2 x3 x4 x5 x7 x8 s0 s1 z h = some o) : J g MX9_resource (jN g (some (.int o.1), o.2.1, o.2.2) rmX9_resource.cells rmX9_resource.slots) 221 [some (.ref a0), some (.int x1), some (.int x2), some (.int x3), some (.int x4), some (.int x5), none, some (.int x7), some (.int x8), none] [.int s1, .int s0] z h 0 0 := by
  unfold bX9_resource_221 at hf
  refine J_ior dX9_resource_221 ?_
  obtain ⟨v1, ev1, hf⟩ := bls hf
  refine J_i ev1 ?_
  refine S_istore_6 dX9_resource_222 rfl (by decide) ?_
  refine S_iinc_8 (v := x8 + 1) dX9_resource_224 (congrArg (fun w => x8 + w) (by decide)) rfl (by decide) ?_
  refine J_goto (tgt := 129) dX9_resource_227 (by decide) ?_
  refine J.sub (jsub_s (jsub_s (jsub_s (jsub_s (jsub_s (jsub_s (jsub_s (jsub_s (jsub_s (jsub_n (jsub_nil _))))))))))) ?_
  exact hq129 _ _ _ _ _ _ _ _ _ _ _ _ hf
theorem wbX9_resource_220 {g : JG} (hst : (jl g).stackTraces = false) (q129 : Nat → Int32 → Int32 → Int32 → Int32 → Int32 → Int32 → Int32 → Int32 → Nat → AH → Option (Int32 × Nat × AH)) (hq129 : ∀ (a0 : Nat) (x1 : Int32) (x2 : Int32) (x3 : Int32) (x4 : Int32) (x5 : Int32) (x6 : Int32) (x7 : Int32) (x8 : Int32) (z : Nat) (h : AH) (o : Int32 × Nat × AH), q129 a0 x1 x2 x3 x4 x5 x6 x7 x8 z h = some o → J g MX9_resource (jN g (some (.int o.1), o.2.1, o.2.2) rmX9_resource.cells rmX9_resource.slots) 129 [some (.ref a0), some (.int x1), some (.int x2), some (.int x3), some (.int x4), some (.int x5), some (.int x6), some (.int x7), some (.int x8), none] [] z h 0 0) {a0 : Nat} {x1 : Int32} {x2 : Int32} {x3 : Int32} {x4 : Int32} {x5 : Int32} {x7 : Int32} {x8 : Int32} {s0 : Int32} {z : Nat} {h : AH} {o : Int32 × Nat × AH} (hf : bX9_resource_220 q129 a0 x1 x2 x3 x4 x5 x7 x8 s0 z h = some o) : J g MX9_resource (jN g (some (.int o.1), o.2.1, o.2.2) rmX9_resource.cells rmX9_resource.slots) 220 [some (.ref a0), some (.int x1), some (.int x2), some (.int x3), some (.int x4), some (.int x5), none, some (.int x7), some (.int x8), none] [.int s0] z h 0 0 := by
  unfold bX9_resource_220 at hf
  refine J_iconst (v := 0) dX9_resource_220 (by decide) ?_
  refine J.sub (jsub_s (jsub_s (jsub_s (jsub_s (jsub_s (jsub_s (jsub_n (jsub_s (jsub_s (jsub_n (jsub_nil _))))))))))) ?_
  exact wbX9_resource_221 hst _ hq129 hf
theorem wbX9_resource_194 {g : JG} (hst : (jl g).stackTraces = false) (q129 : Nat → Int32 → Int32 → Int32 → Int32 → Int32 → Int32 → Int32 → Int32 → Nat → AH → Option (Int32 × Nat × AH)) (hq129 : ∀ (a0 : Nat) (x1 : Int32) (x2 : Int32) (x3 : Int32) (x4 : Int32) (x5 : Int32) (x6 : Int32) (x7 : Int32) (x8 : Int32) (z : Nat) (h : AH) (o : Int32 × Nat × AH), q129 a0 x1 x2 x3 x4 x5 x6 x7 x8 z h = some o → J g MX9_resource (jN g (some (.int o.1), o.2.1, o.2.2) rmX9_resource.cells rmX9_resource.slots) 129 [some (.ref a0), some (.int x1), some (.int x2), some (.int x3), some (.int x4), some (.int x5), some (.int x6), some (.int x7), some (.int x8), none] [] z h 0 0) {a0 : Nat} {x1 : Int32} {x2 : Int32} {x3 : Int32} {x4 : Int32} {x6 : Int32} {x7 : Int32} {x8 : Int32} {x9 : Int32} {s0 : Int32} {z : Nat} {h : AH} {o : Int32 × Nat × AH} (hf : bX9_resource_194 q129 a0 x1 x2 x3 x4 x6 x7 x8 x9 s0 z h = some o) : J g MX9_resource (jN g (some (.int o.1), o.2.1, o.2.2) rmX9_resource.cells rmX9_resource.slots) 194 [some (.ref a0), some (.int x1), some (.int x2), some (.int x3), some (.int x4), none, some (.int x6), some (.int x7), some (.int x8), some (.int x9)] [.int s0] z h 0 0 := by
  unfold bX9_resource_194 at hf
  refine S_istore_5 dX9_resource_194 rfl (by decide) ?_
  refine J_iload dX9_resource_196 rfl ?_
  refine J_iload dX9_resource_198 rfl ?_
  rcases br hf with ⟨c1, hf⟩ | ⟨c1, hf⟩
  · refine J_if_eq (tgt := 220) dX9_resource_200 (by decide) (fun _ => ?_) (fun w => absurd c1 w)
    refine J.sub (jsub_s (jsub_s (jsub_s (jsub_s (jsub_s (jsub_s (jsub_n (jsub_s (jsub_s (jsub_n (jsub_nil _))))))))))) ?_
    exact wbX9_resource_220 hst _ hq129 hf
  · refine J_if_eq (tgt := 220) dX9_resource_200 (by decide) (fun w => absurd w c1) (fun _ => ?_)
    refine J_aload_n dX9_resource_203 rfl rfl ?_
    refine J_iload_n dX9_resource_204 rfl rfl ?_
    refine J_iload dX9_resource_205 rfl ?_
    obtain ⟨k2, hf⟩ := gds hf
    obtain ⟨vo3, zo3, ho3h, ho3, hf⟩ := rfs3 hf
    refine CV2i dX9_resource_207 (mX9_overlaps hst ho3) tk_1027 iX9_overlaps k2 (by decide) rfl ⟨by decide, by decide⟩ ⟨by decide, by decide⟩ (Nat.le_of_ble_eq_true rfl) ?_
    rcases br hf with ⟨c4, hf⟩ | ⟨c4, hf⟩
    · refine J_if_eq (tgt := 220) dX9_resource_210 (by decide) (fun _ => ?_) (fun w => absurd c4 w)
      refine J.sub (jsub_s (jsub_s (jsub_s (jsub_s (jsub_s (jsub_s (jsub_n (jsub_s (jsub_s (jsub_n (jsub_nil _))))))))))) ?_
      exact wbX9_resource_220 hst _ hq129 hf
    · refine J_if_eq (tgt := 220) dX9_resource_210 (by decide) (fun w => absurd w c4) (fun _ => ?_)
      refine J_iconst (v := 1) dX9_resource_213 (by decide) ?_
      refine J_iload dX9_resource_214 rfl ?_
      refine J_ishl dX9_resource_216 ?_
      refine J_goto (tgt := 221) dX9_resource_217 (by decide) ?_
      refine J.sub (jsub_s (jsub_s (jsub_s (jsub_s (jsub_s (jsub_s (jsub_n (jsub_s (jsub_s (jsub_n (jsub_nil _))))))))))) ?_
      exact wbX9_resource_221 hst _ hq129 hf
theorem wbX9_resource_192 {g : JG} (hst : (jl g).stackTraces = false) (q129 : Nat → Int32 → Int32 → Int32 → Int32 → Int32 → Int32 → Int32 → Int32 → Nat → AH → Option (Int32 × Nat × AH)) (hq129 : ∀ (a0 : Nat) (x1 : Int32) (x2 : Int32) (x3 : Int32) (x4 : Int32) (x5 : Int32) (x6 : Int32) (x7 : Int32) (x8 : Int32) (z : Nat) (h : AH) (o : Int32 × Nat × AH), q129 a0 x1 x2 x3 x4 x5 x6 x7 x8 z h = some o → J g MX9_resource (jN g (some (.int o.1), o.2.1, o.2.2) rmX9_resource.cells rmX9_resource.slots) 129 [some (.ref a0), some (.int x1), some (.int x2), some (.int x3), some (.int x4), some (.int x5), some (.int x6), some (.int x7), some (.int x8), none] [] z h 0 0) {a0 : Nat} {x1 : Int32} {x2 : Int32} {x3 : Int32} {x4 : Int32} {x5 : Int32} {x6 : Int32} {x7 : Int32} {x8 : Int32} {x9 : Int32} {z : Nat} {h : AH} {o : Int32 × Nat × AH} (hf : bX9_resource_192 q129 a0 x1 x2 x3 x4 x5 x6 x7 x8 x9 z h = some o) : J g MX9_resource (jN g (some (.int o.1), o.2.1, o.2.2) rmX9_resource.cells rmX9_resource.slots) 192 [some (.ref a0), some (.int x1), some (.int x2), some (.int x3), some (.int x4), some (.int x5), some (.int x6), some (.int x7), some (.int x8), some (.int x9)] [] z h 0 0 := by
  unfold bX9_resource_192 at hf
  refine J_iload dX9_resource_192 rfl ?_
  refine J.sub (jsub_s (jsub_s (jsub_s (jsub_s (jsub_s (jsub_n (jsub_s (jsub_s (jsub_s (jsub_s (jsub_nil _))))))))))) ?_
  exact wbX9_resource_194 hst _ hq129 hf
theorem wbX9_resource_170 {g : JG} (hst : (jl g).stackTraces = false) (q129 : Nat → Int32 → Int32 → Int32 → Int32 → Int32 → Int32 → Int32 → Int32 → Nat → AH → Option (Int32 × Nat × AH)) (hq129 : ∀ (a0 : Nat) (x1 : Int32) (x2 : Int32) (x3 : Int32) (x4 : Int32) (x5 : Int32) (x6 : Int32) (x7 : Int32) (x8 : Int32) (z : Nat) (h : AH) (o : Int32 × Nat × AH), q129 a0 x1 x2 x3 x4 x5 x6 x7 x8 z h = some o → J g MX9_resource (jN g (some (.int o.1), o.2.1, o.2.2) rmX9_resource.cells rmX9_resource.slots) 129 [some (.ref a0), some (.int x1), some (.int x2), some (.int x3), some (.int x4), some (.int x5), some (.int x6), some (.int x7), some (.int x8), none] [] z h 0 0) {a0 : Nat} {x1 : Int32} {x2 : Int32} {x3 : Int32} {x4 : Int32} {x5 : Int32} {x6 : Int32} {x7 : Int32} {x8 : Int32} {s0 : Int32} {z : Nat} {h : AH} {o : Int32 × Nat × AH} (hf : bX9_resource_170 q129 a0 x1 x2 x3 x4 x5 x6 x7 x8 s0 z h = some o) : J g MX9_resource (jN g (some (.int o.1), o.2.1, o.2.2) rmX9_resource.cells rmX9_resource.slots) 170 [some (.ref a0), some (.int x1), some (.int x2), some (.int x3), some (.int x4), some (.int x5), some (.int x6), some (.int x7), some (.int x8), none] [.int s0] z h 0 0 := by
  unfold bX9_resource_170 at hf
  refine S_istore_9 dX9_resource_170 rfl (by decide) ?_
  refine J_iload dX9_resource_172 rfl ?_
  rcases br hf with ⟨c1, hf⟩ | ⟨c1, hf⟩
  · refine J_if_eq (tgt := 192) dX9_resource_174 (by decide) (fun _ => ?_) (fun w => absurd c1 w)
    refine J.sub (jsub_s (jsub_s (jsub_s (jsub_s (jsub_s (jsub_s (jsub_s (jsub_s (jsub_s (jsub_s (jsub_nil _))))))))))) ?_
    exact wbX9_resource_192 hst _ hq129 hf
  · refine J_if_eq (tgt := 192) dX9_resource_174 (by decide) (fun w => absurd w c1) (fun _ => ?_)
    refine J_aload_n dX9_resource_177 rfl rfl ?_
    refine J_iload_n dX9_resource_178 rfl rfl ?_
    refine J_iload dX9_resource_179 rfl ?_
    obtain ⟨k2, hf⟩ := gds hf
    obtain ⟨vo3, zo3, ho3h, ho3, hf⟩ := rfs3 hf
    refine CV2i dX9_resource_181 (mX9_isBelow hst ho3) tk_1015 iX9_isBelow k2 (by decide) rfl ⟨by decide, by decide⟩ ⟨by decide, by decide⟩ (Nat.le_of_ble_eq_true rfl) ?_
    rcases br hf with ⟨c4, hf⟩ | ⟨c4, hf⟩
    · refine J_if_eq (tgt := 192) dX9_resource_184 (by decide) (fun _ => ?_) (fun w => absurd c4 w)
      refine J.sub (jsub_s (jsub_s (jsub_s (jsub_s (jsub_s (jsub_s (jsub_s (jsub_s (jsub_s (jsub_s (jsub_nil _))))))))))) ?_
      exact wbX9_resource_192 hst _ hq129 hf
    · refine J_if_eq (tgt := 192) dX9_resource_184 (by decide) (fun w => absurd w c4) (fun _ => ?_)
      refine J_iload dX9_resource_187 rfl ?_
      refine J_goto (tgt := 194) dX9_resource_189 (by decide) ?_
      refine J.sub (jsub_s (jsub_s (jsub_s (jsub_s (jsub_s (jsub_n (jsub_s (jsub_s (jsub_s (jsub_s (jsub_nil _))))))))))) ?_
      exact wbX9_resource_194 hst _ hq129 hf
theorem wbX9_resource_169 {g : JG} (hst : (jl g).stackTraces = false) (q129 : Nat → Int32 → Int32 → Int32 → Int32 → Int32 → Int32 → Int32 → Int32 → Nat → AH → Option (Int32 × Nat × AH)) (hq129 : ∀ (a0 : Nat) (x1 : Int32) (x2 : Int32) (x3 : Int32) (x4 : Int32) (x5 : Int32) (x6 : Int32) (x7 : Int32) (x8 : Int32) (z : Nat) (h : AH) (o : Int32 × Nat × AH), q129 a0 x1 x2 x3 x4 x5 x6 x7 x8 z h = some o → J g MX9_resource (jN g (some (.int o.1), o.2.1, o.2.2) rmX9_resource.cells rmX9_resource.slots) 129 [some (.ref a0), some (.int x1), some (.int x2), some (.int x3), some (.int x4), some (.int x5), some (.int x6), some (.int x7), some (.int x8), none] [] z h 0 0) {a0 : Nat} {x1 : Int32} {x2 : Int32} {x3 : Int32} {x4 : Int32} {x5 : Int32} {x6 : Int32} {x7 : Int32} {x8 : Int32} {z : Nat} {h : AH} {o : Int32 × Nat × AH} (hf : bX9_resource_169 q129 a0 x1 x2 x3 x4 x5 x6 x7 x8 z h = some o) : J g MX9_resource (jN g (some (.int o.1), o.2.1, o.2.2) rmX9_resource.cells rmX9_resource.slots) 169 [some (.ref a0), some (.int x1), some (.int x2), some (.int x3), some (.int x4), some (.int x5), some (.int x6), some (.int x7), some (.int x8), none] [] z h 0 0 := by
  unfold bX9_resource_169 at hf
  refine J_iconst (v := 0) dX9_resource_169 (by decide) ?_
  refine J.sub (jsub_s (jsub_s (jsub_s (jsub_s (jsub_s (jsub_s (jsub_s (jsub_s (jsub_s (jsub_n (jsub_nil _))))))))))) ?_
  exact wbX9_resource_170 hst _ hq129 hf
theorem wlX9_resource_129 {g : JG} (hst : (jl g).stackTraces = false) (q121 : Nat → Int32 → Int32 → Int32 → Int32 → Int32 → Int32 → Int32 → Nat → AH → Option (Int32 × Nat × AH)) (hq121 : ∀ (a0 : Nat) (x1 : Int32) (x2 : Int32) (x3 : Int32) (x4 : Int32) (x5 : Int32) (x6 : Int32) (x7 : Int32) (z : Nat) (h : AH) (o : Int32 × Nat × AH), q121 a0 x1 x2 x3 x4 x5 x6 x7 z h = some o → J g MX9_resource (jN g (some (.int o.1), o.2.1, o.2.2) rmX9_resource.cells rmX9_resource.slots) 121 [some (.ref a0), some (.int x1), some (.int x2), some (.int x3), some (.int x4), some (.int x5), some (.int x6), some (.int x7), none, none] [] z h 0 0) : ∀ (fuel : Nat) (a0 : Nat) (x1 : Int32) (x2 : Int32) (x3 : Int32) (x4 : Int32) (x5 : Int32) (x6 : Int32) (x7 : Int32) (x8 : Int32) (z : Nat) (h : AH) (o : Int32 × Nat × AH), lX9_resource_129 q121 fuel a0 x1 x2 x3 x4 x5 x6 x7 x8 z h = some o → J g MX9_resource (jN g (some (.int o.1), o.2.1, o.2.2) rmX9_resource.cells rmX9_resource.slots) 129 [some (.ref a0), some (.int x1), some (.int x2), some (.int x3), some (.int x4), some (.int x5), some (.int x6), some (.int x7), some (.int x8), none] [] z h 0 0 := by
  intro fuel
  induction fuel with
  | zero => intro a0 x1 x2 x3 x4 x5 x6 x7 x8 z h o hf; cases hf
  | succ fuel ih =>
    intro a0 x1 x2 x3 x4 x5 x6 x7 x8 z h o hf
    have hq129 := ih
    have hf : lX9_resource_129B q121 (lX9_resource_129 q121 fuel) a0 x1 x2 x3 x4 x5 x6 x7 x8 z h = some o := hf
    generalize lX9_resource_129 q121 fuel = q129 at hf hq129
    unfold lX9_resource_129B at hf
    refine J_iload dX9_resource_129 rfl ?_
    refine J_aload_n dX9_resource_131 rfl rfl ?_
    obtain ⟨k1, hf⟩ := gds hf
    obtain ⟨b2, rb2, hf⟩ := rfs hf
    refine G_9_0 dX9_resource_132 tk_919 k1 rb2 ?_
    refine J_iconst (v := 0) dX9_resource_135 (by decide) ?_
    obtain ⟨k3, hf⟩ := gds hf
    obtain ⟨n4, hf⟩ := gds hf
    refine J_iaload dX9_resource_136 k3 n4 ?_
    rcases br hf with ⟨c5, hf⟩ | ⟨c5, hf⟩
    · refine J_icmp_ge (tgt := 230) dX9_resource_137 (by decide) (fun _ => ?_) (fun w => absurd c5 w)
      refine S_iinc_7 (v := x7 + (-1)) dX9_resource_230 (congrArg (fun w => x7 + w) (by decide)) rfl (by decide) ?_
      refine J_goto (tgt := 121) dX9_resource_233 (by decide) ?_
      refine J.sub (jsub_s (jsub_s (jsub_s (jsub_s (jsub_s (jsub_s (jsub_s (jsub_s (jsub_n (jsub_n (jsub_nil _))))))))))) ?_
      exact hq121 _ _ _ _ _ _ _ _ _ _ _ hf
    · refine J_icmp_ge (tgt := 230) dX9_resource_137 (by decide) (fun w => absurd w c5) (fun _ => ?_)
      refine J_aload_n dX9_resource_140 rfl rfl ?_
      refine J_iload dX9_resource_141 rfl ?_
      obtain ⟨vo6, zo6, ho6h, ho6, hf⟩ := rfs3 hf
      refine CV1i dX9_resource_143 (mX9_isTask hst ho6) tk_1019 iX9_isTask k1 (by decide) rfl ⟨by decide, by decide⟩ ⟨by decide, by decide⟩ (Nat.le_of_ble_eq_true rfl) ?_
      rcases br hf with ⟨c7, hf⟩ | ⟨c7, hf⟩
      · refine J_if_eq (tgt := 169) dX9_resource_146 (by decide) (fun _ => ?_) (fun w => absurd c7 w)
        refine J.sub (jsub_s (jsub_s (jsub_s (jsub_s (jsub_s (jsub_s (jsub_s (jsub_s (jsub_s (jsub_n (jsub_nil _))))))))))) ?_
        exact wbX9_resource_169 hst _ hq129 hf
      · refine J_if_eq (tgt := 169) dX9_resource_146 (by decide) (fun w => absurd w c7) (fun _ => ?_)
        refine J_aload_n dX9_resource_149 rfl rfl ?_
        refine J_iload dX9_resource_150 rfl ?_
        refine J_iconst (v := 3) dX9_resource_152 (by decide) ?_
        obtain ⟨k8, hf⟩ := gds hf
        obtain ⟨vo9, zo9, ho9h, ho9, hf⟩ := rfs3 hf
        refine CV2i dX9_resource_153 (mX9_of hst ho9) tk_1023 iX9_of k8 (by decide) rfl ⟨by decide, by decide⟩ ⟨by decide, by decide⟩ (Nat.le_of_ble_eq_true rfl) ?_
        refine J_iload dX9_resource_156 rfl ?_
        refine J_ishr dX9_resource_158 ?_
        refine J_iconst (v := 1) dX9_resource_159 (by decide) ?_
        refine J_iand dX9_resource_160 ?_
        refine J_iconst (v := 1) dX9_resource_161 (by decide) ?_
        rcases br hf with ⟨c10, hf⟩ | ⟨c10, hf⟩
        · refine J_icmp_ne (tgt := 169) dX9_resource_162 (by decide) (fun w => absurd c10 w) (fun _ => ?_)
          refine J_iconst (v := 1) dX9_resource_165 (by decide) ?_
          refine J_goto (tgt := 170) dX9_resource_166 (by decide) ?_
          refine J.sub (jsub_s (jsub_s (jsub_s (jsub_s (jsub_s (jsub_s (jsub_s (jsub_s (jsub_s (jsub_n (jsub_nil _))))))))))) ?_
          exact wbX9_resource_170 hst _ hq129 hf
        · refine J_icmp_ne (tgt := 169) dX9_resource_162 (by decide) (fun _ => ?_) (fun w => absurd w c10)
          refine J.sub (jsub_s (jsub_s (jsub_s (jsub_s (jsub_s (jsub_s (jsub_s (jsub_s (jsub_s (jsub_n (jsub_nil _))))))))))) ?_
          exact wbX9_resource_169 hst _ hq129 hf
theorem wlX9_resource_121 {g : JG} (hst : (jl g).stackTraces = false)   : ∀ (fuel : Nat) (a0 : Nat) (x1 : Int32) (x2 : Int32) (x3 : Int32) (x4 : Int32) (x5 : Int32) (x6 : Int32) (x7 : Int32) (z : Nat) (h : AH) (o : Int32 × Nat × AH), lX9_resource_121  fuel a0 x1 x2 x3 x4 x5 x6 x7 z h = some o → J g MX9_resource (jN g (some (.int o.1), o.2.1, o.2.2) rmX9_resource.cells rmX9_resource.slots) 121 [some (.ref a0), some (.int x1), some (.int x2), some (.int x3), some (.int x4), some (.int x5), some (.int x6), some (.int x7), none, none] [] z h 0 0 := by
  intro fuel
  induction fuel with
  | zero => intro a0 x1 x2 x3 x4 x5 x6 x7 z h o hf; cases hf
  | succ fuel ih =>
    intro a0 x1 x2 x3 x4 x5 x6 x7 z h o hf
    have hq121 := ih
    have hf : lX9_resource_121B  (lX9_resource_121  fuel) a0 x1 x2 x3 x4 x5 x6 x7 z h = some o := hf
    generalize lX9_resource_121  fuel = q121 at hf hq121
    unfold lX9_resource_121B at hf
    refine J_iload dX9_resource_121 rfl ?_
    rcases br hf with ⟨c1, hf⟩ | ⟨c1, hf⟩
    · refine J_if_lt (tgt := 236) dX9_resource_123 (by decide) (fun _ => ?_) (fun w => absurd c1 w)
      refine J_iload_n dX9_resource_236 rfl rfl ?_
      rcases br hf with ⟨c2, hf⟩ | ⟨c2, hf⟩
      · refine J_if_ne (tgt := 251) dX9_resource_237 (by decide) (fun w => absurd c2 w) (fun _ => ?_)
        refine J_aload_n dX9_resource_240 rfl rfl ?_
        obtain ⟨k6, hf⟩ := gds hf
        obtain ⟨b7, rb7, hf⟩ := rfs hf
        refine G_9_0 dX9_resource_241 tk_919 k6 rb7 ?_
        refine J_iconst (v := 1) dX9_resource_244 (by decide) ?_
        refine J_iload_n dX9_resource_245 rfl rfl ?_
        refine J_iadd dX9_resource_246 ?_
        obtain ⟨k8, hf⟩ := gds hf
        obtain ⟨n9, hf⟩ := gds hf
        refine J_iaload dX9_resource_247 k8 n9 ?_
        refine J_goto (tgt := 282) dX9_resource_248 (by decide) ?_
        cases hf
        exact J_iretN dX9_resource_282 rfl (by decide) (by decide)
      · refine J_if_ne (tgt := 251) dX9_resource_237 (by decide) (fun _ => ?_) (fun w => absurd w c2)
        refine J_iload_n dX9_resource_251 rfl rfl ?_
        refine J_iconst (v := 1) dX9_resource_252 (by decide) ?_
        rcases br hf with ⟨c3, hf⟩ | ⟨c3, hf⟩
        · refine J_icmp_ne (tgt := 260) dX9_resource_253 (by decide) (fun w => absurd c3 w) (fun _ => ?_)
          refine J_iload_n dX9_resource_256 rfl rfl ?_
          refine J_goto (tgt := 282) dX9_resource_257 (by decide) ?_
          cases hf
          exact J_iretN dX9_resource_282 rfl (by decide) (by decide)
        · refine J_icmp_ne (tgt := 260) dX9_resource_253 (by decide) (fun _ => ?_) (fun w => absurd w c3)
          refine J_iload_n dX9_resource_260 rfl rfl ?_
          refine J_iconst (v := 2) dX9_resource_261 (by decide) ?_
          rcases br hf with ⟨c4, hf⟩ | ⟨c4, hf⟩
          · refine J_icmp_ne (tgt := 270) dX9_resource_262 (by decide) (fun w => absurd c4 w) (fun _ => ?_)
            refine J_iload dX9_resource_265 rfl ?_
            refine J_goto (tgt := 282) dX9_resource_267 (by decide) ?_
            cases hf
            exact J_iretN dX9_resource_282 rfl (by decide) (by decide)
          · refine J_icmp_ne (tgt := 270) dX9_resource_262 (by decide) (fun _ => ?_) (fun w => absurd w c4)
            refine J_iload_n dX9_resource_270 rfl rfl ?_
            refine J_iconst (v := 3) dX9_resource_271 (by decide) ?_
            rcases br hf with ⟨c5, hf⟩ | ⟨c5, hf⟩
            · refine J_icmp_ne (tgt := 280) dX9_resource_272 (by decide) (fun w => absurd c5 w) (fun _ => ?_)
              refine J_iload dX9_resource_275 rfl ?_
              refine J_goto (tgt := 282) dX9_resource_277 (by decide) ?_
              cases hf
              exact J_iretN dX9_resource_282 rfl (by decide) (by decide)
            · refine J_icmp_ne (tgt := 280) dX9_resource_272 (by decide) (fun _ => ?_) (fun w => absurd w c5)
              refine J_iload dX9_resource_280 rfl ?_
              cases hf
              exact J_iretN dX9_resource_282 rfl (by decide) (by decide)
    · refine J_if_lt (tgt := 236) dX9_resource_123 (by decide) (fun w => absurd w c1) (fun _ => ?_)
      refine J_iconst (v := 0) dX9_resource_126 (by decide) ?_
      refine S_istore_8 dX9_resource_127 rfl (by decide) ?_
      refine J.sub (jsub_s (jsub_s (jsub_s (jsub_s (jsub_s (jsub_s (jsub_s (jsub_s (jsub_s (jsub_n (jsub_nil _))))))))))) ?_
      exact wlX9_resource_129 hst _ hq121 _ _ _ _ _ _ _ _ _ _ _ _ _ hf
theorem wbX9_resource_108 {g : JG} (hst : (jl g).stackTraces = false) (q53 : Nat → Int32 → Int32 → Int32 → Int32 → Int32 → Int32 → Int32 → Nat → AH → Option (Int32 × Nat × AH)) (hq53 : ∀ (a0 : Nat) (x1 : Int32) (x2 : Int32) (x3 : Int32) (x4 : Int32) (x5 : Int32) (x6 : Int32) (x7 : Int32) (z : Nat) (h : AH) (o : Int32 × Nat × AH), q53 a0 x1 x2 x3 x4 x5 x6 x7 z h = some o → J g MX9_resource (jN g (some (.int o.1), o.2.1, o.2.2) rmX9_resource.cells rmX9_resource.slots) 53 [some (.ref a0), some (.int x1), some (.int x2), some (.int x3), some (.int x4), some (.int x5), some (.int x6), some (.int x7), none, none] [] z h 0 0) {a0 : Nat} {x1 : Int32} {x2 : Int32} {x3 : Int32} {x5 : Int32} {x6 : Int32} {x7 : Int32} {s0 : Int32} {s1 : Int32} {z : Nat} {h : AH} {o : Int32 × Nat × AH} (hf : bX9_resource_108 q53 a0 x1 x2 x3 x5 x6 x7 s0 s1 z h = some o) : J g MX9_resource (jN g (some (.int o.1), o.2.1, o.2.2) rmX9_resource.cells rmX9_resource.slots) 108 [some (.ref a0), some (.int x1), some (.int x2), some (.int x3), none, some (.int x5), some (.int x6), some (.int x7), none, none] [.int s1, .int s0] z h 0 0 := by
  unfold bX9_resource_108 at hf
  refine J_ior dX9_resource_108 ?_
  obtain ⟨v1, ev1, hf⟩ := bls hf
  refine J_i ev1 ?_
  refine S_istore_4 dX9_resource_109 rfl (by decide) ?_
  refine S_iinc_7 (v := x7 + 1) dX9_resource_111 (congrArg (fun w => x7 + w) (by decide)) rfl (by decide) ?_
  refine J_goto (tgt := 53) dX9_resource_114 (by decide) ?_
  refine J.sub (jsub_s (jsub_s (jsub_s (jsub_s (jsub_s (jsub_s (jsub_s (jsub_s (jsub_n (jsub_n (jsub_nil _))))))))))) ?_
  exact hq53 _ _ _ _ _ _ _ _ _ _ _ hf
theorem wbX9_resource_86 {g : JG} (hst : (jl g).stackTraces = false) (q53 : Nat → Int32 → Int32 → Int32 → Int32 → Int32 → Int32 → Int32 → Nat → AH → Option (Int32 × Nat × AH)) (hq53 : ∀ (a0 : Nat) (x1 : Int32) (x2 : Int32) (x3 : Int32) (x4 : Int32) (x5 : Int32) (x6 : Int32) (x7 : Int32) (z : Nat) (h : AH) (o : Int32 × Nat × AH), q53 a0 x1 x2 x3 x4 x5 x6 x7 z h = some o → J g MX9_resource (jN g (some (.int o.1), o.2.1, o.2.2) rmX9_resource.cells rmX9_resource.slots) 53 [some (.ref a0), some (.int x1), some (.int x2), some (.int x3), some (.int x4), some (.int x5), some (.int x6), some (.int x7), none, none] [] z h 0 0) {a0 : Nat} {x1 : Int32} {x2 : Int32} {x4 : Int32} {x5 : Int32} {x6 : Int32} {x7 : Int32} {s0 : Int32} {s1 : Int32} {z : Nat} {h : AH} {o : Int32 × Nat × AH} (hf : bX9_resource_86 q53 a0 x1 x2 x4 x5 x6 x7 s0 s1 z h = some o) : J g MX9_resource (jN g (some (.int o.1), o.2.1, o.2.2) rmX9_resource.cells rmX9_resource.slots) 86 [some (.ref a0), some (.int x1), some (.int x2), none, some (.int x4), some (.int x5), some (.int x6), some (.int x7), none, none] [.int s1, .int s0] z h 0 0 := by
  unfold bX9_resource_86 at hf
  refine J_iadd dX9_resource_86 ?_
  obtain ⟨v1, ev1, hf⟩ := bls hf
  refine J_i ev1 ?_
  refine S_istore_n_3 dX9_resource_87 rfl (by decide) ?_
  refine J_iload dX9_resource_88 rfl ?_
  refine J_aload_n dX9_resource_90 rfl rfl ?_
  refine J_iload dX9_resource_91 rfl ?_
  refine J_iload_n dX9_resource_93 rfl rfl ?_
  obtain ⟨k2, hf⟩ := gds hf
  obtain ⟨vo3, zo3, ho3h, ho3, hf⟩ := rfs3 hf
  refine CV2i dX9_resource_94 (mX9_isBelow hst ho3) tk_1015 iX9_isBelow k2 (by decide) rfl ⟨by decide, by decide⟩ ⟨by decide, by decide⟩ (Nat.le_of_ble_eq_true rfl) ?_
  rcases br hf with ⟨c4, hf⟩ | ⟨c4, hf⟩
  · refine J_if_eq (tgt := 107) dX9_resource_97 (by decide) (fun _ => ?_) (fun w => absurd c4 w)
    refine J_iconst (v := 0) dX9_resource_107 (by decide) ?_
    refine J.sub (jsub_s (jsub_s (jsub_s (jsub_s (jsub_n (jsub_s (jsub_s (jsub_s (jsub_n (jsub_n (jsub_nil _))))))))))) ?_
    exact wbX9_resource_108 hst _ hq53 hf
  · refine J_if_eq (tgt := 107) dX9_resource_97 (by decide) (fun w => absurd w c4) (fun _ => ?_)
    refine J_iconst (v := 1) dX9_resource_100 (by decide) ?_
    refine J_iload dX9_resource_101 rfl ?_
    refine J_ishl dX9_resource_103 ?_
    refine J_goto (tgt := 108) dX9_resource_104 (by decide) ?_
    refine J.sub (jsub_s (jsub_s (jsub_s (jsub_s (jsub_n (jsub_s (jsub_s (jsub_s (jsub_n (jsub_n (jsub_nil _))))))))))) ?_
    exact wbX9_resource_108 hst _ hq53 hf
theorem wbX9_resource_85 {g : JG} (hst : (jl g).stackTraces = false) (q53 : Nat → Int32 → Int32 → Int32 → Int32 → Int32 → Int32 → Int32 → Nat → AH → Option (Int32 × Nat × AH)) (hq53 : ∀ (a0 : Nat) (x1 : Int32) (x2 : Int32) (x3 : Int32) (x4 : Int32) (x5 : Int32) (x6 : Int32) (x7 : Int32) (z : Nat) (h : AH) (o : Int32 × Nat × AH), q53 a0 x1 x2 x3 x4 x5 x6 x7 z h = some o → J g MX9_resource (jN g (some (.int o.1), o.2.1, o.2.2) rmX9_resource.cells rmX9_resource.slots) 53 [some (.ref a0), some (.int x1), some (.int x2), some (.int x3), some (.int x4), some (.int x5), some (.int x6), some (.int x7), none, none] [] z h 0 0) {a0 : Nat} {x1 : Int32} {x2 : Int32} {x4 : Int32} {x5 : Int32} {x6 : Int32} {x7 : Int32} {s0 : Int32} {z : Nat} {h : AH} {o : Int32 × Nat × AH} (hf : bX9_resource_85 q53 a0 x1 x2 x4 x5 x6 x7 s0 z h = some o) : J g MX9_resource (jN g (some (.int o.1), o.2.1, o.2.2) rmX9_resource.cells rmX9_resource.slots) 85 [some (.ref a0), some (.int x1), some (.int x2), none, some (.int x4), some (.int x5), some (.int x6), some (.int x7), none, none] [.int s0] z h 0 0 := by
  unfold bX9_resource_85 at hf
  refine J_iconst (v := 0) dX9_resource_85 (by decide) ?_
  refine J.sub (jsub_s (jsub_s (jsub_s (jsub_n (jsub_s (jsub_s (jsub_s (jsub_s (jsub_n (jsub_n (jsub_nil _))))))))))) ?_
  exact wbX9_resource_86 hst _ hq53 hf
theorem wlX9_resource_53 {g : JG} (hst : (jl g).stackTraces = false)   : ∀ (fuel : Nat) (a0 : Nat) (x1 : Int32) (x2 : Int32) (x3 : Int32) (x4 : Int32) (x5 : Int32) (x6 : Int32) (x7 : Int32) (z : Nat) (h : AH) (o : Int32 × Nat × AH), lX9_resource_53  fuel a0 x1 x2 x3 x4 x5 x6 x7 z h = some o → J g MX9_resource (jN g (some (.int o.1), o.2.1, o.2.2) rmX9_resource.cells rmX9_resource.slots) 53 [some (.ref a0), some (.int x1), some (.int x2), some (.int x3), some (.int x4), some (.int x5), some (.int x6), some (.int x7), none, none] [] z h 0 0 := by
  intro fuel
  induction fuel with
  | zero => intro a0 x1 x2 x3 x4 x5 x6 x7 z h o hf; cases hf
  | succ fuel ih =>
    intro a0 x1 x2 x3 x4 x5 x6 x7 z h o hf
    have hq53 := ih
    have hf : lX9_resource_53B  (lX9_resource_53  fuel) a0 x1 x2 x3 x4 x5 x6 x7 z h = some o := hf
    generalize lX9_resource_53  fuel = q53 at hf hq53
    unfold lX9_resource_53B at hf
    refine J_iload dX9_resource_53 rfl ?_
    refine J_aload_n dX9_resource_55 rfl rfl ?_
    obtain ⟨k1, hf⟩ := gds hf
    obtain ⟨b2, rb2, hf⟩ := rfs hf
    refine G_9_0 dX9_resource_56 tk_919 k1 rb2 ?_
    refine J_iconst (v := 0) dX9_resource_59 (by decide) ?_
    obtain ⟨k3, hf⟩ := gds hf
    obtain ⟨n4, hf⟩ := gds hf
    refine J_iaload dX9_resource_60 k3 n4 ?_
    rcases br hf with ⟨c5, hf⟩ | ⟨c5, hf⟩
    · refine J_icmp_ge (tgt := 117) dX9_resource_61 (by decide) (fun _ => ?_) (fun w => absurd c5 w)
      refine J_bipush (v := 9) dX9_resource_117 (by decide) ?_
      refine S_istore_7 dX9_resource_119 rfl (by decide) ?_
      refine J.sub (jsub_s (jsub_s (jsub_s (jsub_s (jsub_s (jsub_s (jsub_s (jsub_s (jsub_n (jsub_n (jsub_nil _))))))))))) ?_
      exact wlX9_resource_121 hst   _ _ _ _ _ _ _ _ _ _ _ _ hf
    · refine J_icmp_ge (tgt := 117) dX9_resource_61 (by decide) (fun w => absurd w c5) (fun _ => ?_)
      refine J_iload_n dX9_resource_64 rfl rfl ?_
      refine J_iload dX9_resource_65 rfl ?_
      refine J_iload_n dX9_resource_67 rfl rfl ?_
      rcases br hf with ⟨c6, hf⟩ | ⟨c6, hf⟩
      · refine J_icmp_eq (tgt := 85) dX9_resource_68 (by decide) (fun _ => ?_) (fun w => absurd c6 w)
        refine J.sub (jsub_s (jsub_s (jsub_s (jsub_n (jsub_s (jsub_s (jsub_s (jsub_s (jsub_n (jsub_n (jsub_nil _))))))))))) ?_
        exact wbX9_resource_85 hst _ hq53 hf
      · refine J_icmp_eq (tgt := 85) dX9_resource_68 (by decide) (fun w => absurd w c6) (fun _ => ?_)
        refine J_aload_n dX9_resource_71 rfl rfl ?_
        refine J_iload_n dX9_resource_72 rfl rfl ?_
        refine J_iload dX9_resource_73 rfl ?_
        obtain ⟨vo7, zo7, ho7h, ho7, hf⟩ := rfs3 hf
        refine CV2i dX9_resource_75 (mX9_isBelow hst ho7) tk_1015 iX9_isBelow k1 (by decide) rfl ⟨by decide, by decide⟩ ⟨by decide, by decide⟩ (Nat.le_of_ble_eq_true rfl) ?_
        rcases br hf with ⟨c8, hf⟩ | ⟨c8, hf⟩
        · refine J_if_eq (tgt := 85) dX9_resource_78 (by decide) (fun _ => ?_) (fun w => absurd c8 w)
          refine J.sub (jsub_s (jsub_s (jsub_s (jsub_n (jsub_s (jsub_s (jsub_s (jsub_s (jsub_n (jsub_n (jsub_nil _))))))))))) ?_
          exact wbX9_resource_85 hst _ hq53 hf
        · refine J_if_eq (tgt := 85) dX9_resource_78 (by decide) (fun w => absurd w c8) (fun _ => ?_)
          refine J_iconst (v := 1) dX9_resource_81 (by decide) ?_
          refine J_goto (tgt := 86) dX9_resource_82 (by decide) ?_
          refine J.sub (jsub_s (jsub_s (jsub_s (jsub_n (jsub_s (jsub_s (jsub_s (jsub_s (jsub_n (jsub_n (jsub_nil _))))))))))) ?_
          exact wbX9_resource_86 hst _ hq53 hf
theorem wbX9_resource_27 {g : JG} (hst : (jl g).stackTraces = false)   {a0 : Nat} {x1 : Int32} {x2 : Int32} {u0 : Nat} {s1 : Int32} {z : Nat} {h : AH} {o : Int32 × Nat × AH} (hf : bX9_resource_27  a0 x1 x2 u0 s1 z h = some o) : J g MX9_resource (jN g (some (.int o.1), o.2.1, o.2.2) rmX9_resource.cells rmX9_resource.slots) 27 [some (.ref a0), some (.int x1), some (.int x2), none, none, none, none, none, none, none] [.int s1, .ref u0] z h 0 0 := by
  unfold bX9_resource_27 at hf
  obtain ⟨k1, hf⟩ := gds hf
  refine P_9_6 dX9_resource_27 tk_925 k1 ?_
  obtain ⟨h2, eh2, hf⟩ := bls hf
  refine J_h eh2 ?_
  refine J_aload_n dX9_resource_30 rfl rfl ?_
  obtain ⟨k3, hf⟩ := gds hf
  refine G_9_6 dX9_resource_31 tk_925 k3 ?_
  rcases br hf with ⟨c4, hf⟩ | ⟨c4, hf⟩
  · refine J_if_le (tgt := 39) dX9_resource_34 (by decide) (fun _ => ?_) (fun w => absurd c4 w)
    refine J_iconst (v := 0) dX9_resource_39 (by decide) ?_
    refine S_istore_n_3 dX9_resource_40 rfl (by decide) ?_
    refine J_iconst (v := 0) dX9_resource_41 (by decide) ?_
    refine S_istore_4 dX9_resource_42 rfl (by decide) ?_
    refine J_iconst (v := (-1)) dX9_resource_44 (by decide) ?_
    refine S_istore_5 dX9_resource_45 rfl (by decide) ?_
    refine J_iconst (v := 0) dX9_resource_47 (by decide) ?_
    refine S_istore_6 dX9_resource_48 rfl (by decide) ?_
    refine J_iconst (v := 0) dX9_resource_50 (by decide) ?_
    refine S_istore_7 dX9_resource_51 rfl (by decide) ?_
    refine J.sub (jsub_s (jsub_s (jsub_s (jsub_s (jsub_s (jsub_s (jsub_s (jsub_s (jsub_n (jsub_n (jsub_nil _))))))))))) ?_
    exact wlX9_resource_53 hst   _ _ _ _ _ _ _ _ _ _ _ _ hf
  · refine J_if_le (tgt := 39) dX9_resource_34 (by decide) (fun w => absurd w c4) (fun _ => ?_)
    refine J_iconst (v := 0) dX9_resource_37 (by decide) ?_
    cases hf
    exact J_iretN dX9_resource_38 rfl (by decide) (by decide)
theorem wfX9_resource {g : JG} (hst : (jl g).stackTraces = false)   {a0 : Nat} {x1 : Int32} {x2 : Int32} {z : Nat} {h : AH} {o : Int32 × Nat × AH} (hf : fX9_resource  a0 x1 x2 z h = some o) : J g MX9_resource (jN g (some (.int o.1), o.2.1, o.2.2) rmX9_resource.cells rmX9_resource.slots) 0 [some (.ref a0), some (.int x1), some (.int x2), none, none, none, none, none, none, none] [] z h 0 0 := by
  unfold fX9_resource at hf
  refine J_aload_n dX9_resource_0 rfl rfl ?_
  refine J_aload_n dX9_resource_1 rfl rfl ?_
  refine J_iload_n dX9_resource_2 rfl rfl ?_
  obtain ⟨k1, hf⟩ := gds hf
  obtain ⟨vo2, zo2, ho2h, ho2, hf⟩ := rfs3 hf
  refine CV1i dX9_resource_3 (mX9_isResource hst ho2) tk_992 iX9_isResource k1 (by decide) rfl ⟨by decide, by decide⟩ ⟨by decide, by decide⟩ (Nat.le_of_ble_eq_true rfl) ?_
  rcases br hf with ⟨c3, hf⟩ | ⟨c3, hf⟩
  · refine J_if_ne (tgt := 13) dX9_resource_6 (by decide) (fun w => absurd c3 w) (fun _ => ?_)
    refine J_iconst (v := 1) dX9_resource_9 (by decide) ?_
    refine J_goto (tgt := 27) dX9_resource_10 (by decide) ?_
    refine J.sub (jsub_s (jsub_s (jsub_s (jsub_n (jsub_n (jsub_n (jsub_n (jsub_n (jsub_n (jsub_n (jsub_nil _))))))))))) ?_
    exact wbX9_resource_27 hst   hf
  · refine J_if_ne (tgt := 13) dX9_resource_6 (by decide) (fun _ => ?_) (fun w => absurd w c3)
    refine J_iload_n dX9_resource_13 rfl rfl ?_
    refine J_iconst (v := 0) dX9_resource_14 (by decide) ?_
    refine J_iconst (v := 4) dX9_resource_15 (by decide) ?_
    obtain ⟨vo4, zo4, ho4h, ho4, hf⟩ := rfs3 hf
    refine CS3i (host := "") dX9_resource_16 (mX9_in hst ho4) tk_996 iX9_in ⟨by decide, by decide⟩ ⟨by decide, by decide⟩ (Nat.le_of_ble_eq_true rfl) ?_
    rcases br hf with ⟨c5, hf⟩ | ⟨c5, hf⟩
    · refine J_if_ne (tgt := 26) dX9_resource_19 (by decide) (fun w => absurd c5 w) (fun _ => ?_)
      refine J_iconst (v := 2) dX9_resource_22 (by decide) ?_
      refine J_goto (tgt := 27) dX9_resource_23 (by decide) ?_
      refine J.sub (jsub_s (jsub_s (jsub_s (jsub_n (jsub_n (jsub_n (jsub_n (jsub_n (jsub_n (jsub_n (jsub_nil _))))))))))) ?_
      exact wbX9_resource_27 hst   hf
    · refine J_if_ne (tgt := 26) dX9_resource_19 (by decide) (fun _ => ?_) (fun w => absurd w c5)
      refine J_iconst (v := 0) dX9_resource_26 (by decide) ?_
      refine J.sub (jsub_s (jsub_s (jsub_s (jsub_n (jsub_n (jsub_n (jsub_n (jsub_n (jsub_n (jsub_n (jsub_nil _))))))))))) ?_
      exact wbX9_resource_27 hst   hf
theorem mX9_resource {g : JG} (hst : (jl g).stackTraces = false) {a0 : Nat} {x1 : Int32} {x2 : Int32} {z : Nat} {h : AH} {o : Int32 × Nat × AH} (hf : fX9_resource a0 x1 x2 z h = some o) : jMet g yX9_resource (wj yX9_resource cX9_resource 10 (some .int)) rmX9_resource [.ref a0, .int x1, .int x2] z h (some (.int o.1), o.2.1, o.2.2) :=
  jMet_mk (by decide) (Nat.le_of_ble_eq_true rfl) [some (.ref a0), some (.int x1), some (.int x2), none, none, none, none, none, none, none] rfl (wfX9_resource hst hf)
def bX9_overlap_22  (a0 : Nat) (x1 : Int32) (x2 : Int32) (u0 : Nat) (s1 : Int32) (z : Nat) (h : AH) : Option (Int32 × Nat × AH) :=
  gd (kd h u0 = 10) (bl (wI h u0 6 s1) (fun h2 => gd (kd h2 a0 = 10) ((if (iv h2 a0 6) = 0 then (bd3 (fX9_overlaps a0 x1 x2 z h2) (fun vo5 zo5 ho5h => (if vo5 = 0 then (some (0, zo5, ho5h)) else (some (1, zo5, ho5h))))) else (some (0, z, h2))))))
def bX9_overlap_17  (a0 : Nat) (x1 : Int32) (x2 : Int32) (u0 : Nat) (z : Nat) (h : AH) : Option (Int32 × Nat × AH) :=
  bX9_overlap_22  a0 x1 x2 u0 1 z h
def fX9_overlap  (a0 : Nat) (x1 : Int32) (x2 : Int32) (z : Nat) (h : AH) : Option (Int32 × Nat × AH) :=
  gd (kd h a0 = 10) (bd3 (fX9_isResource a0 x1 z h) (fun vo2 zo2 ho2h => (if vo2 = 0 then (bX9_overlap_17  a0 x1 x2 a0 zo2 ho2h) else (gd (kd ho2h a0 = 10) (bd3 (fX9_isResource a0 x2 zo2 ho2h) (fun vo5 zo5 ho5h => (if vo5 = 0 then (bX9_overlap_17  a0 x1 x2 a0 zo5 ho5h) else (bX9_overlap_22  a0 x1 x2 a0 0 zo5 ho5h))))))))
theorem wbX9_overlap_22 {g : JG} (hst : (jl g).stackTraces = false)   {a0 : Nat} {x1 : Int32} {x2 : Int32} {u0 : Nat} {s1 : Int32} {z : Nat} {h : AH} {o : Int32 × Nat × AH} (hf : bX9_overlap_22  a0 x1 x2 u0 s1 z h = some o) : J g MX9_overlap (jN g (some (.int o.1), o.2.1, o.2.2) rmX9_overlap.cells rmX9_overlap.slots) 22 [some (.ref a0), some (.int x1), some (.int x2)] [.int s1, .ref u0] z h 0 0 := by
  unfold bX9_overlap_22 at hf
  obtain ⟨k1, hf⟩ := gds hf
  refine P_9_6 dX9_overlap_22 tk_925 k1 ?_
  obtain ⟨h2, eh2, hf⟩ := bls hf
  refine J_h eh2 ?_
  refine J_aload_n dX9_overlap_25 rfl rfl ?_
  obtain ⟨k3, hf⟩ := gds hf
  refine G_9_6 dX9_overlap_26 tk_925 k3 ?_
  rcases br hf with ⟨c4, hf⟩ | ⟨c4, hf⟩
  · refine J_if_ne (tgt := 45) dX9_overlap_29 (by decide) (fun w => absurd c4 w) (fun _ => ?_)
    refine J_aload_n dX9_overlap_32 rfl rfl ?_
    refine J_iload_n dX9_overlap_33 rfl rfl ?_
    refine J_iload_n dX9_overlap_34 rfl rfl ?_
    obtain ⟨vo5, zo5, ho5h, ho5, hf⟩ := rfs3 hf
    refine CV2i dX9_overlap_35 (mX9_overlaps hst ho5) tk_1027 iX9_overlaps k3 (by decide) rfl ⟨by decide, by decide⟩ ⟨by decide, by decide⟩ (Nat.le_of_ble_eq_true rfl) ?_
    rcases br hf with ⟨c6, hf⟩ | ⟨c6, hf⟩
    · refine J_if_eq (tgt := 45) dX9_overlap_38 (by decide) (fun _ => ?_) (fun w => absurd c6 w)
      refine J_iconst (v := 0) dX9_overlap_45 (by decide) ?_
      cases hf
      exact J_zretN dX9_overlap_46 rfl (Or.inl rfl) (by decide) (by decide)
    · refine J_if_eq (tgt := 45) dX9_overlap_38 (by decide) (fun w => absurd w c6) (fun _ => ?_)
      refine J_iconst (v := 1) dX9_overlap_41 (by decide) ?_
      refine J_goto (tgt := 46) dX9_overlap_42 (by decide) ?_
      cases hf
      exact J_zretN dX9_overlap_46 rfl (Or.inr rfl) (by decide) (by decide)
  · refine J_if_ne (tgt := 45) dX9_overlap_29 (by decide) (fun _ => ?_) (fun w => absurd w c4)
    refine J_iconst (v := 0) dX9_overlap_45 (by decide) ?_
    cases hf
    exact J_zretN dX9_overlap_46 rfl (Or.inl rfl) (by decide) (by decide)
theorem wbX9_overlap_17 {g : JG} (hst : (jl g).stackTraces = false)   {a0 : Nat} {x1 : Int32} {x2 : Int32} {u0 : Nat} {z : Nat} {h : AH} {o : Int32 × Nat × AH} (hf : bX9_overlap_17  a0 x1 x2 u0 z h = some o) : J g MX9_overlap (jN g (some (.int o.1), o.2.1, o.2.2) rmX9_overlap.cells rmX9_overlap.slots) 17 [some (.ref a0), some (.int x1), some (.int x2)] [.ref u0] z h 0 0 := by
  unfold bX9_overlap_17 at hf
  refine J_iconst (v := 1) dX9_overlap_17 (by decide) ?_
  refine J_goto (tgt := 22) dX9_overlap_18 (by decide) ?_
  refine J.sub (jsub_s (jsub_s (jsub_s (jsub_nil _)))) ?_
  exact wbX9_overlap_22 hst   hf
theorem wfX9_overlap {g : JG} (hst : (jl g).stackTraces = false)   {a0 : Nat} {x1 : Int32} {x2 : Int32} {z : Nat} {h : AH} {o : Int32 × Nat × AH} (hf : fX9_overlap  a0 x1 x2 z h = some o) : J g MX9_overlap (jN g (some (.int o.1), o.2.1, o.2.2) rmX9_overlap.cells rmX9_overlap.slots) 0 [some (.ref a0), some (.int x1), some (.int x2)] [] z h 0 0 := by
  unfold fX9_overlap at hf
  refine J_aload_n dX9_overlap_0 rfl rfl ?_
  refine J_aload_n dX9_overlap_1 rfl rfl ?_
  refine J_iload_n dX9_overlap_2 rfl rfl ?_
  obtain ⟨k1, hf⟩ := gds hf
  obtain ⟨vo2, zo2, ho2h, ho2, hf⟩ := rfs3 hf
  refine CV1i dX9_overlap_3 (mX9_isResource hst ho2) tk_992 iX9_isResource k1 (by decide) rfl ⟨by decide, by decide⟩ ⟨by decide, by decide⟩ (Nat.le_of_ble_eq_true rfl) ?_
  rcases br hf with ⟨c3, hf⟩ | ⟨c3, hf⟩
  · refine J_if_eq (tgt := 17) dX9_overlap_6 (by decide) (fun _ => ?_) (fun w => absurd c3 w)
    refine J.sub (jsub_s (jsub_s (jsub_s (jsub_nil _)))) ?_
    exact wbX9_overlap_17 hst   hf
  · refine J_if_eq (tgt := 17) dX9_overlap_6 (by decide) (fun w => absurd w c3) (fun _ => ?_)
    refine J_aload_n dX9_overlap_9 rfl rfl ?_
    refine J_iload_n dX9_overlap_10 rfl rfl ?_
    obtain ⟨k4, hf⟩ := gds hf
    obtain ⟨vo5, zo5, ho5h, ho5, hf⟩ := rfs3 hf
    refine CV1i dX9_overlap_11 (mX9_isResource hst ho5) tk_992 iX9_isResource k4 (by decide) rfl ⟨by decide, by decide⟩ ⟨by decide, by decide⟩ (Nat.le_of_ble_eq_true rfl) ?_
    rcases br hf with ⟨c6, hf⟩ | ⟨c6, hf⟩
    · refine J_if_ne (tgt := 21) dX9_overlap_14 (by decide) (fun w => absurd c6 w) (fun _ => ?_)
      refine J.sub (jsub_s (jsub_s (jsub_s (jsub_nil _)))) ?_
      exact wbX9_overlap_17 hst   hf
    · refine J_if_ne (tgt := 21) dX9_overlap_14 (by decide) (fun _ => ?_) (fun w => absurd w c6)
      refine J_iconst (v := 0) dX9_overlap_21 (by decide) ?_
      refine J.sub (jsub_s (jsub_s (jsub_s (jsub_nil _)))) ?_
      exact wbX9_overlap_22 hst   hf
theorem mX9_overlap {g : JG} (hst : (jl g).stackTraces = false) {a0 : Nat} {x1 : Int32} {x2 : Int32} {z : Nat} {h : AH} {o : Int32 × Nat × AH} (hf : fX9_overlap a0 x1 x2 z h = some o) : jMet g yX9_overlap (wj yX9_overlap cX9_overlap 3 (some .boolean)) rmX9_overlap [.ref a0, .int x1, .int x2] z h (some (.int o.1), o.2.1, o.2.2) :=
  jMet_mk (by decide) (Nat.le_of_ble_eq_true rfl) [some (.ref a0), some (.int x1), some (.int x2)] rfl (wfX9_overlap hst hf)
def fX9_puts  (a0 : Nat) (x1 : Int32) (x2 : Int32) (x3 : Int32) (z : Nat) (h : AH) : Option (Nat × AH) :=
  gd (kd h a0 = 10) (Option.bind (rv h a0 0) (fun b2 => gd (kd h b2 = 13) (gd (¬ ((((32 + (6 * x1)) + x2) : Int32) < 0 ∨ ln h b2 ≤ Int32.toNatClampNeg ((32 + (6 * x1)) + x2))) (bl (wI h b2 (Int32.toNatClampNeg ((32 + (6 * x1)) + x2)) x3) (fun h5 => some (z, h5))))))
theorem wfX9_puts {g : JG} (hst : (jl g).stackTraces = false)   {a0 : Nat} {x1 : Int32} {x2 : Int32} {x3 : Int32} {z : Nat} {h : AH} {o : Nat × AH} (hf : fX9_puts  a0 x1 x2 x3 z h = some o) : J g MX9_puts (jN g (none, o.1, o.2) rmX9_puts.cells rmX9_puts.slots) 0 [some (.ref a0), some (.int x1), some (.int x2), some (.int x3)] [] z h 0 0 := by
  unfold fX9_puts at hf
  refine J_aload_n dX9_puts_0 rfl rfl ?_
  obtain ⟨k1, hf⟩ := gds hf
  obtain ⟨b2, rb2, hf⟩ := rfs hf
  refine G_9_0 dX9_puts_1 tk_919 k1 rb2 ?_
  refine J_bipush (v := 32) dX9_puts_4 (by decide) ?_
  refine J_bipush (v := 6) dX9_puts_6 (by decide) ?_
  refine J_iload_n dX9_puts_8 rfl rfl ?_
  refine J_imul dX9_puts_9 ?_
  refine J_iadd dX9_puts_10 ?_
  refine J_iload_n dX9_puts_11 rfl rfl ?_
  refine J_iadd dX9_puts_12 ?_
  refine J_iload_n dX9_puts_13 rfl rfl ?_
  obtain ⟨k3, hf⟩ := gds hf
  obtain ⟨n4, hf⟩ := gds hf
  refine J_iastore dX9_puts_14 k3 n4 ?_
  obtain ⟨h5, eh5, hf⟩ := bls hf
  refine J_h eh5 ?_
  cases hf
  exact J_vretN dX9_puts_15 rfl (by decide) (by decide)
theorem mX9_puts {g : JG} (hst : (jl g).stackTraces = false) {a0 : Nat} {x1 : Int32} {x2 : Int32} {x3 : Int32} {z : Nat} {h : AH} {o : Nat × AH} (hf : fX9_puts a0 x1 x2 x3 z h = some o) : jMet g yX9_puts (wj yX9_puts cX9_puts 4 none) rmX9_puts [.ref a0, .int x1, .int x2, .int x3] z h (none, o.1, o.2) :=
  jMet_mk (by decide) (Nat.le_of_ble_eq_true rfl) [some (.ref a0), some (.int x1), some (.int x2), some (.int x3)] rfl (wfX9_puts hst hf)
def bX9_create_48  (a0 : Nat) (x1 : Int32) (x2 : Int32) (u0 : Nat) (s1 : Int32) (z : Nat) (h : AH) : Option (Int32 × Nat × AH) :=
  gd (kd h u0 = 10) (bl (wI h u0 6 s1) (fun h2 => gd (kd h2 a0 = 10) ((if (iv h2 a0 6) ≤ 0 then (bd2 (fX9_begins a0 z h2) (fun zo5 ho5h => gd (kd ho5h a0 = 10) (bd2 (fX9_puts a0 x2 0 1 zo5 ho5h) (fun zo7 ho7h => gd (kd ho7h a0 = 10) (bd2 (fX9_puts a0 x2 1 x1 zo7 ho7h) (fun zo9 ho9h => gd (kd ho9h a0 = 10) (Option.bind (rv ho9h a0 0) (fun b11 => gd (kd ho9h b11 = 13) (gd (¬ ((20 : Int32) < 0 ∨ ln ho9h b11 ≤ Int32.toNatClampNeg 20)) (bd2 (fX9_puts a0 x2 2 (iv ho9h b11 (Int32.toNatClampNeg 20)) zo9 ho9h) (fun zo14 ho14h => gd (kd ho14h a0 = 10) (bd2 (fX9_puts a0 x2 3 0 zo14 ho14h) (fun zo16 ho16h => gd (kd ho16h a0 = 10) (bd2 (fX9_puts a0 x2 4 0 zo16 ho16h) (fun zo18 ho18h => gd (kd ho18h a0 = 10) (Option.bind (rv ho18h a0 0) (fun b20 => gd (kd ho18h b20 = 13) (gd (¬ ((20 : Int32) < 0 ∨ ln ho18h b20 ≤ Int32.toNatClampNeg 20)) (gd (¬ ((20 : Int32) < 0 ∨ ln ho18h b20 ≤ Int32.toNatClampNeg 20)) (bl (wI ho18h b20 (Int32.toNatClampNeg 20) ((iv ho18h b20 (Int32.toNatClampNeg 20)) + 1)) (fun h24 => bd2 (fX9_records a0 zo18 h24) (fun zo26 ho26h => some (x2, zo26, ho26h))))))))))))))))))))))) else (some (0, z, h2))))))
def bX9_create_22  (a0 : Nat) (x1 : Int32) (x2 : Int32) (z : Nat) (h : AH) : Option (Int32 × Nat × AH) :=
  bd3 (fX9_in x1 1 99 z h) (fun vo1 zo1 ho1h => (if vo1 = 0 then (bX9_create_48  a0 x1 x2 a0 1 zo1 ho1h) else ((if x2 = 10 then (bX9_create_48  a0 x1 x2 a0 2 zo1 ho1h) else (bX9_create_48  a0 x1 x2 a0 0 zo1 ho1h)))))
def lX9_create_2B  (q2 : Nat → Int32 → Int32 → Nat → AH → Option (Int32 × Nat × AH)) (a0 : Nat) (x1 : Int32) (x2 : Int32) (z : Nat) (h : AH) : Option (Int32 × Nat × AH) :=
  (if 10 ≤ x2 then (bX9_create_22  a0 x1 x2 z h) else (gd (kd h a0 = 10) (bd3 (fX9_isTask a0 x2 z h) (fun vo3 zo3 ho3h => (if vo3 = 0 then (bX9_create_22  a0 x1 x2 zo3 ho3h) else (q2 a0 x1 (x2 + 1) zo3 ho3h))))))
def lX9_create_2  : Nat → Nat → Int32 → Int32 → Nat → AH → Option (Int32 × Nat × AH)
  | 0 => fun _ _ _ _ _ => none
  | fuel + 1 => lX9_create_2B  (lX9_create_2  fuel)
def fX9_create  (a0 : Nat) (x1 : Int32) (z : Nat) (h : AH) : Option (Int32 × Nat × AH) :=
  lX9_create_2  fu a0 x1 0 z h
theorem wbX9_create_48 {g : JG} (hst : (jl g).stackTraces = false)   {a0 : Nat} {x1 : Int32} {x2 : Int32} {u0 : Nat} {s1 : Int32} {z : Nat} {h : AH} {o : Int32 × Nat × AH} (hf : bX9_create_48  a0 x1 x2 u0 s1 z h = some o) : J g MX9_create (jN g (some (.int o.1), o.2.1, o.2.2) rmX9_create.cells rmX9_create.slots) 48 [some (.ref a0), some (.int x1), some (.int x2)] [.int s1, .ref u0] z h 0 0 := by
  unfold bX9_create_48 at hf
  obtain ⟨k1, hf⟩ := gds hf
  refine P_9_6 dX9_create_48 tk_925 k1 ?_
  obtain ⟨h2, eh2, hf⟩ := bls hf
  refine J_h eh2 ?_
  refine J_aload_n dX9_create_51 rfl rfl ?_
  obtain ⟨k3, hf⟩ := gds hf
  refine G_9_6 dX9_create_52 tk_925 k3 ?_
  rcases br hf with ⟨c4, hf⟩ | ⟨c4, hf⟩
  · refine J_if_le (tgt := 60) dX9_create_55 (by decide) (fun _ => ?_) (fun w => absurd c4 w)
    refine J_aload_n dX9_create_60 rfl rfl ?_
    obtain ⟨zo5, ho5h, ho5, hf⟩ := rfs2 hf
    refine CV0v dX9_create_61 (mX9_begins hst ho5) tk_999 iX9_begins k3 (by decide) rfl ⟨by decide, by decide⟩ ⟨by decide, by decide⟩ (Nat.le_of_ble_eq_true rfl) ?_
    refine J_aload_n dX9_create_64 rfl rfl ?_
    refine J_iload_n dX9_create_65 rfl rfl ?_
    refine J_iconst (v := 0) dX9_create_66 (by decide) ?_
    refine J_iconst (v := 1) dX9_create_67 (by decide) ?_
    obtain ⟨k6, hf⟩ := gds hf
    obtain ⟨zo7, ho7h, ho7, hf⟩ := rfs2 hf
    refine CV3v dX9_create_68 (mX9_puts hst ho7) tk_1039 iX9_puts k6 (by decide) rfl ⟨by decide, by decide⟩ ⟨by decide, by decide⟩ (Nat.le_of_ble_eq_true rfl) ?_
    refine J_aload_n dX9_create_71 rfl rfl ?_
    refine J_iload_n dX9_create_72 rfl rfl ?_
    refine J_iconst (v := 1) dX9_create_73 (by decide) ?_
    refine J_iload_n dX9_create_74 rfl rfl ?_
    obtain ⟨k8, hf⟩ := gds hf
    obtain ⟨zo9, ho9h, ho9, hf⟩ := rfs2 hf
    refine CV3v dX9_create_75 (mX9_puts hst ho9) tk_1039 iX9_puts k8 (by decide) rfl ⟨by decide, by decide⟩ ⟨by decide, by decide⟩ (Nat.le_of_ble_eq_true rfl) ?_
    refine J_aload_n dX9_create_78 rfl rfl ?_
    refine J_iload_n dX9_create_79 rfl rfl ?_
    refine J_iconst (v := 2) dX9_create_80 (by decide) ?_
    refine J_aload_n dX9_create_81 rfl rfl ?_
    obtain ⟨k10, hf⟩ := gds hf
    obtain ⟨b11, rb11, hf⟩ := rfs hf
    refine G_9_0 dX9_create_82 tk_919 k10 rb11 ?_
    refine J_bipush (v := 20) dX9_create_85 (by decide) ?_
    obtain ⟨k12, hf⟩ := gds hf
    obtain ⟨n13, hf⟩ := gds hf
    refine J_iaload dX9_create_87 k12 n13 ?_
    obtain ⟨zo14, ho14h, ho14, hf⟩ := rfs2 hf
    refine CV3v dX9_create_88 (mX9_puts hst ho14) tk_1039 iX9_puts k10 (by decide) rfl ⟨by decide, by decide⟩ ⟨by decide, by decide⟩ (Nat.le_of_ble_eq_true rfl) ?_
    refine J_aload_n dX9_create_91 rfl rfl ?_
    refine J_iload_n dX9_create_92 rfl rfl ?_
    refine J_iconst (v := 3) dX9_create_93 (by decide) ?_
    refine J_iconst (v := 0) dX9_create_94 (by decide) ?_
    obtain ⟨k15, hf⟩ := gds hf
    obtain ⟨zo16, ho16h, ho16, hf⟩ := rfs2 hf
    refine CV3v dX9_create_95 (mX9_puts hst ho16) tk_1039 iX9_puts k15 (by decide) rfl ⟨by decide, by decide⟩ ⟨by decide, by decide⟩ (Nat.le_of_ble_eq_true rfl) ?_
    refine J_aload_n dX9_create_98 rfl rfl ?_
    refine J_iload_n dX9_create_99 rfl rfl ?_
    refine J_iconst (v := 4) dX9_create_100 (by decide) ?_
    refine J_iconst (v := 0) dX9_create_101 (by decide) ?_
    obtain ⟨k17, hf⟩ := gds hf
    obtain ⟨zo18, ho18h, ho18, hf⟩ := rfs2 hf
    refine CV3v dX9_create_102 (mX9_puts hst ho18) tk_1039 iX9_puts k17 (by decide) rfl ⟨by decide, by decide⟩ ⟨by decide, by decide⟩ (Nat.le_of_ble_eq_true rfl) ?_
    refine J_aload_n dX9_create_105 rfl rfl ?_
    obtain ⟨k19, hf⟩ := gds hf
    obtain ⟨b20, rb20, hf⟩ := rfs hf
    refine G_9_0 dX9_create_106 tk_919 k19 rb20 ?_
    refine J_bipush (v := 20) dX9_create_109 (by decide) ?_
    refine J_dup2 dX9_create_111 rfl rfl ?_
    obtain ⟨k21, hf⟩ := gds hf
    obtain ⟨n22, hf⟩ := gds hf
    refine J_iaload dX9_create_112 k21 n22 ?_
    refine J_iconst (v := 1) dX9_create_113 (by decide) ?_
    refine J_iadd dX9_create_114 ?_
    obtain ⟨n23, hf⟩ := gds hf
    refine J_iastore dX9_create_115 k21 n23 ?_
    obtain ⟨h24, eh24, hf⟩ := bls hf
    refine J_h eh24 ?_
    refine J_aload_n dX9_create_116 rfl rfl ?_
    have k25 : kd h24 a0 = 10 := by rw [eh24]; exact k19
    obtain ⟨zo26, ho26h, ho26, hf⟩ := rfs2 hf
    refine CV0v dX9_create_117 (mX9_records hst ho26) tk_1003 iX9_records k25 (by decide) rfl ⟨by decide, by decide⟩ ⟨by decide, by decide⟩ (Nat.le_of_ble_eq_true rfl) ?_
    refine J_iload_n dX9_create_120 rfl rfl ?_
    cases hf
    exact J_iretN dX9_create_121 rfl (by decide) (by decide)
  · refine J_if_le (tgt := 60) dX9_create_55 (by decide) (fun w => absurd w c4) (fun _ => ?_)
    refine J_iconst (v := 0) dX9_create_58 (by decide) ?_
    cases hf
    exact J_iretN dX9_create_59 rfl (by decide) (by decide)
theorem wbX9_create_22 {g : JG} (hst : (jl g).stackTraces = false)   {a0 : Nat} {x1 : Int32} {x2 : Int32} {z : Nat} {h : AH} {o : Int32 × Nat × AH} (hf : bX9_create_22  a0 x1 x2 z h = some o) : J g MX9_create (jN g (some (.int o.1), o.2.1, o.2.2) rmX9_create.cells rmX9_create.slots) 22 [some (.ref a0), some (.int x1), some (.int x2)] [] z h 0 0 := by
  unfold bX9_create_22 at hf
  refine J_aload_n dX9_create_22 rfl rfl ?_
  refine J_iload_n dX9_create_23 rfl rfl ?_
  refine J_iconst (v := 1) dX9_create_24 (by decide) ?_
  refine J_bipush (v := 99) dX9_create_25 (by decide) ?_
  obtain ⟨vo1, zo1, ho1h, ho1, hf⟩ := rfs3 hf
  refine CS3i (host := "") dX9_create_27 (mX9_in hst ho1) tk_996 iX9_in ⟨by decide, by decide⟩ ⟨by decide, by decide⟩ (Nat.le_of_ble_eq_true rfl) ?_
  rcases br hf with ⟨c2, hf⟩ | ⟨c2, hf⟩
  · refine J_if_ne (tgt := 37) dX9_create_30 (by decide) (fun w => absurd c2 w) (fun _ => ?_)
    refine J_iconst (v := 1) dX9_create_33 (by decide) ?_
    refine J_goto (tgt := 48) dX9_create_34 (by decide) ?_
    refine J.sub (jsub_s (jsub_s (jsub_s (jsub_nil _)))) ?_
    exact wbX9_create_48 hst   hf
  · refine J_if_ne (tgt := 37) dX9_create_30 (by decide) (fun _ => ?_) (fun w => absurd w c2)
    refine J_iload_n dX9_create_37 rfl rfl ?_
    refine J_bipush (v := 10) dX9_create_38 (by decide) ?_
    rcases br hf with ⟨c3, hf⟩ | ⟨c3, hf⟩
    · refine J_icmp_ne (tgt := 47) dX9_create_40 (by decide) (fun w => absurd c3 w) (fun _ => ?_)
      refine J_iconst (v := 2) dX9_create_43 (by decide) ?_
      refine J_goto (tgt := 48) dX9_create_44 (by decide) ?_
      refine J.sub (jsub_s (jsub_s (jsub_s (jsub_nil _)))) ?_
      exact wbX9_create_48 hst   hf
    · refine J_icmp_ne (tgt := 47) dX9_create_40 (by decide) (fun _ => ?_) (fun w => absurd w c3)
      refine J_iconst (v := 0) dX9_create_47 (by decide) ?_
      refine J.sub (jsub_s (jsub_s (jsub_s (jsub_nil _)))) ?_
      exact wbX9_create_48 hst   hf
theorem wlX9_create_2 {g : JG} (hst : (jl g).stackTraces = false)   : ∀ (fuel : Nat) (a0 : Nat) (x1 : Int32) (x2 : Int32) (z : Nat) (h : AH) (o : Int32 × Nat × AH), lX9_create_2  fuel a0 x1 x2 z h = some o → J g MX9_create (jN g (some (.int o.1), o.2.1, o.2.2) rmX9_create.cells rmX9_create.slots) 2 [some (.ref a0), some (.int x1), some (.int x2)] [] z h 0 0 := by
  intro fuel
  induction fuel with
  | zero => intro a0 x1 x2 z h o hf; cases hf
  | succ fuel ih =>
    intro a0 x1 x2 z h o hf
    have hq2 := ih
    have hf : lX9_create_2B  (lX9_create_2  fuel) a0 x1 x2 z h = some o := hf
    generalize lX9_create_2  fuel = q2 at hf hq2
    unfold lX9_create_2B at hf
    refine J_iload_n dX9_create_2 rfl rfl ?_
    refine J_bipush (v := 10) dX9_create_3 (by decide) ?_
    rcases br hf with ⟨c1, hf⟩ | ⟨c1, hf⟩
    · refine J_icmp_ge (tgt := 22) dX9_create_5 (by decide) (fun _ => ?_) (fun w => absurd c1 w)
      refine J.sub (jsub_s (jsub_s (jsub_s (jsub_nil _)))) ?_
      exact wbX9_create_22 hst   hf
    · refine J_icmp_ge (tgt := 22) dX9_create_5 (by decide) (fun w => absurd w c1) (fun _ => ?_)
      refine J_aload_n dX9_create_8 rfl rfl ?_
      refine J_iload_n dX9_create_9 rfl rfl ?_
      obtain ⟨k2, hf⟩ := gds hf
      obtain ⟨vo3, zo3, ho3h, ho3, hf⟩ := rfs3 hf
      refine CV1i dX9_create_10 (mX9_isTask hst ho3) tk_1019 iX9_isTask k2 (by decide) rfl ⟨by decide, by decide⟩ ⟨by decide, by decide⟩ (Nat.le_of_ble_eq_true rfl) ?_
      rcases br hf with ⟨c4, hf⟩ | ⟨c4, hf⟩
      · refine J_if_eq (tgt := 22) dX9_create_13 (by decide) (fun _ => ?_) (fun w => absurd c4 w)
        refine J.sub (jsub_s (jsub_s (jsub_s (jsub_nil _)))) ?_
        exact wbX9_create_22 hst   hf
      · refine J_if_eq (tgt := 22) dX9_create_13 (by decide) (fun w => absurd w c4) (fun _ => ?_)
        refine S_iinc_2 (v := x2 + 1) dX9_create_16 (congrArg (fun w => x2 + w) (by decide)) rfl (by decide) ?_
        refine J_goto (tgt := 2) dX9_create_19 (by decide) ?_
        refine J.sub (jsub_s (jsub_s (jsub_s (jsub_nil _)))) ?_
        exact hq2 _ _ _ _ _ _ hf
theorem wfX9_create {g : JG} (hst : (jl g).stackTraces = false)   {a0 : Nat} {x1 : Int32} {z : Nat} {h : AH} {o : Int32 × Nat × AH} (hf : fX9_create  a0 x1 z h = some o) : J g MX9_create (jN g (some (.int o.1), o.2.1, o.2.2) rmX9_create.cells rmX9_create.slots) 0 [some (.ref a0), some (.int x1), none] [] z h 0 0 := by
  unfold fX9_create at hf
  refine J_iconst (v := 0) dX9_create_0 (by decide) ?_
  refine S_istore_n_2 dX9_create_1 rfl (by decide) ?_
  refine J.sub (jsub_s (jsub_s (jsub_s (jsub_nil _)))) ?_
  exact wlX9_create_2 hst   _ _ _ _ _ _ _ hf
theorem mX9_create {g : JG} (hst : (jl g).stackTraces = false) {a0 : Nat} {x1 : Int32} {z : Nat} {h : AH} {o : Int32 × Nat × AH} (hf : fX9_create a0 x1 z h = some o) : jMet g yX9_create (wj yX9_create cX9_create 3 (some .int)) rmX9_create [.ref a0, .int x1] z h (some (.int o.1), o.2.1, o.2.2) :=
  jMet_mk (by decide) (Nat.le_of_ble_eq_true rfl) [some (.ref a0), some (.int x1), none] rfl (wfX9_create hst hf)
def fX9_isRunning  (a0 : Nat) (x1 : Int32) (z : Nat) (h : AH) : Option (Int32 × Nat × AH) :=
  gd (kd h a0 = 10) (bd3 (fX9_isTask a0 x1 z h) (fun vo2 zo2 ho2h => (if vo2 = 0 then (some (0, zo2, ho2h)) else (gd (kd ho2h a0 = 10) (bd3 (fX9_of a0 x1 4 zo2 ho2h) (fun vo5 zo5 ho5h => (if vo5 = 0 then (some (1, zo5, ho5h)) else (some (0, zo5, ho5h)))))))))
theorem wfX9_isRunning {g : JG} (hst : (jl g).stackTraces = false)   {a0 : Nat} {x1 : Int32} {z : Nat} {h : AH} {o : Int32 × Nat × AH} (hf : fX9_isRunning  a0 x1 z h = some o) : J g MX9_isRunning (jN g (some (.int o.1), o.2.1, o.2.2) rmX9_isRunning.cells rmX9_isRunning.slots) 0 [some (.ref a0), some (.int x1)] [] z h 0 0 := by
  unfold fX9_isRunning at hf
  refine J_aload_n dX9_isRunning_0 rfl rfl ?_
  refine J_iload_n dX9_isRunning_1 rfl rfl ?_
  obtain ⟨k1, hf⟩ := gds hf
  obtain ⟨vo2, zo2, ho2h, ho2, hf⟩ := rfs3 hf
  refine CV1i dX9_isRunning_2 (mX9_isTask hst ho2) tk_1019 iX9_isTask k1 (by decide) rfl ⟨by decide, by decide⟩ ⟨by decide, by decide⟩ (Nat.le_of_ble_eq_true rfl) ?_
  rcases br hf with ⟨c3, hf⟩ | ⟨c3, hf⟩
  · refine J_if_eq (tgt := 21) dX9_isRunning_5 (by decide) (fun _ => ?_) (fun w => absurd c3 w)
    refine J_iconst (v := 0) dX9_isRunning_21 (by decide) ?_
    cases hf
    exact J_zretN dX9_isRunning_22 rfl (Or.inl rfl) (by decide) (by decide)
  · refine J_if_eq (tgt := 21) dX9_isRunning_5 (by decide) (fun w => absurd w c3) (fun _ => ?_)
    refine J_aload_n dX9_isRunning_8 rfl rfl ?_
    refine J_iload_n dX9_isRunning_9 rfl rfl ?_
    refine J_iconst (v := 4) dX9_isRunning_10 (by decide) ?_
    obtain ⟨k4, hf⟩ := gds hf
    obtain ⟨vo5, zo5, ho5h, ho5, hf⟩ := rfs3 hf
    refine CV2i dX9_isRunning_11 (mX9_of hst ho5) tk_1023 iX9_of k4 (by decide) rfl ⟨by decide, by decide⟩ ⟨by decide, by decide⟩ (Nat.le_of_ble_eq_true rfl) ?_
    rcases br hf with ⟨c6, hf⟩ | ⟨c6, hf⟩
    · refine J_if_ne (tgt := 21) dX9_isRunning_14 (by decide) (fun w => absurd c6 w) (fun _ => ?_)
      refine J_iconst (v := 1) dX9_isRunning_17 (by decide) ?_
      refine J_goto (tgt := 22) dX9_isRunning_18 (by decide) ?_
      cases hf
      exact J_zretN dX9_isRunning_22 rfl (Or.inr rfl) (by decide) (by decide)
    · refine J_if_ne (tgt := 21) dX9_isRunning_14 (by decide) (fun _ => ?_) (fun w => absurd w c6)
      refine J_iconst (v := 0) dX9_isRunning_21 (by decide) ?_
      cases hf
      exact J_zretN dX9_isRunning_22 rfl (Or.inl rfl) (by decide) (by decide)
theorem mX9_isRunning {g : JG} (hst : (jl g).stackTraces = false) {a0 : Nat} {x1 : Int32} {z : Nat} {h : AH} {o : Int32 × Nat × AH} (hf : fX9_isRunning a0 x1 z h = some o) : jMet g yX9_isRunning (wj yX9_isRunning cX9_isRunning 2 (some .boolean)) rmX9_isRunning [.ref a0, .int x1] z h (some (.int o.1), o.2.1, o.2.2) :=
  jMet_mk (by decide) (Nat.le_of_ble_eq_true rfl) [some (.ref a0), some (.int x1)] rfl (wfX9_isRunning hst hf)
def fX9_requestFault  (a0 : Nat) (x1 : Int32) (x2 : Int32) (z : Nat) (h : AH) : Option (Int32 × Nat × AH) :=
  gd (kd h a0 = 10) (bd3 (fX9_isTask a0 x1 z h) (fun vo2 zo2 ho2h => (if vo2 = 0 then (some (1, zo2, ho2h)) else (gd (kd ho2h a0 = 10) (bd3 (fX9_isResource a0 x2 zo2 ho2h) (fun vo5 zo5 ho5h => (if vo5 = 0 then (some (1, zo5, ho5h)) else (gd (kd ho5h a0 = 10) (bd3 (fX9_isRunning a0 x1 zo5 ho5h) (fun vo8 zo8 ho8h => (if vo8 = 0 then (some (2, zo8, ho8h)) else (some (0, zo8, ho8h)))))))))))))
theorem wfX9_requestFault {g : JG} (hst : (jl g).stackTraces = false)   {a0 : Nat} {x1 : Int32} {x2 : Int32} {z : Nat} {h : AH} {o : Int32 × Nat × AH} (hf : fX9_requestFault  a0 x1 x2 z h = some o) : J g MX9_requestFault (jN g (some (.int o.1), o.2.1, o.2.2) rmX9_requestFault.cells rmX9_requestFault.slots) 0 [some (.ref a0), some (.int x1), some (.int x2)] [] z h 0 0 := by
  unfold fX9_requestFault at hf
  refine J_aload_n dX9_requestFault_0 rfl rfl ?_
  refine J_iload_n dX9_requestFault_1 rfl rfl ?_
  obtain ⟨k1, hf⟩ := gds hf
  obtain ⟨vo2, zo2, ho2h, ho2, hf⟩ := rfs3 hf
  refine CV1i dX9_requestFault_2 (mX9_isTask hst ho2) tk_1019 iX9_isTask k1 (by decide) rfl ⟨by decide, by decide⟩ ⟨by decide, by decide⟩ (Nat.le_of_ble_eq_true rfl) ?_
  rcases br hf with ⟨c3, hf⟩ | ⟨c3, hf⟩
  · refine J_if_eq (tgt := 16) dX9_requestFault_5 (by decide) (fun _ => ?_) (fun w => absurd c3 w)
    refine J_iconst (v := 1) dX9_requestFault_16 (by decide) ?_
    refine J_goto (tgt := 33) dX9_requestFault_17 (by decide) ?_
    cases hf
    exact J_iretN dX9_requestFault_33 rfl (by decide) (by decide)
  · refine J_if_eq (tgt := 16) dX9_requestFault_5 (by decide) (fun w => absurd w c3) (fun _ => ?_)
    refine J_aload_n dX9_requestFault_8 rfl rfl ?_
    refine J_iload_n dX9_requestFault_9 rfl rfl ?_
    obtain ⟨k4, hf⟩ := gds hf
    obtain ⟨vo5, zo5, ho5h, ho5, hf⟩ := rfs3 hf
    refine CV1i dX9_requestFault_10 (mX9_isResource hst ho5) tk_992 iX9_isResource k4 (by decide) rfl ⟨by decide, by decide⟩ ⟨by decide, by decide⟩ (Nat.le_of_ble_eq_true rfl) ?_
    rcases br hf with ⟨c6, hf⟩ | ⟨c6, hf⟩
    · refine J_if_ne (tgt := 20) dX9_requestFault_13 (by decide) (fun w => absurd c6 w) (fun _ => ?_)
      refine J_iconst (v := 1) dX9_requestFault_16 (by decide) ?_
      refine J_goto (tgt := 33) dX9_requestFault_17 (by decide) ?_
      cases hf
      exact J_iretN dX9_requestFault_33 rfl (by decide) (by decide)
    · refine J_if_ne (tgt := 20) dX9_requestFault_13 (by decide) (fun _ => ?_) (fun w => absurd w c6)
      refine J_aload_n dX9_requestFault_20 rfl rfl ?_
      refine J_iload_n dX9_requestFault_21 rfl rfl ?_
      obtain ⟨k7, hf⟩ := gds hf
      obtain ⟨vo8, zo8, ho8h, ho8, hf⟩ := rfs3 hf
      refine CV1i dX9_requestFault_22 (mX9_isRunning hst ho8) tk_1051 iX9_isRunning k7 (by decide) rfl ⟨by decide, by decide⟩ ⟨by decide, by decide⟩ (Nat.le_of_ble_eq_true rfl) ?_
      rcases br hf with ⟨c9, hf⟩ | ⟨c9, hf⟩
      · refine J_if_ne (tgt := 32) dX9_requestFault_25 (by decide) (fun w => absurd c9 w) (fun _ => ?_)
        refine J_iconst (v := 2) dX9_requestFault_28 (by decide) ?_
        refine J_goto (tgt := 33) dX9_requestFault_29 (by decide) ?_
        cases hf
        exact J_iretN dX9_requestFault_33 rfl (by decide) (by decide)
      · refine J_if_ne (tgt := 32) dX9_requestFault_25 (by decide) (fun _ => ?_) (fun w => absurd w c9)
        refine J_iconst (v := 0) dX9_requestFault_32 (by decide) ?_
        cases hf
        exact J_iretN dX9_requestFault_33 rfl (by decide) (by decide)
theorem mX9_requestFault {g : JG} (hst : (jl g).stackTraces = false) {a0 : Nat} {x1 : Int32} {x2 : Int32} {z : Nat} {h : AH} {o : Int32 × Nat × AH} (hf : fX9_requestFault a0 x1 x2 z h = some o) : jMet g yX9_requestFault (wj yX9_requestFault cX9_requestFault 3 (some .int)) rmX9_requestFault [.ref a0, .int x1, .int x2] z h (some (.int o.1), o.2.1, o.2.2) :=
  jMet_mk (by decide) (Nat.le_of_ble_eq_true rfl) [some (.ref a0), some (.int x1), some (.int x2)] rfl (wfX9_requestFault hst hf)
def bX9_isOver_50 (q5 : Nat → Int32 → Int32 → Int32 → Int32 → Nat → AH → Option (Int32 × Nat × AH)) (a0 : Nat) (x1 : Int32) (x2 : Int32) (x4 : Int32) (s0 : Int32) (z : Nat) (h : AH) : Option (Int32 × Nat × AH) :=
  q5 a0 x1 x2 s0 (x4 + 1) z h
def bX9_isOver_49 (q5 : Nat → Int32 → Int32 → Int32 → Int32 → Nat → AH → Option (Int32 × Nat × AH)) (a0 : Nat) (x1 : Int32) (x2 : Int32) (x4 : Int32) (z : Nat) (h : AH) : Option (Int32 × Nat × AH) :=
  bX9_isOver_50 q5 a0 x1 x2 x4 0 z h
def bX9_isOver_45 (q5 : Nat → Int32 → Int32 → Int32 → Int32 → Nat → AH → Option (Int32 × Nat × AH)) (a0 : Nat) (x1 : Int32) (x2 : Int32) (x4 : Int32) (z : Nat) (h : AH) : Option (Int32 × Nat × AH) :=
  bX9_isOver_50 q5 a0 x1 x2 x4 1 z h
def lX9_isOver_5B  (q5 : Nat → Int32 → Int32 → Int32 → Int32 → Nat → AH → Option (Int32 × Nat × AH)) (a0 : Nat) (x1 : Int32) (x2 : Int32) (x3 : Int32) (x4 : Int32) (z : Nat) (h : AH) : Option (Int32 × Nat × AH) :=
  gd (kd h a0 = 10) (Option.bind (rv h a0 0) (fun b2 => gd (kd h b2 = 13) (gd (¬ ((0 : Int32) < 0 ∨ ln h b2 ≤ Int32.toNatClampNeg 0)) ((if (iv h b2 (Int32.toNatClampNeg 0)) ≤ x4 then (gd (x3 = 0 ∨ x3 = 1) (some (x3, z, h))) else ((if x3 = 0 then (bd3 (fX9_of a0 x1 3 z h) (fun vo7 zo7 ho7h => (if ((vo7 >>> (x4 &&& 31)) &&& 1) = 1 then (gd (kd ho7h a0 = 10) (bd3 (fX9_isBelow a0 x2 x4 zo7 ho7h) (fun vo10 zo10 ho10h => (if vo10 = 0 then (bX9_isOver_49 q5 a0 x1 x2 x4 zo10 ho10h) else (bX9_isOver_45 q5 a0 x1 x2 x4 zo10 ho10h))))) else (bX9_isOver_49 q5 a0 x1 x2 x4 zo7 ho7h)))) else (bX9_isOver_45 q5 a0 x1 x2 x4 z h))))))))
def lX9_isOver_5  : Nat → Nat → Int32 → Int32 → Int32 → Int32 → Nat → AH → Option (Int32 × Nat × AH)
  | 0 => fun _ _ _ _ _ _ _ => none
  | fuel + 1 => lX9_isOver_5B  (lX9_isOver_5  fuel)
def fX9_isOver  (a0 : Nat) (x1 : Int32) (x2 : Int32) (z : Nat) (h : AH) : Option (Int32 × Nat × AH) :=
  lX9_isOver_5  fu a0 x1 x2 0 0 z h
theorem wbX9_isOver_50 {g : JG} (hst : (jl g).stackTraces = false) (q5 : Nat → Int32 → Int32 → Int32 → Int32 → Nat → AH → Option (Int32 × Nat × AH)) (hq5 : ∀ (a0 : Nat) (x1 : Int32) (x2 : Int32) (x3 : Int32) (x4 : Int32) (z : Nat) (h : AH) (o : Int32 × Nat × AH), q5 a0 x1 x2 x3 x4 z h = some o → J g MX9_isOver (jN g (some (.int o.1), o.2.1, o.2.2) rmX9_isOver.cells rmX9_isOver.slots) 5 [some (.ref a0), some (.int x1), some (.int x2), some (.int x3), some (.int x4)] [] z h 0 0) {a0 : Nat} {x1 : Int32} {x2 : Int32} {x4 : Int32} {s0 : Int32} {z : Nat} {h : AH} {o : Int32 × Nat × AH} (hf : bX9_isOver_50 q5 a0 x1 x2 x4 s0 z h = some o) : J g MX9_isOver (jN g (some (.int o.1), o.2.1, o.2.2) rmX9_isOver.cells rmX9_isOver.slots) 50 [some (.ref a0), some (.int x1), some (.int x2), none, some (.int x4)] [.int s0] z h 0 0 := by
  unfold bX9_isOver_50 at hf
  refine S_istore_n_3 dX9_isOver_50 rfl (by decide) ?_
  refine S_iinc_4 (v := x4 + 1) dX9_isOver_51 (congrArg (fun w => x4 + w) (by decide)) rfl (by decide) ?_
  refine J_goto (tgt := 5) dX9_isOver_54 (by decide) ?_
  refine J.sub (jsub_s (jsub_s (jsub_s (jsub_s (jsub_s (jsub_nil _)))))) ?_
  exact hq5 _ _ _ _ _ _ _ _ hf
theorem wbX9_isOver_49 {g : JG} (hst : (jl g).stackTraces = false) (q5 : Nat → Int32 → Int32 → Int32 → Int32 → Nat → AH → Option (Int32 × Nat × AH)) (hq5 : ∀ (a0 : Nat) (x1 : Int32) (x2 : Int32) (x3 : Int32) (x4 : Int32) (z : Nat) (h : AH) (o : Int32 × Nat × AH), q5 a0 x1 x2 x3 x4 z h = some o → J g MX9_isOver (jN g (some (.int o.1), o.2.1, o.2.2) rmX9_isOver.cells rmX9_isOver.slots) 5 [some (.ref a0), some (.int x1), some (.int x2), some (.int x3), some (.int x4)] [] z h 0 0) {a0 : Nat} {x1 : Int32} {x2 : Int32} {x4 : Int32} {z : Nat} {h : AH} {o : Int32 × Nat × AH} (hf : bX9_isOver_49 q5 a0 x1 x2 x4 z h = some o) : J g MX9_isOver (jN g (some (.int o.1), o.2.1, o.2.2) rmX9_isOver.cells rmX9_isOver.slots) 49 [some (.ref a0), some (.int x1), some (.int x2), none, some (.int x4)] [] z h 0 0 := by
  unfold bX9_isOver_49 at hf
  refine J_iconst (v := 0) dX9_isOver_49 (by decide) ?_
  refine J.sub (jsub_s (jsub_s (jsub_s (jsub_n (jsub_s (jsub_nil _)))))) ?_
  exact wbX9_isOver_50 hst _ hq5 hf
theorem wbX9_isOver_45 {g : JG} (hst : (jl g).stackTraces = false) (q5 : Nat → Int32 → Int32 → Int32 → Int32 → Nat → AH → Option (Int32 × Nat × AH)) (hq5 : ∀ (a0 : Nat) (x1 : Int32) (x2 : Int32) (x3 : Int32) (x4 : Int32) (z : Nat) (h : AH) (o : Int32 × Nat × AH), q5 a0 x1 x2 x3 x4 z h = some o → J g MX9_isOver (jN g (some (.int o.1), o.2.1, o.2.2) rmX9_isOver.cells rmX9_isOver.slots) 5 [some (.ref a0), some (.int x1), some (.int x2), some (.int x3), some (.int x4)] [] z h 0 0) {a0 : Nat} {x1 : Int32} {x2 : Int32} {x4 : Int32} {z : Nat} {h : AH} {o : Int32 × Nat × AH} (hf : bX9_isOver_45 q5 a0 x1 x2 x4 z h = some o) : J g MX9_isOver (jN g (some (.int o.1), o.2.1, o.2.2) rmX9_isOver.cells rmX9_isOver.slots) 45 [some (.ref a0), some (.int x1), some (.int x2), none, some (.int x4)] [] z h 0 0 := by
  unfold bX9_isOver_45 at hf
  refine J_iconst (v := 1) dX9_isOver_45 (by decide) ?_
  refine J_goto (tgt := 50) dX9_isOver_46 (by decide) ?_
  refine J.sub (jsub_s (jsub_s (jsub_s (jsub_n (jsub_s (jsub_nil _)))))) ?_
  exact wbX9_isOver_50 hst _ hq5 hf
theorem wlX9_isOver_5 {g : JG} (hst : (jl g).stackTraces = false)   : ∀ (fuel : Nat) (a0 : Nat) (x1 : Int32) (x2 : Int32) (x3 : Int32) (x4 : Int32) (z : Nat) (h : AH) (o : Int32 × Nat × AH), lX9_isOver_5  fuel a0 x1 x2 x3 x4 z h = some o → J g MX9_isOver (jN g (some (.int o.1), o.2.1, o.2.2) rmX9_isOver.cells rmX9_isOver.slots) 5 [some (.ref a0), some (.int x1), some (.int x2), some (.int x3), some (.int x4)] [] z h 0 0 := by
  intro fuel
  induction fuel with
  | zero => intro a0 x1 x2 x3 x4 z h o hf; cases hf
  | succ fuel ih =>
    intro a0 x1 x2 x3 x4 z h o hf
    have hq5 := ih
    have hf : lX9_isOver_5B  (lX9_isOver_5  fuel) a0 x1 x2 x3 x4 z h = some o := hf
    generalize lX9_isOver_5  fuel = q5 at hf hq5
    unfold lX9_isOver_5B at hf
    refine J_iload dX9_isOver_5 rfl ?_
    refine J_aload_n dX9_isOver_7 rfl rfl ?_
    obtain ⟨k1, hf⟩ := gds hf
    obtain ⟨b2, rb2, hf⟩ := rfs hf
    refine G_9_0 dX9_isOver_8 tk_919 k1 rb2 ?_
    refine J_iconst (v := 0) dX9_isOver_11 (by decide) ?_
    obtain ⟨k3, hf⟩ := gds hf
    obtain ⟨n4, hf⟩ := gds hf
    refine J_iaload dX9_isOver_12 k3 n4 ?_
    rcases br hf with ⟨c5, hf⟩ | ⟨c5, hf⟩
    · refine J_icmp_ge (tgt := 57) dX9_isOver_13 (by decide) (fun _ => ?_) (fun w => absurd c5 w)
      refine J_iload_n dX9_isOver_57 rfl rfl ?_
      obtain ⟨z9, hf⟩ := gds hf
      cases hf
      exact J_zretN dX9_isOver_58 rfl z9 (by decide) (by decide)
    · refine J_icmp_ge (tgt := 57) dX9_isOver_13 (by decide) (fun w => absurd w c5) (fun _ => ?_)
      refine J_iload_n dX9_isOver_16 rfl rfl ?_
      rcases br hf with ⟨c6, hf⟩ | ⟨c6, hf⟩
      · refine J_if_ne (tgt := 45) dX9_isOver_17 (by decide) (fun w => absurd c6 w) (fun _ => ?_)
        refine J_aload_n dX9_isOver_20 rfl rfl ?_
        refine J_iload_n dX9_isOver_21 rfl rfl ?_
        refine J_iconst (v := 3) dX9_isOver_22 (by decide) ?_
        obtain ⟨vo7, zo7, ho7h, ho7, hf⟩ := rfs3 hf
        refine CV2i dX9_isOver_23 (mX9_of hst ho7) tk_1023 iX9_of k1 (by decide) rfl ⟨by decide, by decide⟩ ⟨by decide, by decide⟩ (Nat.le_of_ble_eq_true rfl) ?_
        refine J_iload dX9_isOver_26 rfl ?_
        refine J_ishr dX9_isOver_28 ?_
        refine J_iconst (v := 1) dX9_isOver_29 (by decide) ?_
        refine J_iand dX9_isOver_30 ?_
        refine J_iconst (v := 1) dX9_isOver_31 (by decide) ?_
        rcases br hf with ⟨c8, hf⟩ | ⟨c8, hf⟩
        · refine J_icmp_ne (tgt := 49) dX9_isOver_32 (by decide) (fun w => absurd c8 w) (fun _ => ?_)
          refine J_aload_n dX9_isOver_35 rfl rfl ?_
          refine J_iload_n dX9_isOver_36 rfl rfl ?_
          refine J_iload dX9_isOver_37 rfl ?_
          obtain ⟨k9, hf⟩ := gds hf
          obtain ⟨vo10, zo10, ho10h, ho10, hf⟩ := rfs3 hf
          refine CV2i dX9_isOver_39 (mX9_isBelow hst ho10) tk_1015 iX9_isBelow k9 (by decide) rfl ⟨by decide, by decide⟩ ⟨by decide, by decide⟩ (Nat.le_of_ble_eq_true rfl) ?_
          rcases br hf with ⟨c11, hf⟩ | ⟨c11, hf⟩
          · refine J_if_eq (tgt := 49) dX9_isOver_42 (by decide) (fun _ => ?_) (fun w => absurd c11 w)
            refine J.sub (jsub_s (jsub_s (jsub_s (jsub_n (jsub_s (jsub_nil _)))))) ?_
            exact wbX9_isOver_49 hst _ hq5 hf
          · refine J_if_eq (tgt := 49) dX9_isOver_42 (by decide) (fun w => absurd w c11) (fun _ => ?_)
            refine J.sub (jsub_s (jsub_s (jsub_s (jsub_n (jsub_s (jsub_nil _)))))) ?_
            exact wbX9_isOver_45 hst _ hq5 hf
        · refine J_icmp_ne (tgt := 49) dX9_isOver_32 (by decide) (fun _ => ?_) (fun w => absurd w c8)
          refine J.sub (jsub_s (jsub_s (jsub_s (jsub_n (jsub_s (jsub_nil _)))))) ?_
          exact wbX9_isOver_49 hst _ hq5 hf
      · refine J_if_ne (tgt := 45) dX9_isOver_17 (by decide) (fun _ => ?_) (fun w => absurd w c6)
        refine J.sub (jsub_s (jsub_s (jsub_s (jsub_n (jsub_s (jsub_nil _)))))) ?_
        exact wbX9_isOver_45 hst _ hq5 hf
theorem wfX9_isOver {g : JG} (hst : (jl g).stackTraces = false)   {a0 : Nat} {x1 : Int32} {x2 : Int32} {z : Nat} {h : AH} {o : Int32 × Nat × AH} (hf : fX9_isOver  a0 x1 x2 z h = some o) : J g MX9_isOver (jN g (some (.int o.1), o.2.1, o.2.2) rmX9_isOver.cells rmX9_isOver.slots) 0 [some (.ref a0), some (.int x1), some (.int x2), none, none] [] z h 0 0 := by
  unfold fX9_isOver at hf
  refine J_iconst (v := 0) dX9_isOver_0 (by decide) ?_
  refine S_istore_n_3 dX9_isOver_1 rfl (by decide) ?_
  refine J_iconst (v := 0) dX9_isOver_2 (by decide) ?_
  refine S_istore_4 dX9_isOver_3 rfl (by decide) ?_
  refine J.sub (jsub_s (jsub_s (jsub_s (jsub_s (jsub_s (jsub_nil _)))))) ?_
  exact wlX9_isOver_5 hst   _ _ _ _ _ _ _ _ _ hf
theorem mX9_isOver {g : JG} (hst : (jl g).stackTraces = false) {a0 : Nat} {x1 : Int32} {x2 : Int32} {z : Nat} {h : AH} {o : Int32 × Nat × AH} (hf : fX9_isOver a0 x1 x2 z h = some o) : jMet g yX9_isOver (wj yX9_isOver cX9_isOver 5 (some .boolean)) rmX9_isOver [.ref a0, .int x1, .int x2] z h (some (.int o.1), o.2.1, o.2.2) :=
  jMet_mk (by decide) (Nat.le_of_ble_eq_true rfl) [some (.ref a0), some (.int x1), some (.int x2), none, none] rfl (wfX9_isOver hst hf)
def bX9_inTheWay_84 (q5 : Nat → Int32 → Int32 → Int32 → Int32 → Nat → AH → Option (Int32 × Nat × AH)) (a0 : Nat) (x1 : Int32) (x2 : Int32) (x3 : Int32) (x4 : Int32) (z : Nat) (h : AH) : Option (Int32 × Nat × AH) :=
  q5 a0 x1 x2 x3 (x4 + 1) z h
def bX9_inTheWay_76 (q15 : Nat → Int32 → Int32 → Int32 → Int32 → Int32 → Nat → AH → Option (Int32 × Nat × AH)) (a0 : Nat) (x1 : Int32) (x2 : Int32) (x4 : Int32) (x5 : Int32) (s0 : Int32) (s1 : Int32) (z : Nat) (h : AH) : Option (Int32 × Nat × AH) :=
  bl ((s0 ||| s1)) (fun v1 => q15 a0 x1 x2 v1 x4 (x5 + 1) z h)
def bX9_inTheWay_75 (q15 : Nat → Int32 → Int32 → Int32 → Int32 → Int32 → Nat → AH → Option (Int32 × Nat × AH)) (a0 : Nat) (x1 : Int32) (x2 : Int32) (x4 : Int32) (x5 : Int32) (s0 : Int32) (z : Nat) (h : AH) : Option (Int32 × Nat × AH) :=
  bX9_inTheWay_76 q15 a0 x1 x2 x4 x5 s0 0 z h
def lX9_inTheWay_15B (q5 : Nat → Int32 → Int32 → Int32 → Int32 → Nat → AH → Option (Int32 × Nat × AH)) (q15 : Nat → Int32 → Int32 → Int32 → Int32 → Int32 → Nat → AH → Option (Int32 × Nat × AH)) (a0 : Nat) (x1 : Int32) (x2 : Int32) (x3 : Int32) (x4 : Int32) (x5 : Int32) (z : Nat) (h : AH) : Option (Int32 × Nat × AH) :=
  gd (kd h a0 = 10) (Option.bind (rv h a0 0) (fun b2 => gd (kd h b2 = 13) (gd (¬ ((0 : Int32) < 0 ∨ ln h b2 ≤ Int32.toNatClampNeg 0)) ((if (iv h b2 (Int32.toNatClampNeg 0)) ≤ x5 then (bX9_inTheWay_84 q5 a0 x1 x2 x3 x4 z h) else ((if x4 = x1 then (bX9_inTheWay_84 q5 a0 x1 x2 x3 x4 z h) else (bd3 (fX9_isTask a0 x4 z h) (fun vo7 zo7 ho7h => (if vo7 = 0 then (bX9_inTheWay_84 q5 a0 x1 x2 x3 x4 zo7 ho7h) else (gd (kd ho7h a0 = 10) (bd3 (fX9_of a0 x4 3 zo7 ho7h) (fun vo10 zo10 ho10h => (if ((vo10 >>> (x5 &&& 31)) &&& 1) = 1 then (gd (kd ho10h a0 = 10) (bd3 (fX9_overlaps a0 x2 x5 zo10 ho10h) (fun vo13 zo13 ho13h => (if vo13 = 0 then (bX9_inTheWay_75 q15 a0 x1 x2 x4 x5 x3 zo13 ho13h) else (bX9_inTheWay_76 q15 a0 x1 x2 x4 x5 x3 (1 <<< (x4 &&& 31)) zo13 ho13h))))) else (bX9_inTheWay_75 q15 a0 x1 x2 x4 x5 x3 zo10 ho10h)))))))))))))))
def lX9_inTheWay_15 (q5 : Nat → Int32 → Int32 → Int32 → Int32 → Nat → AH → Option (Int32 × Nat × AH)) : Nat → Nat → Int32 → Int32 → Int32 → Int32 → Int32 → Nat → AH → Option (Int32 × Nat × AH)
  | 0 => fun _ _ _ _ _ _ _ _ => none
  | fuel + 1 => lX9_inTheWay_15B q5 (lX9_inTheWay_15 q5 fuel)
def lX9_inTheWay_5B  (q5 : Nat → Int32 → Int32 → Int32 → Int32 → Nat → AH → Option (Int32 × Nat × AH)) (a0 : Nat) (x1 : Int32) (x2 : Int32) (x3 : Int32) (x4 : Int32) (z : Nat) (h : AH) : Option (Int32 × Nat × AH) :=
  (if 10 ≤ x4 then (some (x3, z, h)) else (lX9_inTheWay_15 q5 fu a0 x1 x2 x3 x4 0 z h))
def lX9_inTheWay_5  : Nat → Nat → Int32 → Int32 → Int32 → Int32 → Nat → AH → Option (Int32 × Nat × AH)
  | 0 => fun _ _ _ _ _ _ _ => none
  | fuel + 1 => lX9_inTheWay_5B  (lX9_inTheWay_5  fuel)
def fX9_inTheWay  (a0 : Nat) (x1 : Int32) (x2 : Int32) (z : Nat) (h : AH) : Option (Int32 × Nat × AH) :=
  lX9_inTheWay_5  fu a0 x1 x2 0 0 z h
theorem wbX9_inTheWay_84 {g : JG} (hst : (jl g).stackTraces = false) (q5 : Nat → Int32 → Int32 → Int32 → Int32 → Nat → AH → Option (Int32 × Nat × AH)) (hq5 : ∀ (a0 : Nat) (x1 : Int32) (x2 : Int32) (x3 : Int32) (x4 : Int32) (z : Nat) (h : AH) (o : Int32 × Nat × AH), q5 a0 x1 x2 x3 x4 z h = some o → J g MX9_inTheWay (jN g (some (.int o.1), o.2.1, o.2.2) rmX9_inTheWay.cells rmX9_inTheWay.slots) 5 [some (.ref a0), some (.int x1), some (.int x2), some (.int x3), some (.int x4), none] [] z h 0 0) {a0 : Nat} {x1 : Int32} {x2 : Int32} {x3 : Int32} {x4 : Int32} {z : Nat} {h : AH} {o : Int32 × Nat × AH} (hf : bX9_inTheWay_84 q5 a0 x1 x2 x3 x4 z h = some o) : J g MX9_inTheWay (jN g (some (.int o.1), o.2.1, o.2.2) rmX9_inTheWay.cells rmX9_inTheWay.slots) 84 [some (.ref a0), some (.int x1), some (.int x2), some (.int x3), some (.int x4), none] [] z h 0 0 := by
  unfold bX9_inTheWay_84 at hf
  refine S_iinc_4 (v := x4 + 1) dX9_inTheWay_84 (congrArg (fun w => x4 + w) (by decide)) rfl (by decide) ?_
  refine J_goto (tgt := 5) dX9_inTheWay_87 (by decide) ?_
  refine J.sub (jsub_s (jsub_s (jsub_s (jsub_s (jsub_s (jsub_n (jsub_nil _))))))) ?_
  exact hq5 _ _ _ _ _ _ _ _ hf
theorem wbX9_inTheWay_76 {g : JG} (hst : (jl g).stackTraces = false) (q15 : Nat → Int32 → Int32 → Int32 → Int32 → Int32 → Nat → AH → Option (Int32 × Nat × AH)) (hq15 : ∀ (a0 : Nat) (x1 : Int32) (x2 : Int32) (x3 : Int32) (x4 : Int32) (x5 : Int32) (z : Nat) (h : AH) (o : Int32 × Nat × AH), q15 a0 x1 x2 x3 x4 x5 z h = some o → J g MX9_inTheWay (jN g (some (.int o.1), o.2.1, o.2.2) rmX9_inTheWay.cells rmX9_inTheWay.slots) 15 [some (.ref a0), some (.int x1), some (.int x2), some (.int x3), some (.int x4), some (.int x5)] [] z h 0 0) {a0 : Nat} {x1 : Int32} {x2 : Int32} {x4 : Int32} {x5 : Int32} {s0 : Int32} {s1 : Int32} {z : Nat} {h : AH} {o : Int32 × Nat × AH} (hf : bX9_inTheWay_76 q15 a0 x1 x2 x4 x5 s0 s1 z h = some o) : J g MX9_inTheWay (jN g (some (.int o.1), o.2.1, o.2.2) rmX9_inTheWay.cells rmX9_inTheWay.slots) 76 [some (.ref a0), some (.int x1), some (.int x2), none, some (.int x4), some (.int x5)] [.int s1, .int s0] z h 0 0 := by
  unfold bX9_inTheWay_76 at hf
  refine J_ior dX9_inTheWay_76 ?_
  obtain ⟨v1, ev1, hf⟩ := bls hf
  refine J_i ev1 ?_
  refine S_istore_n_3 dX9_inTheWay_77 rfl (by decide) ?_
  refine S_iinc_5 (v := x5 + 1) dX9_inTheWay_78 (congrArg (fun w => x5 + w) (by decide)) rfl (by decide) ?_
  refine J_goto (tgt := 15) dX9_inTheWay_81 (by decide) ?_
  refine J.sub (jsub_s (jsub_s (jsub_s (jsub_s (jsub_s (jsub_s (jsub_nil _))))))) ?_
  exact hq15 _ _ _ _ _ _ _ _ _ hf
theorem wbX9_inTheWay_75 {g : JG} (hst : (jl g).stackTraces = false) (q15 : Nat → Int32 → Int32 → Int32 → Int32 → Int32 → Nat → AH → Option (Int32 × Nat × AH)) (hq15 : ∀ (a0 : Nat) (x1 : Int32) (x2 : Int32) (x3 : Int32) (x4 : Int32) (x5 : Int32) (z : Nat) (h : AH) (o : Int32 × Nat × AH), q15 a0 x1 x2 x3 x4 x5 z h = some o → J g MX9_inTheWay (jN g (some (.int o.1), o.2.1, o.2.2) rmX9_inTheWay.cells rmX9_inTheWay.slots) 15 [some (.ref a0), some (.int x1), some (.int x2), some (.int x3), some (.int x4), some (.int x5)] [] z h 0 0) {a0 : Nat} {x1 : Int32} {x2 : Int32} {x4 : Int32} {x5 : Int32} {s0 : Int32} {z : Nat} {h : AH} {o : Int32 × Nat × AH} (hf : bX9_inTheWay_75 q15 a0 x1 x2 x4 x5 s0 z h = some o) : J g MX9_inTheWay (jN g (some (.int o.1), o.2.1, o.2.2) rmX9_inTheWay.cells rmX9_inTheWay.slots) 75 [some (.ref a0), some (.int x1), some (.int x2), none, some (.int x4), some (.int x5)] [.int s0] z h 0 0 := by
  unfold bX9_inTheWay_75 at hf
  refine J_iconst (v := 0) dX9_inTheWay_75 (by decide) ?_
  refine J.sub (jsub_s (jsub_s (jsub_s (jsub_n (jsub_s (jsub_s (jsub_nil _))))))) ?_
  exact wbX9_inTheWay_76 hst _ hq15 hf
theorem wlX9_inTheWay_15 {g : JG} (hst : (jl g).stackTraces = false) (q5 : Nat → Int32 → Int32 → Int32 → Int32 → Nat → AH → Option (Int32 × Nat × AH)) (hq5 : ∀ (a0 : Nat) (x1 : Int32) (x2 : Int32) (x3 : Int32) (x4 : Int32) (z : Nat) (h : AH) (o : Int32 × Nat × AH), q5 a0 x1 x2 x3 x4 z h = some o → J g MX9_inTheWay (jN g (some (.int o.1), o.2.1, o.2.2) rmX9_inTheWay.cells rmX9_inTheWay.slots) 5 [some (.ref a0), some (.int x1), some (.int x2), some (.int x3), some (.int x4), none] [] z h 0 0) : ∀ (fuel : Nat) (a0 : Nat) (x1 : Int32) (x2 : Int32) (x3 : Int32) (x4 : Int32) (x5 : Int32) (z : Nat) (h : AH) (o : Int32 × Nat × AH), lX9_inTheWay_15 q5 fuel a0 x1 x2 x3 x4 x5 z h = some o → J g MX9_inTheWay (jN g (some (.int o.1), o.2.1, o.2.2) rmX9_inTheWay.cells rmX9_inTheWay.slots) 15 [some (.ref a0), some (.int x1), some (.int x2), some (.int x3), some (.int x4), some (.int x5)] [] z h 0 0 := by
  intro fuel
  induction fuel with
  | zero => intro a0 x1 x2 x3 x4 x5 z h o hf; cases hf
  | succ fuel ih =>
    intro a0 x1 x2 x3 x4 x5 z h o hf
    have hq15 := ih
    have hf : lX9_inTheWay_15B q5 (lX9_inTheWay_15 q5 fuel) a0 x1 x2 x3 x4 x5 z h = some o := hf
    generalize lX9_inTheWay_15 q5 fuel = q15 at hf hq15
    unfold lX9_inTheWay_15B at hf
    refine J_iload dX9_inTheWay_15 rfl ?_
    refine J_aload_n dX9_inTheWay_17 rfl rfl ?_
    obtain ⟨k1, hf⟩ := gds hf
    obtain ⟨b2, rb2, hf⟩ := rfs hf
    refine G_9_0 dX9_inTheWay_18 tk_919 k1 rb2 ?_
    refine J_iconst (v := 0) dX9_inTheWay_21 (by decide) ?_
    obtain ⟨k3, hf⟩ := gds hf
    obtain ⟨n4, hf⟩ := gds hf
    refine J_iaload dX9_inTheWay_22 k3 n4 ?_
    rcases br hf with ⟨c5, hf⟩ | ⟨c5, hf⟩
    · refine J_icmp_ge (tgt := 84) dX9_inTheWay_23 (by decide) (fun _ => ?_) (fun w => absurd c5 w)
      refine J.sub (jsub_s (jsub_s (jsub_s (jsub_s (jsub_s (jsub_n (jsub_nil _))))))) ?_
      exact wbX9_inTheWay_84 hst _ hq5 hf
    · refine J_icmp_ge (tgt := 84) dX9_inTheWay_23 (by decide) (fun w => absurd w c5) (fun _ => ?_)
      refine J_iload dX9_inTheWay_26 rfl ?_
      refine J_iload_n dX9_inTheWay_28 rfl rfl ?_
      rcases br hf with ⟨c6, hf⟩ | ⟨c6, hf⟩
      · refine J_icmp_eq (tgt := 84) dX9_inTheWay_29 (by decide) (fun _ => ?_) (fun w => absurd c6 w)
        refine J.sub (jsub_s (jsub_s (jsub_s (jsub_s (jsub_s (jsub_n (jsub_nil _))))))) ?_
        exact wbX9_inTheWay_84 hst _ hq5 hf
      · refine J_icmp_eq (tgt := 84) dX9_inTheWay_29 (by decide) (fun w => absurd w c6) (fun _ => ?_)
        refine J_aload_n dX9_inTheWay_32 rfl rfl ?_
        refine J_iload dX9_inTheWay_33 rfl ?_
        obtain ⟨vo7, zo7, ho7h, ho7, hf⟩ := rfs3 hf
        refine CV1i dX9_inTheWay_35 (mX9_isTask hst ho7) tk_1019 iX9_isTask k1 (by decide) rfl ⟨by decide, by decide⟩ ⟨by decide, by decide⟩ (Nat.le_of_ble_eq_true rfl) ?_
        rcases br hf with ⟨c8, hf⟩ | ⟨c8, hf⟩
        · refine J_if_eq (tgt := 84) dX9_inTheWay_38 (by decide) (fun _ => ?_) (fun w => absurd c8 w)
          refine J.sub (jsub_s (jsub_s (jsub_s (jsub_s (jsub_s (jsub_n (jsub_nil _))))))) ?_
          exact wbX9_inTheWay_84 hst _ hq5 hf
        · refine J_if_eq (tgt := 84) dX9_inTheWay_38 (by decide) (fun w => absurd w c8) (fun _ => ?_)
          refine J_iload_n dX9_inTheWay_41 rfl rfl ?_
          refine J_aload_n dX9_inTheWay_42 rfl rfl ?_
          refine J_iload dX9_inTheWay_43 rfl ?_
          refine J_iconst (v := 3) dX9_inTheWay_45 (by decide) ?_
          obtain ⟨k9, hf⟩ := gds hf
          obtain ⟨vo10, zo10, ho10h, ho10, hf⟩ := rfs3 hf
          refine CV2i dX9_inTheWay_46 (mX9_of hst ho10) tk_1023 iX9_of k9 (by decide) rfl ⟨by decide, by decide⟩ ⟨by decide, by decide⟩ (Nat.le_of_ble_eq_true rfl) ?_
          refine J_iload dX9_inTheWay_49 rfl ?_
          refine J_ishr dX9_inTheWay_51 ?_
          refine J_iconst (v := 1) dX9_inTheWay_52 (by decide) ?_
          refine J_iand dX9_inTheWay_53 ?_
          refine J_iconst (v := 1) dX9_inTheWay_54 (by decide) ?_
          rcases br hf with ⟨c11, hf⟩ | ⟨c11, hf⟩
          · refine J_icmp_ne (tgt := 75) dX9_inTheWay_55 (by decide) (fun w => absurd c11 w) (fun _ => ?_)
            refine J_aload_n dX9_inTheWay_58 rfl rfl ?_
            refine J_iload_n dX9_inTheWay_59 rfl rfl ?_
            refine J_iload dX9_inTheWay_60 rfl ?_
            obtain ⟨k12, hf⟩ := gds hf
            obtain ⟨vo13, zo13, ho13h, ho13, hf⟩ := rfs3 hf
            refine CV2i dX9_inTheWay_62 (mX9_overlaps hst ho13) tk_1027 iX9_overlaps k12 (by decide) rfl ⟨by decide, by decide⟩ ⟨by decide, by decide⟩ (Nat.le_of_ble_eq_true rfl) ?_
            rcases br hf with ⟨c14, hf⟩ | ⟨c14, hf⟩
            · refine J_if_eq (tgt := 75) dX9_inTheWay_65 (by decide) (fun _ => ?_) (fun w => absurd c14 w)
              refine J.sub (jsub_s (jsub_s (jsub_s (jsub_n (jsub_s (jsub_s (jsub_nil _))))))) ?_
              exact wbX9_inTheWay_75 hst _ hq15 hf
            · refine J_if_eq (tgt := 75) dX9_inTheWay_65 (by decide) (fun w => absurd w c14) (fun _ => ?_)
              refine J_iconst (v := 1) dX9_inTheWay_68 (by decide) ?_
              refine J_iload dX9_inTheWay_69 rfl ?_
              refine J_ishl dX9_inTheWay_71 ?_
              refine J_goto (tgt := 76) dX9_inTheWay_72 (by decide) ?_
              refine J.sub (jsub_s (jsub_s (jsub_s (jsub_n (jsub_s (jsub_s (jsub_nil _))))))) ?_
              exact wbX9_inTheWay_76 hst _ hq15 hf
          · refine J_icmp_ne (tgt := 75) dX9_inTheWay_55 (by decide) (fun _ => ?_) (fun w => absurd w c11)
            refine J.sub (jsub_s (jsub_s (jsub_s (jsub_n (jsub_s (jsub_s (jsub_nil _))))))) ?_
            exact wbX9_inTheWay_75 hst _ hq15 hf
theorem wlX9_inTheWay_5 {g : JG} (hst : (jl g).stackTraces = false)   : ∀ (fuel : Nat) (a0 : Nat) (x1 : Int32) (x2 : Int32) (x3 : Int32) (x4 : Int32) (z : Nat) (h : AH) (o : Int32 × Nat × AH), lX9_inTheWay_5  fuel a0 x1 x2 x3 x4 z h = some o → J g MX9_inTheWay (jN g (some (.int o.1), o.2.1, o.2.2) rmX9_inTheWay.cells rmX9_inTheWay.slots) 5 [some (.ref a0), some (.int x1), some (.int x2), some (.int x3), some (.int x4), none] [] z h 0 0 := by
  intro fuel
  induction fuel with
  | zero => intro a0 x1 x2 x3 x4 z h o hf; cases hf
  | succ fuel ih =>
    intro a0 x1 x2 x3 x4 z h o hf
    have hq5 := ih
    have hf : lX9_inTheWay_5B  (lX9_inTheWay_5  fuel) a0 x1 x2 x3 x4 z h = some o := hf
    generalize lX9_inTheWay_5  fuel = q5 at hf hq5
    unfold lX9_inTheWay_5B at hf
    refine J_iload dX9_inTheWay_5 rfl ?_
    refine J_bipush (v := 10) dX9_inTheWay_7 (by decide) ?_
    rcases br hf with ⟨c1, hf⟩ | ⟨c1, hf⟩
    · refine J_icmp_ge (tgt := 90) dX9_inTheWay_9 (by decide) (fun _ => ?_) (fun w => absurd c1 w)
      refine J_iload_n dX9_inTheWay_90 rfl rfl ?_
      cases hf
      exact J_iretN dX9_inTheWay_91 rfl (by decide) (by decide)
    · refine J_icmp_ge (tgt := 90) dX9_inTheWay_9 (by decide) (fun w => absurd w c1) (fun _ => ?_)
      refine J_iconst (v := 0) dX9_inTheWay_12 (by decide) ?_
      refine S_istore_5 dX9_inTheWay_13 rfl (by decide) ?_
      refine J.sub (jsub_s (jsub_s (jsub_s (jsub_s (jsub_s (jsub_s (jsub_nil _))))))) ?_
      exact wlX9_inTheWay_15 hst _ hq5 _ _ _ _ _ _ _ _ _ _ hf
theorem wfX9_inTheWay {g : JG} (hst : (jl g).stackTraces = false)   {a0 : Nat} {x1 : Int32} {x2 : Int32} {z : Nat} {h : AH} {o : Int32 × Nat × AH} (hf : fX9_inTheWay  a0 x1 x2 z h = some o) : J g MX9_inTheWay (jN g (some (.int o.1), o.2.1, o.2.2) rmX9_inTheWay.cells rmX9_inTheWay.slots) 0 [some (.ref a0), some (.int x1), some (.int x2), none, none, none] [] z h 0 0 := by
  unfold fX9_inTheWay at hf
  refine J_iconst (v := 0) dX9_inTheWay_0 (by decide) ?_
  refine S_istore_n_3 dX9_inTheWay_1 rfl (by decide) ?_
  refine J_iconst (v := 0) dX9_inTheWay_2 (by decide) ?_
  refine S_istore_4 dX9_inTheWay_3 rfl (by decide) ?_
  refine J.sub (jsub_s (jsub_s (jsub_s (jsub_s (jsub_s (jsub_n (jsub_nil _))))))) ?_
  exact wlX9_inTheWay_5 hst   _ _ _ _ _ _ _ _ _ hf
theorem mX9_inTheWay {g : JG} (hst : (jl g).stackTraces = false) {a0 : Nat} {x1 : Int32} {x2 : Int32} {z : Nat} {h : AH} {o : Int32 × Nat × AH} (hf : fX9_inTheWay a0 x1 x2 z h = some o) : jMet g yX9_inTheWay (wj yX9_inTheWay cX9_inTheWay 6 (some .int)) rmX9_inTheWay [.ref a0, .int x1, .int x2] z h (some (.int o.1), o.2.1, o.2.2) :=
  jMet_mk (by decide) (Nat.le_of_ble_eq_true rfl) [some (.ref a0), some (.int x1), some (.int x2), none, none, none] rfl (wfX9_inTheWay hst hf)
def bX9_younger_47 (q5 : Nat → Int32 → Int32 → Int32 → Int32 → Nat → AH → Option (Int32 × Nat × AH)) (a0 : Nat) (x1 : Int32) (x2 : Int32) (x4 : Int32) (s0 : Int32) (s1 : Int32) (z : Nat) (h : AH) : Option (Int32 × Nat × AH) :=
  bl ((s0 ||| s1)) (fun v1 => q5 a0 x1 x2 v1 (x4 + 1) z h)
def bX9_younger_46 (q5 : Nat → Int32 → Int32 → Int32 → Int32 → Nat → AH → Option (Int32 × Nat × AH)) (a0 : Nat) (x1 : Int32) (x2 : Int32) (x4 : Int32) (s0 : Int32) (z : Nat) (h : AH) : Option (Int32 × Nat × AH) :=
  bX9_younger_47 q5 a0 x1 x2 x4 s0 0 z h
def lX9_younger_5B  (q5 : Nat → Int32 → Int32 → Int32 → Int32 → Nat → AH → Option (Int32 × Nat × AH)) (a0 : Nat) (x1 : Int32) (x2 : Int32) (x3 : Int32) (x4 : Int32) (z : Nat) (h : AH) : Option (Int32 × Nat × AH) :=
  (if 10 ≤ x4 then (some (x3, z, h)) else ((if ((x2 >>> (x4 &&& 31)) &&& 1) = 1 then (gd (kd h a0 = 10) (bd3 (fX9_of a0 x4 2 z h) (fun vo4 zo4 ho4h => gd (kd ho4h a0 = 10) (bd3 (fX9_of a0 x1 2 zo4 ho4h) (fun vo6 zo6 ho6h => (if vo4 ≤ vo6 then (bX9_younger_46 q5 a0 x1 x2 x4 x3 zo6 ho6h) else (bX9_younger_47 q5 a0 x1 x2 x4 x3 (1 <<< (x4 &&& 31)) zo6 ho6h))))))) else (bX9_younger_46 q5 a0 x1 x2 x4 x3 z h))))
def lX9_younger_5  : Nat → Nat → Int32 → Int32 → Int32 → Int32 → Nat → AH → Option (Int32 × Nat × AH)
  | 0 => fun _ _ _ _ _ _ _ => none
  | fuel + 1 => lX9_younger_5B  (lX9_younger_5  fuel)
def fX9_younger  (a0 : Nat) (x1 : Int32) (x2 : Int32) (z : Nat) (h : AH) : Option (Int32 × Nat × AH) :=
  lX9_younger_5  fu a0 x1 x2 0 0 z h
theorem wbX9_younger_47 {g : JG} (hst : (jl g).stackTraces = false) (q5 : Nat → Int32 → Int32 → Int32 → Int32 → Nat → AH → Option (Int32 × Nat × AH)) (hq5 : ∀ (a0 : Nat) (x1 : Int32) (x2 : Int32) (x3 : Int32) (x4 : Int32) (z : Nat) (h : AH) (o : Int32 × Nat × AH), q5 a0 x1 x2 x3 x4 z h = some o → J g MX9_younger (jN g (some (.int o.1), o.2.1, o.2.2) rmX9_younger.cells rmX9_younger.slots) 5 [some (.ref a0), some (.int x1), some (.int x2), some (.int x3), some (.int x4)] [] z h 0 0) {a0 : Nat} {x1 : Int32} {x2 : Int32} {x4 : Int32} {s0 : Int32} {s1 : Int32} {z : Nat} {h : AH} {o : Int32 × Nat × AH} (hf : bX9_younger_47 q5 a0 x1 x2 x4 s0 s1 z h = some o) : J g MX9_younger (jN g (some (.int o.1), o.2.1, o.2.2) rmX9_younger.cells rmX9_younger.slots) 47 [some (.ref a0), some (.int x1), some (.int x2), none, some (.int x4)] [.int s1, .int s0] z h 0 0 := by
  unfold bX9_younger_47 at hf
  refine J_ior dX9_younger_47 ?_
  obtain ⟨v1, ev1, hf⟩ := bls hf
  refine J_i ev1 ?_
  refine S_istore_n_3 dX9_younger_48 rfl (by decide) ?_
  refine S_iinc_4 (v := x4 + 1) dX9_younger_49 (congrArg (fun w => x4 + w) (by decide)) rfl (by decide) ?_
  refine J_goto (tgt := 5) dX9_younger_52 (by decide) ?_
  refine J.sub (jsub_s (jsub_s (jsub_s (jsub_s (jsub_s (jsub_nil _)))))) ?_
  exact hq5 _ _ _ _ _ _ _ _ hf
theorem wbX9_younger_46 {g : JG} (hst : (jl g).stackTraces = false) (q5 : Nat → Int32 → Int32 → Int32 → Int32 → Nat → AH → Option (Int32 × Nat × AH)) (hq5 : ∀ (a0 : Nat) (x1 : Int32) (x2 : Int32) (x3 : Int32) (x4 : Int32) (z : Nat) (h : AH) (o : Int32 × Nat × AH), q5 a0 x1 x2 x3 x4 z h = some o → J g MX9_younger (jN g (some (.int o.1), o.2.1, o.2.2) rmX9_younger.cells rmX9_younger.slots) 5 [some (.ref a0), some (.int x1), some (.int x2), some (.int x3), some (.int x4)] [] z h 0 0) {a0 : Nat} {x1 : Int32} {x2 : Int32} {x4 : Int32} {s0 : Int32} {z : Nat} {h : AH} {o : Int32 × Nat × AH} (hf : bX9_younger_46 q5 a0 x1 x2 x4 s0 z h = some o) : J g MX9_younger (jN g (some (.int o.1), o.2.1, o.2.2) rmX9_younger.cells rmX9_younger.slots) 46 [some (.ref a0), some (.int x1), some (.int x2), none, some (.int x4)] [.int s0] z h 0 0 := by
  unfold bX9_younger_46 at hf
  refine J_iconst (v := 0) dX9_younger_46 (by decide) ?_
  refine J.sub (jsub_s (jsub_s (jsub_s (jsub_n (jsub_s (jsub_nil _)))))) ?_
  exact wbX9_younger_47 hst _ hq5 hf
theorem wlX9_younger_5 {g : JG} (hst : (jl g).stackTraces = false)   : ∀ (fuel : Nat) (a0 : Nat) (x1 : Int32) (x2 : Int32) (x3 : Int32) (x4 : Int32) (z : Nat) (h : AH) (o : Int32 × Nat × AH), lX9_younger_5  fuel a0 x1 x2 x3 x4 z h = some o → J g MX9_younger (jN g (some (.int o.1), o.2.1, o.2.2) rmX9_younger.cells rmX9_younger.slots) 5 [some (.ref a0), some (.int x1), some (.int x2), some (.int x3), some (.int x4)] [] z h 0 0 := by
  intro fuel
  induction fuel with
  | zero => intro a0 x1 x2 x3 x4 z h o hf; cases hf
  | succ fuel ih =>
    intro a0 x1 x2 x3 x4 z h o hf
    have hq5 := ih
    have hf : lX9_younger_5B  (lX9_younger_5  fuel) a0 x1 x2 x3 x4 z h = some o := hf
    generalize lX9_younger_5  fuel = q5 at hf hq5
    unfold lX9_younger_5B at hf
    refine J_iload dX9_younger_5 rfl ?_
    refine J_bipush (v := 10) dX9_younger_7 (by decide) ?_
    rcases br hf with ⟨c1, hf⟩ | ⟨c1, hf⟩
    · refine J_icmp_ge (tgt := 55) dX9_younger_9 (by decide) (fun _ => ?_) (fun w => absurd c1 w)
      refine J_iload_n dX9_younger_55 rfl rfl ?_
      cases hf
      exact J_iretN dX9_younger_56 rfl (by decide) (by decide)
    · refine J_icmp_ge (tgt := 55) dX9_younger_9 (by decide) (fun w => absurd w c1) (fun _ => ?_)
      refine J_iload_n dX9_younger_12 rfl rfl ?_
      refine J_iload_n dX9_younger_13 rfl rfl ?_
      refine J_iload dX9_younger_14 rfl ?_
      refine J_ishr dX9_younger_16 ?_
      refine J_iconst (v := 1) dX9_younger_17 (by decide) ?_
      refine J_iand dX9_younger_18 ?_
      refine J_iconst (v := 1) dX9_younger_19 (by decide) ?_
      rcases br hf with ⟨c2, hf⟩ | ⟨c2, hf⟩
      · refine J_icmp_ne (tgt := 46) dX9_younger_20 (by decide) (fun w => absurd c2 w) (fun _ => ?_)
        refine J_aload_n dX9_younger_23 rfl rfl ?_
        refine J_iload dX9_younger_24 rfl ?_
        refine J_iconst (v := 2) dX9_younger_26 (by decide) ?_
        obtain ⟨k3, hf⟩ := gds hf
        obtain ⟨vo4, zo4, ho4h, ho4, hf⟩ := rfs3 hf
        refine CV2i dX9_younger_27 (mX9_of hst ho4) tk_1023 iX9_of k3 (by decide) rfl ⟨by decide, by decide⟩ ⟨by decide, by decide⟩ (Nat.le_of_ble_eq_true rfl) ?_
        refine J_aload_n dX9_younger_30 rfl rfl ?_
        refine J_iload_n dX9_younger_31 rfl rfl ?_
        refine J_iconst (v := 2) dX9_younger_32 (by decide) ?_
        obtain ⟨k5, hf⟩ := gds hf
        obtain ⟨vo6, zo6, ho6h, ho6, hf⟩ := rfs3 hf
        refine CV2i dX9_younger_33 (mX9_of hst ho6) tk_1023 iX9_of k5 (by decide) rfl ⟨by decide, by decide⟩ ⟨by decide, by decide⟩ (Nat.le_of_ble_eq_true rfl) ?_
        rcases br hf with ⟨c7, hf⟩ | ⟨c7, hf⟩
        · refine J_icmp_le (tgt := 46) dX9_younger_36 (by decide) (fun _ => ?_) (fun w => absurd c7 w)
          refine J.sub (jsub_s (jsub_s (jsub_s (jsub_n (jsub_s (jsub_nil _)))))) ?_
          exact wbX9_younger_46 hst _ hq5 hf
        · refine J_icmp_le (tgt := 46) dX9_younger_36 (by decide) (fun w => absurd w c7) (fun _ => ?_)
          refine J_iconst (v := 1) dX9_younger_39 (by decide) ?_
          refine J_iload dX9_younger_40 rfl ?_
          refine J_ishl dX9_younger_42 ?_
          refine J_goto (tgt := 47) dX9_younger_43 (by decide) ?_
          refine J.sub (jsub_s (jsub_s (jsub_s (jsub_n (jsub_s (jsub_nil _)))))) ?_
          exact wbX9_younger_47 hst _ hq5 hf
      · refine J_icmp_ne (tgt := 46) dX9_younger_20 (by decide) (fun _ => ?_) (fun w => absurd w c2)
        refine J.sub (jsub_s (jsub_s (jsub_s (jsub_n (jsub_s (jsub_nil _)))))) ?_
        exact wbX9_younger_46 hst _ hq5 hf
theorem wfX9_younger {g : JG} (hst : (jl g).stackTraces = false)   {a0 : Nat} {x1 : Int32} {x2 : Int32} {z : Nat} {h : AH} {o : Int32 × Nat × AH} (hf : fX9_younger  a0 x1 x2 z h = some o) : J g MX9_younger (jN g (some (.int o.1), o.2.1, o.2.2) rmX9_younger.cells rmX9_younger.slots) 0 [some (.ref a0), some (.int x1), some (.int x2), none, none] [] z h 0 0 := by
  unfold fX9_younger at hf
  refine J_iconst (v := 0) dX9_younger_0 (by decide) ?_
  refine S_istore_n_3 dX9_younger_1 rfl (by decide) ?_
  refine J_iconst (v := 0) dX9_younger_2 (by decide) ?_
  refine S_istore_4 dX9_younger_3 rfl (by decide) ?_
  refine J.sub (jsub_s (jsub_s (jsub_s (jsub_s (jsub_s (jsub_nil _)))))) ?_
  exact wlX9_younger_5 hst   _ _ _ _ _ _ _ _ _ hf
theorem mX9_younger {g : JG} (hst : (jl g).stackTraces = false) {a0 : Nat} {x1 : Int32} {x2 : Int32} {z : Nat} {h : AH} {o : Int32 × Nat × AH} (hf : fX9_younger a0 x1 x2 z h = some o) : jMet g yX9_younger (wj yX9_younger cX9_younger 5 (some .int)) rmX9_younger [.ref a0, .int x1, .int x2] z h (some (.int o.1), o.2.1, o.2.2) :=
  jMet_mk (by decide) (Nat.le_of_ble_eq_true rfl) [some (.ref a0), some (.int x1), some (.int x2), none, none] rfl (wfX9_younger hst hf)
def bX9_happens_19  (a0 : Nat) (x1 : Int32) (s0 : Int32) (z : Nat) (h : AH) : Option (Int32 × Nat × AH) :=
  gd (kd h a0 = 10) (bd3 (fX9_younger a0 x1 s0 z h) (fun vo2 zo2 ho2h => (if s0 = 0 then (some (0, zo2, ho2h)) else (gd (kd ho2h a0 = 10) (Option.bind (rv ho2h a0 0) (fun b5 => gd (kd ho2h b5 = 13) (gd (¬ ((17 : Int32) < 0 ∨ ln ho2h b5 ≤ Int32.toNatClampNeg 17)) ((if (iv ho2h b5 (Int32.toNatClampNeg 17)) = 0 then (some (1, zo2, ho2h)) else (Option.bind (rv ho2h a0 0) (fun b9 => gd (kd ho2h b9 = 13) (gd (¬ ((17 : Int32) < 0 ∨ ln ho2h b9 ≤ Int32.toNatClampNeg 17)) ((if (iv ho2h b9 (Int32.toNatClampNeg 17)) = 1 then ((if vo2 = s0 then (some (1, zo2, ho2h)) else (some (2, zo2, ho2h)))) else ((if vo2 = 0 then (some (1, zo2, ho2h)) else ((if vo2 = s0 then (some (3, zo2, ho2h)) else (some (4, zo2, ho2h))))))))))))))))))))
def fX9_happens  (a0 : Nat) (x1 : Int32) (x2 : Int32) (z : Nat) (h : AH) : Option (Int32 × Nat × AH) :=
  gd (kd h a0 = 10) (bd3 (fX9_isOver a0 x1 x2 z h) (fun vo2 zo2 ho2h => (if vo2 = 0 then (gd (kd ho2h a0 = 10) (bd3 (fX9_inTheWay a0 x1 x2 zo2 ho2h) (fun vo5 zo5 ho5h => bX9_happens_19  a0 x1 vo5 zo5 ho5h))) else (bX9_happens_19  a0 x1 0 zo2 ho2h))))
theorem wbX9_happens_19 {g : JG} (hst : (jl g).stackTraces = false)   {a0 : Nat} {x1 : Int32} {s0 : Int32} {z : Nat} {h : AH} {o : Int32 × Nat × AH} (hf : bX9_happens_19  a0 x1 s0 z h = some o) : J g MX9_happens (jN g (some (.int o.1), o.2.1, o.2.2) rmX9_happens.cells rmX9_happens.slots) 19 [some (.ref a0), some (.int x1), none, none, none] [.int s0] z h 0 0 := by
  unfold bX9_happens_19 at hf
  refine S_istore_n_3 dX9_happens_19 rfl (by decide) ?_
  refine J_aload_n dX9_happens_20 rfl rfl ?_
  refine J_iload_n dX9_happens_21 rfl rfl ?_
  refine J_iload_n dX9_happens_22 rfl rfl ?_
  obtain ⟨k1, hf⟩ := gds hf
  obtain ⟨vo2, zo2, ho2h, ho2, hf⟩ := rfs3 hf
  refine CV2i dX9_happens_23 (mX9_younger hst ho2) tk_1071 iX9_younger k1 (by decide) rfl ⟨by decide, by decide⟩ ⟨by decide, by decide⟩ (Nat.le_of_ble_eq_true rfl) ?_
  refine S_istore_4 dX9_happens_26 rfl (by decide) ?_
  refine J_iload_n dX9_happens_28 rfl rfl ?_
  rcases br hf with ⟨c3, hf⟩ | ⟨c3, hf⟩
  · refine J_if_ne (tgt := 34) dX9_happens_29 (by decide) (fun w => absurd c3 w) (fun _ => ?_)
    refine J_iconst (v := 0) dX9_happens_32 (by decide) ?_
    cases hf
    exact J_iretN dX9_happens_33 rfl (by decide) (by decide)
  · refine J_if_ne (tgt := 34) dX9_happens_29 (by decide) (fun _ => ?_) (fun w => absurd w c3)
    refine J_aload_n dX9_happens_34 rfl rfl ?_
    obtain ⟨k4, hf⟩ := gds hf
    obtain ⟨b5, rb5, hf⟩ := rfs hf
    refine G_9_0 dX9_happens_35 tk_919 k4 rb5 ?_
    refine J_bipush (v := 17) dX9_happens_38 (by decide) ?_
    obtain ⟨k6, hf⟩ := gds hf
    obtain ⟨n7, hf⟩ := gds hf
    refine J_iaload dX9_happens_40 k6 n7 ?_
    rcases br hf with ⟨c8, hf⟩ | ⟨c8, hf⟩
    · refine J_if_ne (tgt := 46) dX9_happens_41 (by decide) (fun w => absurd c8 w) (fun _ => ?_)
      refine J_iconst (v := 1) dX9_happens_44 (by decide) ?_
      cases hf
      exact J_iretN dX9_happens_45 rfl (by decide) (by decide)
    · refine J_if_ne (tgt := 46) dX9_happens_41 (by decide) (fun _ => ?_) (fun w => absurd w c8)
      refine J_aload_n dX9_happens_46 rfl rfl ?_
      obtain ⟨b9, rb9, hf⟩ := rfs hf
      refine G_9_0 dX9_happens_47 tk_919 k4 rb9 ?_
      refine J_bipush (v := 17) dX9_happens_50 (by decide) ?_
      obtain ⟨k10, hf⟩ := gds hf
      obtain ⟨n11, hf⟩ := gds hf
      refine J_iaload dX9_happens_52 k10 n11 ?_
      refine J_iconst (v := 1) dX9_happens_53 (by decide) ?_
      rcases br hf with ⟨c12, hf⟩ | ⟨c12, hf⟩
      · refine J_icmp_ne (tgt := 69) dX9_happens_54 (by decide) (fun w => absurd c12 w) (fun _ => ?_)
        refine J_iload dX9_happens_57 rfl ?_
        refine J_iload_n dX9_happens_59 rfl rfl ?_
        rcases br hf with ⟨c15, hf⟩ | ⟨c15, hf⟩
        · refine J_icmp_ne (tgt := 67) dX9_happens_60 (by decide) (fun w => absurd c15 w) (fun _ => ?_)
          refine J_iconst (v := 1) dX9_happens_63 (by decide) ?_
          refine J_goto (tgt := 68) dX9_happens_64 (by decide) ?_
          cases hf
          exact J_iretN dX9_happens_68 rfl (by decide) (by decide)
        · refine J_icmp_ne (tgt := 67) dX9_happens_60 (by decide) (fun _ => ?_) (fun w => absurd w c15)
          refine J_iconst (v := 2) dX9_happens_67 (by decide) ?_
          cases hf
          exact J_iretN dX9_happens_68 rfl (by decide) (by decide)
      · refine J_icmp_ne (tgt := 69) dX9_happens_54 (by decide) (fun _ => ?_) (fun w => absurd w c12)
        refine J_iload dX9_happens_69 rfl ?_
        rcases br hf with ⟨c13, hf⟩ | ⟨c13, hf⟩
        · refine J_if_ne (tgt := 78) dX9_happens_71 (by decide) (fun w => absurd c13 w) (fun _ => ?_)
          refine J_iconst (v := 1) dX9_happens_74 (by decide) ?_
          refine J_goto (tgt := 89) dX9_happens_75 (by decide) ?_
          cases hf
          exact J_iretN dX9_happens_89 rfl (by decide) (by decide)
        · refine J_if_ne (tgt := 78) dX9_happens_71 (by decide) (fun _ => ?_) (fun w => absurd w c13)
          refine J_iload dX9_happens_78 rfl ?_
          refine J_iload_n dX9_happens_80 rfl rfl ?_
          rcases br hf with ⟨c14, hf⟩ | ⟨c14, hf⟩
          · refine J_icmp_ne (tgt := 88) dX9_happens_81 (by decide) (fun w => absurd c14 w) (fun _ => ?_)
            refine J_iconst (v := 3) dX9_happens_84 (by decide) ?_
            refine J_goto (tgt := 89) dX9_happens_85 (by decide) ?_
            cases hf
            exact J_iretN dX9_happens_89 rfl (by decide) (by decide)
          · refine J_icmp_ne (tgt := 88) dX9_happens_81 (by decide) (fun _ => ?_) (fun w => absurd w c14)
            refine J_iconst (v := 4) dX9_happens_88 (by decide) ?_
            cases hf
            exact J_iretN dX9_happens_89 rfl (by decide) (by decide)
theorem wfX9_happens {g : JG} (hst : (jl g).stackTraces = false)   {a0 : Nat} {x1 : Int32} {x2 : Int32} {z : Nat} {h : AH} {o : Int32 × Nat × AH} (hf : fX9_happens  a0 x1 x2 z h = some o) : J g MX9_happens (jN g (some (.int o.1), o.2.1, o.2.2) rmX9_happens.cells rmX9_happens.slots) 0 [some (.ref a0), some (.int x1), some (.int x2), none, none] [] z h 0 0 := by
  unfold fX9_happens at hf
  refine J_aload_n dX9_happens_0 rfl rfl ?_
  refine J_iload_n dX9_happens_1 rfl rfl ?_
  refine J_iload_n dX9_happens_2 rfl rfl ?_
  obtain ⟨k1, hf⟩ := gds hf
  obtain ⟨vo2, zo2, ho2h, ho2, hf⟩ := rfs3 hf
  refine CV2i dX9_happens_3 (mX9_isOver hst ho2) tk_1063 iX9_isOver k1 (by decide) rfl ⟨by decide, by decide⟩ ⟨by decide, by decide⟩ (Nat.le_of_ble_eq_true rfl) ?_
  rcases br hf with ⟨c3, hf⟩ | ⟨c3, hf⟩
  · refine J_if_eq (tgt := 13) dX9_happens_6 (by decide) (fun _ => ?_) (fun w => absurd c3 w)
    refine J_aload_n dX9_happens_13 rfl rfl ?_
    refine J_iload_n dX9_happens_14 rfl rfl ?_
    refine J_iload_n dX9_happens_15 rfl rfl ?_
    obtain ⟨k4, hf⟩ := gds hf
    obtain ⟨vo5, zo5, ho5h, ho5, hf⟩ := rfs3 hf
    refine CV2i dX9_happens_16 (mX9_inTheWay hst ho5) tk_1067 iX9_inTheWay k4 (by decide) rfl ⟨by decide, by decide⟩ ⟨by decide, by decide⟩ (Nat.le_of_ble_eq_true rfl) ?_
    refine J.sub (jsub_s (jsub_s (jsub_n (jsub_n (jsub_n (jsub_nil _)))))) ?_
    exact wbX9_happens_19 hst   hf
  · refine J_if_eq (tgt := 13) dX9_happens_6 (by decide) (fun w => absurd w c3) (fun _ => ?_)
    refine J_iconst (v := 0) dX9_happens_9 (by decide) ?_
    refine J_goto (tgt := 19) dX9_happens_10 (by decide) ?_
    refine J.sub (jsub_s (jsub_s (jsub_n (jsub_n (jsub_n (jsub_nil _)))))) ?_
    exact wbX9_happens_19 hst   hf
theorem mX9_happens {g : JG} (hst : (jl g).stackTraces = false) {a0 : Nat} {x1 : Int32} {x2 : Int32} {z : Nat} {h : AH} {o : Int32 × Nat × AH} (hf : fX9_happens a0 x1 x2 z h = some o) : jMet g yX9_happens (wj yX9_happens cX9_happens 5 (some .int)) rmX9_happens [.ref a0, .int x1, .int x2] z h (some (.int o.1), o.2.1, o.2.2) :=
  jMet_mk (by decide) (Nat.le_of_ble_eq_true rfl) [some (.ref a0), some (.int x1), some (.int x2), none, none] rfl (wfX9_happens hst hf)
def bX9_placeOf_33 (q4 : Nat → Int32 → Int32 → Int32 → Nat → AH → Option (Int32 × Nat × AH)) (a0 : Nat) (x1 : Int32) (x3 : Int32) (s0 : Int32) (z : Nat) (h : AH) : Option (Int32 × Nat × AH) :=
  q4 a0 x1 s0 (x3 + 1) z h
def lX9_placeOf_4B  (q4 : Nat → Int32 → Int32 → Int32 → Nat → AH → Option (Int32 × Nat × AH)) (a0 : Nat) (x1 : Int32) (x2 : Int32) (x3 : Int32) (z : Nat) (h : AH) : Option (Int32 × Nat × AH) :=
  gd (kd h a0 = 10) (Option.bind (rv h a0 0) (fun b2 => gd (kd h b2 = 13) (gd (¬ ((21 : Int32) < 0 ∨ ln h b2 ≤ Int32.toNatClampNeg 21)) ((if (iv h b2 (Int32.toNatClampNeg 21)) ≤ x3 then (some (x2, z, h)) else (Option.bind (rv h a0 0) (fun b6 => gd (kd h b6 = 13) (gd (¬ (((22 + x3) : Int32) < 0 ∨ ln h b6 ≤ Int32.toNatClampNeg (22 + x3))) ((if (iv h b6 (Int32.toNatClampNeg (22 + x3))) = x1 then (bX9_placeOf_33 q4 a0 x1 x3 x3 z h) else (bX9_placeOf_33 q4 a0 x1 x3 x2 z h)))))))))))
def lX9_placeOf_4  : Nat → Nat → Int32 → Int32 → Int32 → Nat → AH → Option (Int32 × Nat × AH)
  | 0 => fun _ _ _ _ _ _ => none
  | fuel + 1 => lX9_placeOf_4B  (lX9_placeOf_4  fuel)
def fX9_placeOf  (a0 : Nat) (x1 : Int32) (z : Nat) (h : AH) : Option (Int32 × Nat × AH) :=
  lX9_placeOf_4  fu a0 x1 (-1) 0 z h
theorem wbX9_placeOf_33 {g : JG} (hst : (jl g).stackTraces = false) (q4 : Nat → Int32 → Int32 → Int32 → Nat → AH → Option (Int32 × Nat × AH)) (hq4 : ∀ (a0 : Nat) (x1 : Int32) (x2 : Int32) (x3 : Int32) (z : Nat) (h : AH) (o : Int32 × Nat × AH), q4 a0 x1 x2 x3 z h = some o → J g MX9_placeOf (jN g (some (.int o.1), o.2.1, o.2.2) rmX9_placeOf.cells rmX9_placeOf.slots) 4 [some (.ref a0), some (.int x1), some (.int x2), some (.int x3)] [] z h 0 0) {a0 : Nat} {x1 : Int32} {x3 : Int32} {s0 : Int32} {z : Nat} {h : AH} {o : Int32 × Nat × AH} (hf : bX9_placeOf_33 q4 a0 x1 x3 s0 z h = some o) : J g MX9_placeOf (jN g (some (.int o.1), o.2.1, o.2.2) rmX9_placeOf.cells rmX9_placeOf.slots) 33 [some (.ref a0), some (.int x1), none, some (.int x3)] [.int s0] z h 0 0 := by
  unfold bX9_placeOf_33 at hf
  refine S_istore_n_2 dX9_placeOf_33 rfl (by decide) ?_
  refine S_iinc_3 (v := x3 + 1) dX9_placeOf_34 (congrArg (fun w => x3 + w) (by decide)) rfl (by decide) ?_
  refine J_goto (tgt := 4) dX9_placeOf_37 (by decide) ?_
  refine J.sub (jsub_s (jsub_s (jsub_s (jsub_s (jsub_nil _))))) ?_
  exact hq4 _ _ _ _ _ _ _ hf
theorem wlX9_placeOf_4 {g : JG} (hst : (jl g).stackTraces = false)   : ∀ (fuel : Nat) (a0 : Nat) (x1 : Int32) (x2 : Int32) (x3 : Int32) (z : Nat) (h : AH) (o : Int32 × Nat × AH), lX9_placeOf_4  fuel a0 x1 x2 x3 z h = some o → J g MX9_placeOf (jN g (some (.int o.1), o.2.1, o.2.2) rmX9_placeOf.cells rmX9_placeOf.slots) 4 [some (.ref a0), some (.int x1), some (.int x2), some (.int x3)] [] z h 0 0 := by
  intro fuel
  induction fuel with
  | zero => intro a0 x1 x2 x3 z h o hf; cases hf
  | succ fuel ih =>
    intro a0 x1 x2 x3 z h o hf
    have hq4 := ih
    have hf : lX9_placeOf_4B  (lX9_placeOf_4  fuel) a0 x1 x2 x3 z h = some o := hf
    generalize lX9_placeOf_4  fuel = q4 at hf hq4
    unfold lX9_placeOf_4B at hf
    refine J_iload_n dX9_placeOf_4 rfl rfl ?_
    refine J_aload_n dX9_placeOf_5 rfl rfl ?_
    obtain ⟨k1, hf⟩ := gds hf
    obtain ⟨b2, rb2, hf⟩ := rfs hf
    refine G_9_0 dX9_placeOf_6 tk_919 k1 rb2 ?_
    refine J_bipush (v := 21) dX9_placeOf_9 (by decide) ?_
    obtain ⟨k3, hf⟩ := gds hf
    obtain ⟨n4, hf⟩ := gds hf
    refine J_iaload dX9_placeOf_11 k3 n4 ?_
    rcases br hf with ⟨c5, hf⟩ | ⟨c5, hf⟩
    · refine J_icmp_ge (tgt := 40) dX9_placeOf_12 (by decide) (fun _ => ?_) (fun w => absurd c5 w)
      refine J_iload_n dX9_placeOf_40 rfl rfl ?_
      cases hf
      exact J_iretN dX9_placeOf_41 rfl (by decide) (by decide)
    · refine J_icmp_ge (tgt := 40) dX9_placeOf_12 (by decide) (fun w => absurd w c5) (fun _ => ?_)
      refine J_aload_n dX9_placeOf_15 rfl rfl ?_
      obtain ⟨b6, rb6, hf⟩ := rfs hf
      refine G_9_0 dX9_placeOf_16 tk_919 k1 rb6 ?_
      refine J_bipush (v := 22) dX9_placeOf_19 (by decide) ?_
      refine J_iload_n dX9_placeOf_21 rfl rfl ?_
      refine J_iadd dX9_placeOf_22 ?_
      obtain ⟨k7, hf⟩ := gds hf
      obtain ⟨n8, hf⟩ := gds hf
      refine J_iaload dX9_placeOf_23 k7 n8 ?_
      refine J_iload_n dX9_placeOf_24 rfl rfl ?_
      rcases br hf with ⟨c9, hf⟩ | ⟨c9, hf⟩
      · refine J_icmp_ne (tgt := 32) dX9_placeOf_25 (by decide) (fun w => absurd c9 w) (fun _ => ?_)
        refine J_iload_n dX9_placeOf_28 rfl rfl ?_
        refine J_goto (tgt := 33) dX9_placeOf_29 (by decide) ?_
        refine J.sub (jsub_s (jsub_s (jsub_n (jsub_s (jsub_nil _))))) ?_
        exact wbX9_placeOf_33 hst _ hq4 hf
      · refine J_icmp_ne (tgt := 32) dX9_placeOf_25 (by decide) (fun _ => ?_) (fun w => absurd w c9)
        refine J_iload_n dX9_placeOf_32 rfl rfl ?_
        refine J.sub (jsub_s (jsub_s (jsub_n (jsub_s (jsub_nil _))))) ?_
        exact wbX9_placeOf_33 hst _ hq4 hf
theorem wfX9_placeOf {g : JG} (hst : (jl g).stackTraces = false)   {a0 : Nat} {x1 : Int32} {z : Nat} {h : AH} {o : Int32 × Nat × AH} (hf : fX9_placeOf  a0 x1 z h = some o) : J g MX9_placeOf (jN g (some (.int o.1), o.2.1, o.2.2) rmX9_placeOf.cells rmX9_placeOf.slots) 0 [some (.ref a0), some (.int x1), none, none] [] z h 0 0 := by
  unfold fX9_placeOf at hf
  refine J_iconst (v := (-1)) dX9_placeOf_0 (by decide) ?_
  refine S_istore_n_2 dX9_placeOf_1 rfl (by decide) ?_
  refine J_iconst (v := 0) dX9_placeOf_2 (by decide) ?_
  refine S_istore_n_3 dX9_placeOf_3 rfl (by decide) ?_
  refine J.sub (jsub_s (jsub_s (jsub_s (jsub_s (jsub_nil _))))) ?_
  exact wlX9_placeOf_4 hst   _ _ _ _ _ _ _ _ hf
theorem mX9_placeOf {g : JG} (hst : (jl g).stackTraces = false) {a0 : Nat} {x1 : Int32} {z : Nat} {h : AH} {o : Int32 × Nat × AH} (hf : fX9_placeOf a0 x1 z h = some o) : jMet g yX9_placeOf (wj yX9_placeOf cX9_placeOf 4 (some .int)) rmX9_placeOf [.ref a0, .int x1] z h (some (.int o.1), o.2.1, o.2.2) :=
  jMet_mk (by decide) (Nat.le_of_ble_eq_true rfl) [some (.ref a0), some (.int x1), none, none] rfl (wfX9_placeOf hst hf)
def lX9_leaves_24B  (q24 : Nat → Int32 → Nat → AH → Option (Nat × AH)) (a0 : Nat) (x3 : Int32) (z : Nat) (h : AH) : Option (Nat × AH) :=
  gd (kd h a0 = 10) (Option.bind (rv h a0 0) (fun b2 => gd (kd h b2 = 13) (gd (¬ ((21 : Int32) < 0 ∨ ln h b2 ≤ Int32.toNatClampNeg 21)) ((if (iv h b2 (Int32.toNatClampNeg 21)) ≤ x3 then (some (z, h)) else (Option.bind (rv h a0 0) (fun b6 => Option.bind (rv h a0 0) (fun b7 => gd (kd h b7 = 13) (gd (¬ ((((22 + x3) + 1) : Int32) < 0 ∨ ln h b7 ≤ Int32.toNatClampNeg ((22 + x3) + 1))) (gd (kd h b6 = 13) (gd (¬ (((22 + x3) : Int32) < 0 ∨ ln h b6 ≤ Int32.toNatClampNeg (22 + x3))) (bl (wI h b6 (Int32.toNatClampNeg (22 + x3)) (iv h b7 (Int32.toNatClampNeg ((22 + x3) + 1)))) (fun h12 => q24 a0 (x3 + 1) z h12)))))))))))))
def lX9_leaves_24  : Nat → Nat → Int32 → Nat → AH → Option (Nat × AH)
  | 0 => fun _ _ _ _ => none
  | fuel + 1 => lX9_leaves_24B  (lX9_leaves_24  fuel)
def fX9_leaves  (a0 : Nat) (x1 : Int32) (z : Nat) (h : AH) : Option (Nat × AH) :=
  gd (kd h a0 = 10) (bd3 (fX9_placeOf a0 x1 z h) (fun vo2 zo2 ho2h => (if vo2 = (-1) then (some (zo2, ho2h)) else (gd (kd ho2h a0 = 10) (Option.bind (rv ho2h a0 0) (fun b5 => gd (kd ho2h b5 = 13) (gd (¬ ((21 : Int32) < 0 ∨ ln ho2h b5 ≤ Int32.toNatClampNeg 21)) (gd (¬ ((21 : Int32) < 0 ∨ ln ho2h b5 ≤ Int32.toNatClampNeg 21)) (bl (wI ho2h b5 (Int32.toNatClampNeg 21) ((iv ho2h b5 (Int32.toNatClampNeg 21)) - 1)) (fun h9 => lX9_leaves_24  fu a0 vo2 zo2 h9))))))))))
theorem wlX9_leaves_24 {g : JG} (hst : (jl g).stackTraces = false)   : ∀ (fuel : Nat) (a0 : Nat) (x3 : Int32) (z : Nat) (h : AH) (o : Nat × AH), lX9_leaves_24  fuel a0 x3 z h = some o → J g MX9_leaves (jN g (none, o.1, o.2) rmX9_leaves.cells rmX9_leaves.slots) 24 [some (.ref a0), none, none, some (.int x3)] [] z h 0 0 := by
  intro fuel
  induction fuel with
  | zero => intro a0 x3 z h o hf; cases hf
  | succ fuel ih =>
    intro a0 x3 z h o hf
    have hq24 := ih
    have hf : lX9_leaves_24B  (lX9_leaves_24  fuel) a0 x3 z h = some o := hf
    generalize lX9_leaves_24  fuel = q24 at hf hq24
    unfold lX9_leaves_24B at hf
    refine J_iload_n dX9_leaves_24 rfl rfl ?_
    refine J_aload_n dX9_leaves_25 rfl rfl ?_
    obtain ⟨k1, hf⟩ := gds hf
    obtain ⟨b2, rb2, hf⟩ := rfs hf
    refine G_9_0 dX9_leaves_26 tk_919 k1 rb2 ?_
    refine J_bipush (v := 21) dX9_leaves_29 (by decide) ?_
    obtain ⟨k3, hf⟩ := gds hf
    obtain ⟨n4, hf⟩ := gds hf
    refine J_iaload dX9_leaves_31 k3 n4 ?_
    rcases br hf with ⟨c5, hf⟩ | ⟨c5, hf⟩
    · refine J_icmp_ge (tgt := 61) dX9_leaves_32 (by decide) (fun _ => ?_) (fun w => absurd c5 w)
      cases hf
      exact J_vretN dX9_leaves_61 rfl (by decide) (by decide)
    · refine J_icmp_ge (tgt := 61) dX9_leaves_32 (by decide) (fun w => absurd w c5) (fun _ => ?_)
      refine J_aload_n dX9_leaves_35 rfl rfl ?_
      obtain ⟨b6, rb6, hf⟩ := rfs hf
      refine G_9_0 dX9_leaves_36 tk_919 k1 rb6 ?_
      refine J_bipush (v := 22) dX9_leaves_39 (by decide) ?_
      refine J_iload_n dX9_leaves_41 rfl rfl ?_
      refine J_iadd dX9_leaves_42 ?_
      refine J_aload_n dX9_leaves_43 rfl rfl ?_
      obtain ⟨b7, rb7, hf⟩ := rfs hf
      refine G_9_0 dX9_leaves_44 tk_919 k1 rb7 ?_
      refine J_bipush (v := 22) dX9_leaves_47 (by decide) ?_
      refine J_iload_n dX9_leaves_49 rfl rfl ?_
      refine J_iadd dX9_leaves_50 ?_
      refine J_iconst (v := 1) dX9_leaves_51 (by decide) ?_
      refine J_iadd dX9_leaves_52 ?_
      obtain ⟨k8, hf⟩ := gds hf
      obtain ⟨n9, hf⟩ := gds hf
      refine J_iaload dX9_leaves_53 k8 n9 ?_
      obtain ⟨k10, hf⟩ := gds hf
      obtain ⟨n11, hf⟩ := gds hf
      refine J_iastore dX9_leaves_54 k10 n11 ?_
      obtain ⟨h12, eh12, hf⟩ := bls hf
      refine J_h eh12 ?_
      refine S_iinc_3 (v := x3 + 1) dX9_leaves_55 (congrArg (fun w => x3 + w) (by decide)) rfl (by decide) ?_
      refine J_goto (tgt := 24) dX9_leaves_58 (by decide) ?_
      refine J.sub (jsub_s (jsub_n (jsub_n (jsub_s (jsub_nil _))))) ?_
      exact hq24 _ _ _ _ _ hf
theorem wfX9_leaves {g : JG} (hst : (jl g).stackTraces = false)   {a0 : Nat} {x1 : Int32} {z : Nat} {h : AH} {o : Nat × AH} (hf : fX9_leaves  a0 x1 z h = some o) : J g MX9_leaves (jN g (none, o.1, o.2) rmX9_leaves.cells rmX9_leaves.slots) 0 [some (.ref a0), some (.int x1), none, none] [] z h 0 0 := by
  unfold fX9_leaves at hf
  refine J_aload_n dX9_leaves_0 rfl rfl ?_
  refine J_iload_n dX9_leaves_1 rfl rfl ?_
  obtain ⟨k1, hf⟩ := gds hf
  obtain ⟨vo2, zo2, ho2h, ho2, hf⟩ := rfs3 hf
  refine CV1i dX9_leaves_2 (mX9_placeOf hst ho2) tk_1083 iX9_placeOf k1 (by decide) rfl ⟨by decide, by decide⟩ ⟨by decide, by decide⟩ (Nat.le_of_ble_eq_true rfl) ?_
  refine S_istore_n_2 dX9_leaves_5 rfl (by decide) ?_
  refine J_iload_n dX9_leaves_6 rfl rfl ?_
  refine J_iconst (v := (-1)) dX9_leaves_7 (by decide) ?_
  rcases br hf with ⟨c3, hf⟩ | ⟨c3, hf⟩
  · refine J_icmp_eq (tgt := 61) dX9_leaves_8 (by decide) (fun _ => ?_) (fun w => absurd c3 w)
    cases hf
    exact J_vretN dX9_leaves_61 rfl (by decide) (by decide)
  · refine J_icmp_eq (tgt := 61) dX9_leaves_8 (by decide) (fun w => absurd w c3) (fun _ => ?_)
    refine J_aload_n dX9_leaves_11 rfl rfl ?_
    obtain ⟨k4, hf⟩ := gds hf
    obtain ⟨b5, rb5, hf⟩ := rfs hf
    refine G_9_0 dX9_leaves_12 tk_919 k4 rb5 ?_
    refine J_bipush (v := 21) dX9_leaves_15 (by decide) ?_
    refine J_dup2 dX9_leaves_17 rfl rfl ?_
    obtain ⟨k6, hf⟩ := gds hf
    obtain ⟨n7, hf⟩ := gds hf
    refine J_iaload dX9_leaves_18 k6 n7 ?_
    refine J_iconst (v := 1) dX9_leaves_19 (by decide) ?_
    refine J_isub dX9_leaves_20 ?_
    obtain ⟨n8, hf⟩ := gds hf
    refine J_iastore dX9_leaves_21 k6 n8 ?_
    obtain ⟨h9, eh9, hf⟩ := bls hf
    refine J_h eh9 ?_
    refine J_iload_n dX9_leaves_22 rfl rfl ?_
    refine S_istore_n_3 dX9_leaves_23 rfl (by decide) ?_
    refine J.sub (jsub_s (jsub_n (jsub_n (jsub_s (jsub_nil _))))) ?_
    exact wlX9_leaves_24 hst   _ _ _ _ _ _ hf
theorem mX9_leaves {g : JG} (hst : (jl g).stackTraces = false) {a0 : Nat} {x1 : Int32} {z : Nat} {h : AH} {o : Nat × AH} (hf : fX9_leaves a0 x1 z h = some o) : jMet g yX9_leaves (wj yX9_leaves cX9_leaves 4 none) rmX9_leaves [.ref a0, .int x1] z h (none, o.1, o.2) :=
  jMet_mk (by decide) (Nat.le_of_ble_eq_true rfl) [some (.ref a0), some (.int x1), none, none] rfl (wfX9_leaves hst hf)
def fX9_ends  (a0 : Nat) (x1 : Int32) (z : Nat) (h : AH) : Option (Nat × AH) :=
  gd (kd h a0 = 10) (bd2 (fX9_leaves a0 x1 z h) (fun zo2 ho2h => gd (kd ho2h a0 = 10) (bd2 (fX9_puts a0 x1 3 0 zo2 ho2h) (fun zo4 ho4h => gd (kd ho4h a0 = 10) (bd2 (fX9_puts a0 x1 4 2 zo4 ho4h) (fun zo6 ho6h => gd (kd ho6h a0 = 10) (Option.bind (rv ho6h a0 3) (fun b8 => gd (kd ho6h b8 = 13) (gd (¬ ((6 : Int32) < 0 ∨ ln ho6h b8 ≤ Int32.toNatClampNeg 6)) (gd (¬ ((6 : Int32) < 0 ∨ ln ho6h b8 ≤ Int32.toNatClampNeg 6)) (bl (wI ho6h b8 (Int32.toNatClampNeg 6) ((iv ho6h b8 (Int32.toNatClampNeg 6)) + 1)) (fun h12 => some (zo6, h12)))))))))))))
theorem wfX9_ends {g : JG} (hst : (jl g).stackTraces = false)   {a0 : Nat} {x1 : Int32} {z : Nat} {h : AH} {o : Nat × AH} (hf : fX9_ends  a0 x1 z h = some o) : J g MX9_ends (jN g (none, o.1, o.2) rmX9_ends.cells rmX9_ends.slots) 0 [some (.ref a0), some (.int x1)] [] z h 0 0 := by
  unfold fX9_ends at hf
  refine J_aload_n dX9_ends_0 rfl rfl ?_
  refine J_iload_n dX9_ends_1 rfl rfl ?_
  obtain ⟨k1, hf⟩ := gds hf
  obtain ⟨zo2, ho2h, ho2, hf⟩ := rfs2 hf
  refine CV1v dX9_ends_2 (mX9_leaves hst ho2) tk_1079 iX9_leaves k1 (by decide) rfl ⟨by decide, by decide⟩ ⟨by decide, by decide⟩ (Nat.le_of_ble_eq_true rfl) ?_
  refine J_aload_n dX9_ends_5 rfl rfl ?_
  refine J_iload_n dX9_ends_6 rfl rfl ?_
  refine J_iconst (v := 3) dX9_ends_7 (by decide) ?_
  refine J_iconst (v := 0) dX9_ends_8 (by decide) ?_
  obtain ⟨k3, hf⟩ := gds hf
  obtain ⟨zo4, ho4h, ho4, hf⟩ := rfs2 hf
  refine CV3v dX9_ends_9 (mX9_puts hst ho4) tk_1039 iX9_puts k3 (by decide) rfl ⟨by decide, by decide⟩ ⟨by decide, by decide⟩ (Nat.le_of_ble_eq_true rfl) ?_
  refine J_aload_n dX9_ends_12 rfl rfl ?_
  refine J_iload_n dX9_ends_13 rfl rfl ?_
  refine J_iconst (v := 4) dX9_ends_14 (by decide) ?_
  refine J_iconst (v := 2) dX9_ends_15 (by decide) ?_
  obtain ⟨k5, hf⟩ := gds hf
  obtain ⟨zo6, ho6h, ho6, hf⟩ := rfs2 hf
  refine CV3v dX9_ends_16 (mX9_puts hst ho6) tk_1039 iX9_puts k5 (by decide) rfl ⟨by decide, by decide⟩ ⟨by decide, by decide⟩ (Nat.le_of_ble_eq_true rfl) ?_
  refine J_aload_n dX9_ends_19 rfl rfl ?_
  obtain ⟨k7, hf⟩ := gds hf
  obtain ⟨b8, rb8, hf⟩ := rfs hf
  refine G_9_3 dX9_ends_20 tk_922 k7 rb8 ?_
  refine J_bipush (v := 6) dX9_ends_23 (by decide) ?_
  refine J_dup2 dX9_ends_25 rfl rfl ?_
  obtain ⟨k9, hf⟩ := gds hf
  obtain ⟨n10, hf⟩ := gds hf
  refine J_iaload dX9_ends_26 k9 n10 ?_
  refine J_iconst (v := 1) dX9_ends_27 (by decide) ?_
  refine J_iadd dX9_ends_28 ?_
  obtain ⟨n11, hf⟩ := gds hf
  refine J_iastore dX9_ends_29 k9 n11 ?_
  obtain ⟨h12, eh12, hf⟩ := bls hf
  refine J_h eh12 ?_
  cases hf
  exact J_vretN dX9_ends_30 rfl (by decide) (by decide)
theorem mX9_ends {g : JG} (hst : (jl g).stackTraces = false) {a0 : Nat} {x1 : Int32} {z : Nat} {h : AH} {o : Nat × AH} (hf : fX9_ends a0 x1 z h = some o) : jMet g yX9_ends (wj yX9_ends cX9_ends 2 none) rmX9_ends [.ref a0, .int x1] z h (none, o.1, o.2) :=
  jMet_mk (by decide) (Nat.le_of_ble_eq_true rfl) [some (.ref a0), some (.int x1)] rfl (wfX9_ends hst hf)
def fX9_waits  (a0 : Nat) (x1 : Int32) (x2 : Int32) (z : Nat) (h : AH) : Option (Nat × AH) :=
  gd (kd h a0 = 10) (bd2 (fX9_puts a0 x1 4 1 z h) (fun zo2 ho2h => gd (kd ho2h a0 = 10) (bd2 (fX9_puts a0 x1 5 x2 zo2 ho2h) (fun zo4 ho4h => gd (kd ho4h a0 = 10) (Option.bind (rv ho4h a0 0) (fun b6 => Option.bind (rv ho4h a0 0) (fun b7 => gd (kd ho4h b7 = 13) (gd (¬ ((21 : Int32) < 0 ∨ ln ho4h b7 ≤ Int32.toNatClampNeg 21)) (gd (kd ho4h b6 = 13) (gd (¬ (((22 + (iv ho4h b7 (Int32.toNatClampNeg 21))) : Int32) < 0 ∨ ln ho4h b6 ≤ Int32.toNatClampNeg (22 + (iv ho4h b7 (Int32.toNatClampNeg 21))))) (bl (wI ho4h b6 (Int32.toNatClampNeg (22 + (iv ho4h b7 (Int32.toNatClampNeg 21)))) x1) (fun h12 => Option.bind (rv h12 a0 0) (fun b14 => gd (kd h12 b14 = 13) (gd (¬ ((21 : Int32) < 0 ∨ ln h12 b14 ≤ Int32.toNatClampNeg 21)) (gd (¬ ((21 : Int32) < 0 ∨ ln h12 b14 ≤ Int32.toNatClampNeg 21)) (bl (wI h12 b14 (Int32.toNatClampNeg 21) ((iv h12 b14 (Int32.toNatClampNeg 21)) + 1)) (fun h18 => some (zo4, h18))))))))))))))))))
theorem wfX9_waits {g : JG} (hst : (jl g).stackTraces = false)   {a0 : Nat} {x1 : Int32} {x2 : Int32} {z : Nat} {h : AH} {o : Nat × AH} (hf : fX9_waits  a0 x1 x2 z h = some o) : J g MX9_waits (jN g (none, o.1, o.2) rmX9_waits.cells rmX9_waits.slots) 0 [some (.ref a0), some (.int x1), some (.int x2)] [] z h 0 0 := by
  unfold fX9_waits at hf
  refine J_aload_n dX9_waits_0 rfl rfl ?_
  refine J_iload_n dX9_waits_1 rfl rfl ?_
  refine J_iconst (v := 4) dX9_waits_2 (by decide) ?_
  refine J_iconst (v := 1) dX9_waits_3 (by decide) ?_
  obtain ⟨k1, hf⟩ := gds hf
  obtain ⟨zo2, ho2h, ho2, hf⟩ := rfs2 hf
  refine CV3v dX9_waits_4 (mX9_puts hst ho2) tk_1039 iX9_puts k1 (by decide) rfl ⟨by decide, by decide⟩ ⟨by decide, by decide⟩ (Nat.le_of_ble_eq_true rfl) ?_
  refine J_aload_n dX9_waits_7 rfl rfl ?_
  refine J_iload_n dX9_waits_8 rfl rfl ?_
  refine J_iconst (v := 5) dX9_waits_9 (by decide) ?_
  refine J_iload_n dX9_waits_10 rfl rfl ?_
  obtain ⟨k3, hf⟩ := gds hf
  obtain ⟨zo4, ho4h, ho4, hf⟩ := rfs2 hf
  refine CV3v dX9_waits_11 (mX9_puts hst ho4) tk_1039 iX9_puts k3 (by decide) rfl ⟨by decide, by decide⟩ ⟨by decide, by decide⟩ (Nat.le_of_ble_eq_true rfl) ?_
  refine J_aload_n dX9_waits_14 rfl rfl ?_
  obtain ⟨k5, hf⟩ := gds hf
  obtain ⟨b6, rb6, hf⟩ := rfs hf
  refine G_9_0 dX9_waits_15 tk_919 k5 rb6 ?_
  refine J_bipush (v := 22) dX9_waits_18 (by decide) ?_
  refine J_aload_n dX9_waits_20 rfl rfl ?_
  obtain ⟨b7, rb7, hf⟩ := rfs hf
  refine G_9_0 dX9_waits_21 tk_919 k5 rb7 ?_
  refine J_bipush (v := 21) dX9_waits_24 (by decide) ?_
  obtain ⟨k8, hf⟩ := gds hf
  obtain ⟨n9, hf⟩ := gds hf
  refine J_iaload dX9_waits_26 k8 n9 ?_
  refine J_iadd dX9_waits_27 ?_
  refine J_iload_n dX9_waits_28 rfl rfl ?_
  obtain ⟨k10, hf⟩ := gds hf
  obtain ⟨n11, hf⟩ := gds hf
  refine J_iastore dX9_waits_29 k10 n11 ?_
  obtain ⟨h12, eh12, hf⟩ := bls hf
  refine J_h eh12 ?_
  refine J_aload_n dX9_waits_30 rfl rfl ?_
  have k13 : kd h12 a0 = 10 := by rw [eh12]; exact k5
  obtain ⟨b14, rb14, hf⟩ := rfs hf
  refine G_9_0 dX9_waits_31 tk_919 k13 rb14 ?_
  refine J_bipush (v := 21) dX9_waits_34 (by decide) ?_
  refine J_dup2 dX9_waits_36 rfl rfl ?_
  obtain ⟨k15, hf⟩ := gds hf
  obtain ⟨n16, hf⟩ := gds hf
  refine J_iaload dX9_waits_37 k15 n16 ?_
  refine J_iconst (v := 1) dX9_waits_38 (by decide) ?_
  refine J_iadd dX9_waits_39 ?_
  obtain ⟨n17, hf⟩ := gds hf
  refine J_iastore dX9_waits_40 k15 n17 ?_
  obtain ⟨h18, eh18, hf⟩ := bls hf
  refine J_h eh18 ?_
  cases hf
  exact J_vretN dX9_waits_41 rfl (by decide) (by decide)
theorem mX9_waits {g : JG} (hst : (jl g).stackTraces = false) {a0 : Nat} {x1 : Int32} {x2 : Int32} {z : Nat} {h : AH} {o : Nat × AH} (hf : fX9_waits a0 x1 x2 z h = some o) : jMet g yX9_waits (wj yX9_waits cX9_waits 3 none) rmX9_waits [.ref a0, .int x1, .int x2] z h (none, o.1, o.2) :=
  jMet_mk (by decide) (Nat.le_of_ble_eq_true rfl) [some (.ref a0), some (.int x1), some (.int x2)] rfl (wfX9_waits hst hf)
def fX9_grants  (a0 : Nat) (x1 : Int32) (x2 : Int32) (z : Nat) (h : AH) : Option (Nat × AH) :=
  gd (kd h a0 = 10) (bd3 (fX9_of a0 x1 3 z h) (fun vo2 zo2 ho2h => gd (kd ho2h a0 = 10) (bd2 (fX9_puts a0 x1 3 (vo2 ||| (1 <<< (x2 &&& 31))) zo2 ho2h) (fun zo4 ho4h => gd (kd ho4h a0 = 10) (bd2 (fX9_puts a0 x1 4 0 zo4 ho4h) (fun zo6 ho6h => gd (kd ho6h a0 = 10) (Option.bind (rv ho6h a0 3) (fun b8 => gd (kd ho6h b8 = 13) (gd (¬ ((7 : Int32) < 0 ∨ ln ho6h b8 ≤ Int32.toNatClampNeg 7)) (gd (¬ ((7 : Int32) < 0 ∨ ln ho6h b8 ≤ Int32.toNatClampNeg 7)) (bl (wI ho6h b8 (Int32.toNatClampNeg 7) ((iv ho6h b8 (Int32.toNatClampNeg 7)) + 1)) (fun h12 => some (zo6, h12)))))))))))))
theorem wfX9_grants {g : JG} (hst : (jl g).stackTraces = false)   {a0 : Nat} {x1 : Int32} {x2 : Int32} {z : Nat} {h : AH} {o : Nat × AH} (hf : fX9_grants  a0 x1 x2 z h = some o) : J g MX9_grants (jN g (none, o.1, o.2) rmX9_grants.cells rmX9_grants.slots) 0 [some (.ref a0), some (.int x1), some (.int x2)] [] z h 0 0 := by
  unfold fX9_grants at hf
  refine J_aload_n dX9_grants_0 rfl rfl ?_
  refine J_iload_n dX9_grants_1 rfl rfl ?_
  refine J_iconst (v := 3) dX9_grants_2 (by decide) ?_
  refine J_aload_n dX9_grants_3 rfl rfl ?_
  refine J_iload_n dX9_grants_4 rfl rfl ?_
  refine J_iconst (v := 3) dX9_grants_5 (by decide) ?_
  obtain ⟨k1, hf⟩ := gds hf
  obtain ⟨vo2, zo2, ho2h, ho2, hf⟩ := rfs3 hf
  refine CV2i dX9_grants_6 (mX9_of hst ho2) tk_1023 iX9_of k1 (by decide) rfl ⟨by decide, by decide⟩ ⟨by decide, by decide⟩ (Nat.le_of_ble_eq_true rfl) ?_
  refine J_iconst (v := 1) dX9_grants_9 (by decide) ?_
  refine J_iload_n dX9_grants_10 rfl rfl ?_
  refine J_ishl dX9_grants_11 ?_
  refine J_ior dX9_grants_12 ?_
  obtain ⟨k3, hf⟩ := gds hf
  obtain ⟨zo4, ho4h, ho4, hf⟩ := rfs2 hf
  refine CV3v dX9_grants_13 (mX9_puts hst ho4) tk_1039 iX9_puts k3 (by decide) rfl ⟨by decide, by decide⟩ ⟨by decide, by decide⟩ (Nat.le_of_ble_eq_true rfl) ?_
  refine J_aload_n dX9_grants_16 rfl rfl ?_
  refine J_iload_n dX9_grants_17 rfl rfl ?_
  refine J_iconst (v := 4) dX9_grants_18 (by decide) ?_
  refine J_iconst (v := 0) dX9_grants_19 (by decide) ?_
  obtain ⟨k5, hf⟩ := gds hf
  obtain ⟨zo6, ho6h, ho6, hf⟩ := rfs2 hf
  refine CV3v dX9_grants_20 (mX9_puts hst ho6) tk_1039 iX9_puts k5 (by decide) rfl ⟨by decide, by decide⟩ ⟨by decide, by decide⟩ (Nat.le_of_ble_eq_true rfl) ?_
  refine J_aload_n dX9_grants_23 rfl rfl ?_
  obtain ⟨k7, hf⟩ := gds hf
  obtain ⟨b8, rb8, hf⟩ := rfs hf
  refine G_9_3 dX9_grants_24 tk_922 k7 rb8 ?_
  refine J_bipush (v := 7) dX9_grants_27 (by decide) ?_
  refine J_dup2 dX9_grants_29 rfl rfl ?_
  obtain ⟨k9, hf⟩ := gds hf
  obtain ⟨n10, hf⟩ := gds hf
  refine J_iaload dX9_grants_30 k9 n10 ?_
  refine J_iconst (v := 1) dX9_grants_31 (by decide) ?_
  refine J_iadd dX9_grants_32 ?_
  obtain ⟨n11, hf⟩ := gds hf
  refine J_iastore dX9_grants_33 k9 n11 ?_
  obtain ⟨h12, eh12, hf⟩ := bls hf
  refine J_h eh12 ?_
  cases hf
  exact J_vretN dX9_grants_34 rfl (by decide) (by decide)
theorem mX9_grants {g : JG} (hst : (jl g).stackTraces = false) {a0 : Nat} {x1 : Int32} {x2 : Int32} {z : Nat} {h : AH} {o : Nat × AH} (hf : fX9_grants a0 x1 x2 z h = some o) : jMet g yX9_grants (wj yX9_grants cX9_grants 3 none) rmX9_grants [.ref a0, .int x1, .int x2] z h (none, o.1, o.2) :=
  jMet_mk (by decide) (Nat.le_of_ble_eq_true rfl) [some (.ref a0), some (.int x1), some (.int x2)] rfl (wfX9_grants hst hf)
def fX9_isWaiting  (a0 : Nat) (x1 : Int32) (z : Nat) (h : AH) : Option (Int32 × Nat × AH) :=
  gd (kd h a0 = 10) (bd3 (fX9_isTask a0 x1 z h) (fun vo2 zo2 ho2h => (if vo2 = 0 then (some (0, zo2, ho2h)) else (gd (kd ho2h a0 = 10) (bd3 (fX9_of a0 x1 4 zo2 ho2h) (fun vo5 zo5 ho5h => (if vo5 = 1 then (some (1, zo5, ho5h)) else (some (0, zo5, ho5h)))))))))
theorem wfX9_isWaiting {g : JG} (hst : (jl g).stackTraces = false)   {a0 : Nat} {x1 : Int32} {z : Nat} {h : AH} {o : Int32 × Nat × AH} (hf : fX9_isWaiting  a0 x1 z h = some o) : J g MX9_isWaiting (jN g (some (.int o.1), o.2.1, o.2.2) rmX9_isWaiting.cells rmX9_isWaiting.slots) 0 [some (.ref a0), some (.int x1)] [] z h 0 0 := by
  unfold fX9_isWaiting at hf
  refine J_aload_n dX9_isWaiting_0 rfl rfl ?_
  refine J_iload_n dX9_isWaiting_1 rfl rfl ?_
  obtain ⟨k1, hf⟩ := gds hf
  obtain ⟨vo2, zo2, ho2h, ho2, hf⟩ := rfs3 hf
  refine CV1i dX9_isWaiting_2 (mX9_isTask hst ho2) tk_1019 iX9_isTask k1 (by decide) rfl ⟨by decide, by decide⟩ ⟨by decide, by decide⟩ (Nat.le_of_ble_eq_true rfl) ?_
  rcases br hf with ⟨c3, hf⟩ | ⟨c3, hf⟩
  · refine J_if_eq (tgt := 22) dX9_isWaiting_5 (by decide) (fun _ => ?_) (fun w => absurd c3 w)
    refine J_iconst (v := 0) dX9_isWaiting_22 (by decide) ?_
    cases hf
    exact J_zretN dX9_isWaiting_23 rfl (Or.inl rfl) (by decide) (by decide)
  · refine J_if_eq (tgt := 22) dX9_isWaiting_5 (by decide) (fun w => absurd w c3) (fun _ => ?_)
    refine J_aload_n dX9_isWaiting_8 rfl rfl ?_
    refine J_iload_n dX9_isWaiting_9 rfl rfl ?_
    refine J_iconst (v := 4) dX9_isWaiting_10 (by decide) ?_
    obtain ⟨k4, hf⟩ := gds hf
    obtain ⟨vo5, zo5, ho5h, ho5, hf⟩ := rfs3 hf
    refine CV2i dX9_isWaiting_11 (mX9_of hst ho5) tk_1023 iX9_of k4 (by decide) rfl ⟨by decide, by decide⟩ ⟨by decide, by decide⟩ (Nat.le_of_ble_eq_true rfl) ?_
    refine J_iconst (v := 1) dX9_isWaiting_14 (by decide) ?_
    rcases br hf with ⟨c6, hf⟩ | ⟨c6, hf⟩
    · refine J_icmp_ne (tgt := 22) dX9_isWaiting_15 (by decide) (fun w => absurd c6 w) (fun _ => ?_)
      refine J_iconst (v := 1) dX9_isWaiting_18 (by decide) ?_
      refine J_goto (tgt := 23) dX9_isWaiting_19 (by decide) ?_
      cases hf
      exact J_zretN dX9_isWaiting_23 rfl (Or.inr rfl) (by decide) (by decide)
    · refine J_icmp_ne (tgt := 22) dX9_isWaiting_15 (by decide) (fun _ => ?_) (fun w => absurd w c6)
      refine J_iconst (v := 0) dX9_isWaiting_22 (by decide) ?_
      cases hf
      exact J_zretN dX9_isWaiting_23 rfl (Or.inl rfl) (by decide) (by decide)
theorem mX9_isWaiting {g : JG} (hst : (jl g).stackTraces = false) {a0 : Nat} {x1 : Int32} {z : Nat} {h : AH} {o : Int32 × Nat × AH} (hf : fX9_isWaiting a0 x1 z h = some o) : jMet g yX9_isWaiting (wj yX9_isWaiting cX9_isWaiting 2 (some .boolean)) rmX9_isWaiting [.ref a0, .int x1] z h (some (.int o.1), o.2.1, o.2.2) :=
  jMet_mk (by decide) (Nat.le_of_ble_eq_true rfl) [some (.ref a0), some (.int x1)] rfl (wfX9_isWaiting hst hf)
def fX9_waitsFor  (a0 : Nat) (x1 : Int32) (z : Nat) (h : AH) : Option (Int32 × Nat × AH) :=
  gd (kd h a0 = 10) (bd3 (fX9_isWaiting a0 x1 z h) (fun vo2 zo2 ho2h => (if vo2 = 0 then (some (0, zo2, ho2h)) else (gd (kd ho2h a0 = 10) (bd3 (fX9_of a0 x1 5 zo2 ho2h) (fun vo5 zo5 ho5h => gd (kd ho5h a0 = 10) (bd3 (fX9_inTheWay a0 x1 vo5 zo5 ho5h) (fun vo7 zo7 ho7h => some (vo7, zo7, ho7h)))))))))
theorem wfX9_waitsFor {g : JG} (hst : (jl g).stackTraces = false)   {a0 : Nat} {x1 : Int32} {z : Nat} {h : AH} {o : Int32 × Nat × AH} (hf : fX9_waitsFor  a0 x1 z h = some o) : J g MX9_waitsFor (jN g (some (.int o.1), o.2.1, o.2.2) rmX9_waitsFor.cells rmX9_waitsFor.slots) 0 [some (.ref a0), some (.int x1)] [] z h 0 0 := by
  unfold fX9_waitsFor at hf
  refine J_aload_n dX9_waitsFor_0 rfl rfl ?_
  refine J_iload_n dX9_waitsFor_1 rfl rfl ?_
  obtain ⟨k1, hf⟩ := gds hf
  obtain ⟨vo2, zo2, ho2h, ho2, hf⟩ := rfs3 hf
  refine CV1i dX9_waitsFor_2 (mX9_isWaiting hst ho2) tk_1103 iX9_isWaiting k1 (by decide) rfl ⟨by decide, by decide⟩ ⟨by decide, by decide⟩ (Nat.le_of_ble_eq_true rfl) ?_
  rcases br hf with ⟨c3, hf⟩ | ⟨c3, hf⟩
  · refine J_if_eq (tgt := 22) dX9_waitsFor_5 (by decide) (fun _ => ?_) (fun w => absurd c3 w)
    refine J_iconst (v := 0) dX9_waitsFor_22 (by decide) ?_
    cases hf
    exact J_iretN dX9_waitsFor_23 rfl (by decide) (by decide)
  · refine J_if_eq (tgt := 22) dX9_waitsFor_5 (by decide) (fun w => absurd w c3) (fun _ => ?_)
    refine J_aload_n dX9_waitsFor_8 rfl rfl ?_
    refine J_iload_n dX9_waitsFor_9 rfl rfl ?_
    refine J_aload_n dX9_waitsFor_10 rfl rfl ?_
    refine J_iload_n dX9_waitsFor_11 rfl rfl ?_
    refine J_iconst (v := 5) dX9_waitsFor_12 (by decide) ?_
    obtain ⟨k4, hf⟩ := gds hf
    obtain ⟨vo5, zo5, ho5h, ho5, hf⟩ := rfs3 hf
    refine CV2i dX9_waitsFor_13 (mX9_of hst ho5) tk_1023 iX9_of k4 (by decide) rfl ⟨by decide, by decide⟩ ⟨by decide, by decide⟩ (Nat.le_of_ble_eq_true rfl) ?_
    obtain ⟨k6, hf⟩ := gds hf
    obtain ⟨vo7, zo7, ho7h, ho7, hf⟩ := rfs3 hf
    refine CV2i dX9_waitsFor_16 (mX9_inTheWay hst ho7) tk_1067 iX9_inTheWay k6 (by decide) rfl ⟨by decide, by decide⟩ ⟨by decide, by decide⟩ (Nat.le_of_ble_eq_true rfl) ?_
    refine J_goto (tgt := 23) dX9_waitsFor_19 (by decide) ?_
    cases hf
    exact J_iretN dX9_waitsFor_23 rfl (by decide) (by decide)
theorem mX9_waitsFor {g : JG} (hst : (jl g).stackTraces = false) {a0 : Nat} {x1 : Int32} {z : Nat} {h : AH} {o : Int32 × Nat × AH} (hf : fX9_waitsFor a0 x1 z h = some o) : jMet g yX9_waitsFor (wj yX9_waitsFor cX9_waitsFor 2 (some .int)) rmX9_waitsFor [.ref a0, .int x1] z h (some (.int o.1), o.2.1, o.2.2) :=
  jMet_mk (by decide) (Nat.le_of_ble_eq_true rfl) [some (.ref a0), some (.int x1)] rfl (wfX9_waitsFor hst hf)
def bX9_settles_68 (q2 : Nat → Int32 → Nat → AH → Option (Nat × AH)) (a0 : Nat) (s0 : Int32) (z : Nat) (h : AH) : Option (Nat × AH) :=
  q2 a0 s0 z h
def bX9_settles_57 (q2 : Nat → Int32 → Nat → AH → Option (Nat × AH)) (a0 : Nat) (x1 : Int32) (x3 : Int32) (z : Nat) (h : AH) : Option (Nat × AH) :=
  (if x3 = 0 then (bX9_settles_68 q2 a0 (x1 + 1) z h) else (bX9_settles_68 q2 a0 0 z h))
def bX9_settles_36 (q2 : Nat → Int32 → Nat → AH → Option (Nat × AH)) (a0 : Nat) (x1 : Int32) (x2 : Int32) (s0 : Int32) (z : Nat) (h : AH) : Option (Nat × AH) :=
  (if s0 = 0 then (bX9_settles_57 q2 a0 x1 s0 z h) else (gd (kd h a0 = 10) (bd2 (fX9_leaves a0 x2 z h) (fun zo3 ho3h => gd (kd ho3h a0 = 10) (bd3 (fX9_of a0 x2 5 zo3 ho3h) (fun vo5 zo5 ho5h => gd (kd ho5h a0 = 10) (bd2 (fX9_grants a0 x2 vo5 zo5 ho5h) (fun zo7 ho7h => bX9_settles_57 q2 a0 x1 s0 zo7 ho7h))))))))
def lX9_settles_2B  (q2 : Nat → Int32 → Nat → AH → Option (Nat × AH)) (a0 : Nat) (x1 : Int32) (z : Nat) (h : AH) : Option (Nat × AH) :=
  gd (kd h a0 = 10) (Option.bind (rv h a0 0) (fun b2 => gd (kd h b2 = 13) (gd (¬ ((21 : Int32) < 0 ∨ ln h b2 ≤ Int32.toNatClampNeg 21)) ((if (iv h b2 (Int32.toNatClampNeg 21)) ≤ x1 then (some (z, h)) else (Option.bind (rv h a0 0) (fun b6 => gd (kd h b6 = 13) (gd (¬ (((22 + x1) : Int32) < 0 ∨ ln h b6 ≤ Int32.toNatClampNeg (22 + x1))) (bl ((iv h b6 (Int32.toNatClampNeg (22 + x1)))) (fun v9 => bd3 (fX9_waitsFor a0 v9 z h) (fun vo10 zo10 ho10h => (if vo10 = 0 then (bX9_settles_36 q2 a0 x1 v9 1 zo10 ho10h) else (bX9_settles_36 q2 a0 x1 v9 0 zo10 ho10h)))))))))))))
def lX9_settles_2  : Nat → Nat → Int32 → Nat → AH → Option (Nat × AH)
  | 0 => fun _ _ _ _ => none
  | fuel + 1 => lX9_settles_2B  (lX9_settles_2  fuel)
def fX9_settles  (a0 : Nat) (z : Nat) (h : AH) : Option (Nat × AH) :=
  lX9_settles_2  fu a0 0 z h
theorem wbX9_settles_68 {g : JG} (hst : (jl g).stackTraces = false) (q2 : Nat → Int32 → Nat → AH → Option (Nat × AH)) (hq2 : ∀ (a0 : Nat) (x1 : Int32) (z : Nat) (h : AH) (o : Nat × AH), q2 a0 x1 z h = some o → J g MX9_settles (jN g (none, o.1, o.2) rmX9_settles.cells rmX9_settles.slots) 2 [some (.ref a0), some (.int x1), none, none] [] z h 0 0) {a0 : Nat} {s0 : Int32} {z : Nat} {h : AH} {o : Nat × AH} (hf : bX9_settles_68 q2 a0 s0 z h = some o) : J g MX9_settles (jN g (none, o.1, o.2) rmX9_settles.cells rmX9_settles.slots) 68 [some (.ref a0), none, none, none] [.int s0] z h 0 0 := by
  unfold bX9_settles_68 at hf
  refine S_istore_n_1 dX9_settles_68 rfl (by decide) ?_
  refine J_goto (tgt := 2) dX9_settles_69 (by decide) ?_
  refine J.sub (jsub_s (jsub_s (jsub_n (jsub_n (jsub_nil _))))) ?_
  exact hq2 _ _ _ _ _ hf
theorem wbX9_settles_57 {g : JG} (hst : (jl g).stackTraces = false) (q2 : Nat → Int32 → Nat → AH → Option (Nat × AH)) (hq2 : ∀ (a0 : Nat) (x1 : Int32) (z : Nat) (h : AH) (o : Nat × AH), q2 a0 x1 z h = some o → J g MX9_settles (jN g (none, o.1, o.2) rmX9_settles.cells rmX9_settles.slots) 2 [some (.ref a0), some (.int x1), none, none] [] z h 0 0) {a0 : Nat} {x1 : Int32} {x3 : Int32} {z : Nat} {h : AH} {o : Nat × AH} (hf : bX9_settles_57 q2 a0 x1 x3 z h = some o) : J g MX9_settles (jN g (none, o.1, o.2) rmX9_settles.cells rmX9_settles.slots) 57 [some (.ref a0), some (.int x1), none, some (.int x3)] [] z h 0 0 := by
  unfold bX9_settles_57 at hf
  refine J_iload_n dX9_settles_57 rfl rfl ?_
  rcases br hf with ⟨c1, hf⟩ | ⟨c1, hf⟩
  · refine J_if_eq (tgt := 65) dX9_settles_58 (by decide) (fun _ => ?_) (fun w => absurd c1 w)
    refine J_iload_n dX9_settles_65 rfl rfl ?_
    refine J_iconst (v := 1) dX9_settles_66 (by decide) ?_
    refine J_iadd dX9_settles_67 ?_
    refine J.sub (jsub_s (jsub_n (jsub_n (jsub_n (jsub_nil _))))) ?_
    exact wbX9_settles_68 hst _ hq2 hf
  · refine J_if_eq (tgt := 65) dX9_settles_58 (by decide) (fun w => absurd w c1) (fun _ => ?_)
    refine J_iconst (v := 0) dX9_settles_61 (by decide) ?_
    refine J_goto (tgt := 68) dX9_settles_62 (by decide) ?_
    refine J.sub (jsub_s (jsub_n (jsub_n (jsub_n (jsub_nil _))))) ?_
    exact wbX9_settles_68 hst _ hq2 hf
theorem wbX9_settles_36 {g : JG} (hst : (jl g).stackTraces = false) (q2 : Nat → Int32 → Nat → AH → Option (Nat × AH)) (hq2 : ∀ (a0 : Nat) (x1 : Int32) (z : Nat) (h : AH) (o : Nat × AH), q2 a0 x1 z h = some o → J g MX9_settles (jN g (none, o.1, o.2) rmX9_settles.cells rmX9_settles.slots) 2 [some (.ref a0), some (.int x1), none, none] [] z h 0 0) {a0 : Nat} {x1 : Int32} {x2 : Int32} {s0 : Int32} {z : Nat} {h : AH} {o : Nat × AH} (hf : bX9_settles_36 q2 a0 x1 x2 s0 z h = some o) : J g MX9_settles (jN g (none, o.1, o.2) rmX9_settles.cells rmX9_settles.slots) 36 [some (.ref a0), some (.int x1), some (.int x2), none] [.int s0] z h 0 0 := by
  unfold bX9_settles_36 at hf
  refine S_istore_n_3 dX9_settles_36 rfl (by decide) ?_
  refine J_iload_n dX9_settles_37 rfl rfl ?_
  rcases br hf with ⟨c1, hf⟩ | ⟨c1, hf⟩
  · refine J_if_eq (tgt := 57) dX9_settles_38 (by decide) (fun _ => ?_) (fun w => absurd c1 w)
    refine J.sub (jsub_s (jsub_s (jsub_n (jsub_s (jsub_nil _))))) ?_
    exact wbX9_settles_57 hst _ hq2 hf
  · refine J_if_eq (tgt := 57) dX9_settles_38 (by decide) (fun w => absurd w c1) (fun _ => ?_)
    refine J_aload_n dX9_settles_41 rfl rfl ?_
    refine J_iload_n dX9_settles_42 rfl rfl ?_
    obtain ⟨k2, hf⟩ := gds hf
    obtain ⟨zo3, ho3h, ho3, hf⟩ := rfs2 hf
    refine CV1v dX9_settles_43 (mX9_leaves hst ho3) tk_1079 iX9_leaves k2 (by decide) rfl ⟨by decide, by decide⟩ ⟨by decide, by decide⟩ (Nat.le_of_ble_eq_true rfl) ?_
    refine J_aload_n dX9_settles_46 rfl rfl ?_
    refine J_iload_n dX9_settles_47 rfl rfl ?_
    refine J_aload_n dX9_settles_48 rfl rfl ?_
    refine J_iload_n dX9_settles_49 rfl rfl ?_
    refine J_iconst (v := 5) dX9_settles_50 (by decide) ?_
    obtain ⟨k4, hf⟩ := gds hf
    obtain ⟨vo5, zo5, ho5h, ho5, hf⟩ := rfs3 hf
    refine CV2i dX9_settles_51 (mX9_of hst ho5) tk_1023 iX9_of k4 (by decide) rfl ⟨by decide, by decide⟩ ⟨by decide, by decide⟩ (Nat.le_of_ble_eq_true rfl) ?_
    obtain ⟨k6, hf⟩ := gds hf
    obtain ⟨zo7, ho7h, ho7, hf⟩ := rfs2 hf
    refine CV2v dX9_settles_54 (mX9_grants hst ho7) tk_1091 iX9_grants k6 (by decide) rfl ⟨by decide, by decide⟩ ⟨by decide, by decide⟩ (Nat.le_of_ble_eq_true rfl) ?_
    refine J.sub (jsub_s (jsub_s (jsub_n (jsub_s (jsub_nil _))))) ?_
    exact wbX9_settles_57 hst _ hq2 hf
theorem wlX9_settles_2 {g : JG} (hst : (jl g).stackTraces = false)   : ∀ (fuel : Nat) (a0 : Nat) (x1 : Int32) (z : Nat) (h : AH) (o : Nat × AH), lX9_settles_2  fuel a0 x1 z h = some o → J g MX9_settles (jN g (none, o.1, o.2) rmX9_settles.cells rmX9_settles.slots) 2 [some (.ref a0), some (.int x1), none, none] [] z h 0 0 := by
  intro fuel
  induction fuel with
  | zero => intro a0 x1 z h o hf; cases hf
  | succ fuel ih =>
    intro a0 x1 z h o hf
    have hq2 := ih
    have hf : lX9_settles_2B  (lX9_settles_2  fuel) a0 x1 z h = some o := hf
    generalize lX9_settles_2  fuel = q2 at hf hq2
    unfold lX9_settles_2B at hf
    refine J_iload_n dX9_settles_2 rfl rfl ?_
    refine J_aload_n dX9_settles_3 rfl rfl ?_
    obtain ⟨k1, hf⟩ := gds hf
    obtain ⟨b2, rb2, hf⟩ := rfs hf
    refine G_9_0 dX9_settles_4 tk_919 k1 rb2 ?_
    refine J_bipush (v := 21) dX9_settles_7 (by decide) ?_
    obtain ⟨k3, hf⟩ := gds hf
    obtain ⟨n4, hf⟩ := gds hf
    refine J_iaload dX9_settles_9 k3 n4 ?_
    rcases br hf with ⟨c5, hf⟩ | ⟨c5, hf⟩
    · refine J_icmp_ge (tgt := 72) dX9_settles_10 (by decide) (fun _ => ?_) (fun w => absurd c5 w)
      cases hf
      exact J_vretN dX9_settles_72 rfl (by decide) (by decide)
    · refine J_icmp_ge (tgt := 72) dX9_settles_10 (by decide) (fun w => absurd w c5) (fun _ => ?_)
      refine J_aload_n dX9_settles_13 rfl rfl ?_
      obtain ⟨b6, rb6, hf⟩ := rfs hf
      refine G_9_0 dX9_settles_14 tk_919 k1 rb6 ?_
      refine J_bipush (v := 22) dX9_settles_17 (by decide) ?_
      refine J_iload_n dX9_settles_19 rfl rfl ?_
      refine J_iadd dX9_settles_20 ?_
      obtain ⟨k7, hf⟩ := gds hf
      obtain ⟨n8, hf⟩ := gds hf
      refine J_iaload dX9_settles_21 k7 n8 ?_
      obtain ⟨v9, ev9, hf⟩ := bls hf
      refine J_i ev9 ?_
      refine S_istore_n_2 dX9_settles_22 rfl (by decide) ?_
      refine J_aload_n dX9_settles_23 rfl rfl ?_
      refine J_iload_n dX9_settles_24 rfl rfl ?_
      obtain ⟨vo10, zo10, ho10h, ho10, hf⟩ := rfs3 hf
      refine CV1i dX9_settles_25 (mX9_waitsFor hst ho10) tk_1099 iX9_waitsFor k1 (by decide) rfl ⟨by decide, by decide⟩ ⟨by decide, by decide⟩ (Nat.le_of_ble_eq_true rfl) ?_
      rcases br hf with ⟨c11, hf⟩ | ⟨c11, hf⟩
      · refine J_if_ne (tgt := 35) dX9_settles_28 (by decide) (fun w => absurd c11 w) (fun _ => ?_)
        refine J_iconst (v := 1) dX9_settles_31 (by decide) ?_
        refine J_goto (tgt := 36) dX9_settles_32 (by decide) ?_
        refine J.sub (jsub_s (jsub_s (jsub_s (jsub_n (jsub_nil _))))) ?_
        exact wbX9_settles_36 hst _ hq2 hf
      · refine J_if_ne (tgt := 35) dX9_settles_28 (by decide) (fun _ => ?_) (fun w => absurd w c11)
        refine J_iconst (v := 0) dX9_settles_35 (by decide) ?_
        refine J.sub (jsub_s (jsub_s (jsub_s (jsub_n (jsub_nil _))))) ?_
        exact wbX9_settles_36 hst _ hq2 hf
theorem wfX9_settles {g : JG} (hst : (jl g).stackTraces = false)   {a0 : Nat} {z : Nat} {h : AH} {o : Nat × AH} (hf : fX9_settles  a0 z h = some o) : J g MX9_settles (jN g (none, o.1, o.2) rmX9_settles.cells rmX9_settles.slots) 0 [some (.ref a0), none, none, none] [] z h 0 0 := by
  unfold fX9_settles at hf
  refine J_iconst (v := 0) dX9_settles_0 (by decide) ?_
  refine S_istore_n_1 dX9_settles_1 rfl (by decide) ?_
  refine J.sub (jsub_s (jsub_s (jsub_n (jsub_n (jsub_nil _))))) ?_
  exact wlX9_settles_2 hst   _ _ _ _ _ _ hf
theorem mX9_settles {g : JG} (hst : (jl g).stackTraces = false) {a0 : Nat} {z : Nat} {h : AH} {o : Nat × AH} (hf : fX9_settles a0 z h = some o) : jMet g yX9_settles (wj yX9_settles cX9_settles 4 none) rmX9_settles [.ref a0] z h (none, o.1, o.2) :=
  jMet_mk (by decide) (Nat.le_of_ble_eq_true rfl) [some (.ref a0), none, none, none] rfl (wfX9_settles hst hf)
def bX9_asks_113  (a0 : Nat) (x3 : Int32) (z : Nat) (h : AH) : Option (Nat × AH) :=
  (if x3 ≤ 1 then (some (z, h)) else (gd (kd h a0 = 10) (bd2 (fX9_settles a0 z h) (fun zo3 ho3h => some (zo3, ho3h)))))
def bX9_asks_89  (a0 : Nat) (x1 : Int32) (x2 : Int32) (x3 : Int32) (z : Nat) (h : AH) : Option (Nat × AH) :=
  gd (kd h a0 = 10) (bd2 (fX9_waits a0 x1 x2 z h) (fun zo2 ho2h => bX9_asks_113  a0 x3 zo2 ho2h))
def bX9_asks_60 (q36 : Nat → Int32 → Int32 → Int32 → Int32 → Int32 → Nat → AH → Option (Nat × AH)) (a0 : Nat) (x1 : Int32) (x2 : Int32) (x3 : Int32) (x5 : Int32) (x6 : Int32) (z : Nat) (h : AH) : Option (Nat × AH) :=
  q36 a0 x1 x2 x3 x5 (x6 + 1) z h
def lX9_asks_36B  (q36 : Nat → Int32 → Int32 → Int32 → Int32 → Int32 → Nat → AH → Option (Nat × AH)) (a0 : Nat) (x1 : Int32) (x2 : Int32) (x3 : Int32) (x5 : Int32) (x6 : Int32) (z : Nat) (h : AH) : Option (Nat × AH) :=
  (if 10 ≤ x6 then ((if x3 = 2 then (gd (kd h a0 = 10) (bd2 (fX9_ends a0 x1 z h) (fun zo11 ho11h => bX9_asks_113  a0 x3 zo11 ho11h))) else ((if x3 = 1 then (bX9_asks_89  a0 x1 x2 x3 z h) else ((if x3 = 4 then (bX9_asks_89  a0 x1 x2 x3 z h) else (gd (kd h a0 = 10) (bd3 (fX9_isOver a0 x1 x2 z h) (fun vo6 zo6 ho6h => (if vo6 = 0 then (gd (kd ho6h a0 = 10) (bd2 (fX9_grants a0 x1 x2 zo6 ho6h) (fun zo9 ho9h => bX9_asks_113  a0 x3 zo9 ho9h))) else (bX9_asks_113  a0 x3 zo6 ho6h))))))))))) else ((if ((x5 >>> (x6 &&& 31)) &&& 1) = 1 then (gd (kd h a0 = 10) (bd2 (fX9_ends a0 x6 z h) (fun zo14 ho14h => bX9_asks_60 q36 a0 x1 x2 x3 x5 x6 zo14 ho14h))) else (bX9_asks_60 q36 a0 x1 x2 x3 x5 x6 z h))))
def lX9_asks_36  : Nat → Nat → Int32 → Int32 → Int32 → Int32 → Int32 → Nat → AH → Option (Nat × AH)
  | 0 => fun _ _ _ _ _ _ _ _ => none
  | fuel + 1 => lX9_asks_36B  (lX9_asks_36  fuel)
def bX9_asks_31  (a0 : Nat) (x1 : Int32) (x2 : Int32) (x3 : Int32) (s0 : Int32) (z : Nat) (h : AH) : Option (Nat × AH) :=
  lX9_asks_36  fu a0 x1 x2 x3 s0 0 z h
def fX9_asks  (a0 : Nat) (x1 : Int32) (x2 : Int32) (z : Nat) (h : AH) : Option (Nat × AH) :=
  gd (kd h a0 = 10) (bd3 (fX9_happens a0 x1 x2 z h) (fun vo2 zo2 ho2h => gd (kd ho2h a0 = 10) (bd3 (fX9_inTheWay a0 x1 x2 zo2 ho2h) (fun vo4 zo4 ho4h => (if vo2 ≤ 2 then (bX9_asks_31  a0 x1 x2 vo2 0 zo4 ho4h) else (gd (kd ho4h a0 = 10) (bd3 (fX9_younger a0 x1 vo4 zo4 ho4h) (fun vo7 zo7 ho7h => bX9_asks_31  a0 x1 x2 vo2 vo7 zo7 ho7h))))))))
theorem wbX9_asks_113 {g : JG} (hst : (jl g).stackTraces = false)   {a0 : Nat} {x3 : Int32} {z : Nat} {h : AH} {o : Nat × AH} (hf : bX9_asks_113  a0 x3 z h = some o) : J g MX9_asks (jN g (none, o.1, o.2) rmX9_asks.cells rmX9_asks.slots) 113 [some (.ref a0), none, none, some (.int x3), none, none, none] [] z h 0 0 := by
  unfold bX9_asks_113 at hf
  refine J_iload_n dX9_asks_113 rfl rfl ?_
  refine J_iconst (v := 1) dX9_asks_114 (by decide) ?_
  rcases br hf with ⟨c1, hf⟩ | ⟨c1, hf⟩
  · refine J_icmp_le (tgt := 122) dX9_asks_115 (by decide) (fun _ => ?_) (fun w => absurd c1 w)
    cases hf
    exact J_vretN dX9_asks_122 rfl (by decide) (by decide)
  · refine J_icmp_le (tgt := 122) dX9_asks_115 (by decide) (fun w => absurd w c1) (fun _ => ?_)
    refine J_aload_n dX9_asks_118 rfl rfl ?_
    obtain ⟨k2, hf⟩ := gds hf
    obtain ⟨zo3, ho3h, ho3, hf⟩ := rfs2 hf
    refine CV0v dX9_asks_119 (mX9_settles hst ho3) tk_1095 iX9_settles k2 (by decide) rfl ⟨by decide, by decide⟩ ⟨by decide, by decide⟩ (Nat.le_of_ble_eq_true rfl) ?_
    cases hf
    exact J_vretN dX9_asks_122 rfl (by decide) (by decide)
theorem wbX9_asks_89 {g : JG} (hst : (jl g).stackTraces = false)   {a0 : Nat} {x1 : Int32} {x2 : Int32} {x3 : Int32} {z : Nat} {h : AH} {o : Nat × AH} (hf : bX9_asks_89  a0 x1 x2 x3 z h = some o) : J g MX9_asks (jN g (none, o.1, o.2) rmX9_asks.cells rmX9_asks.slots) 89 [some (.ref a0), some (.int x1), some (.int x2), some (.int x3), none, none, none] [] z h 0 0 := by
  unfold bX9_asks_89 at hf
  refine J_aload_n dX9_asks_89 rfl rfl ?_
  refine J_iload_n dX9_asks_90 rfl rfl ?_
  refine J_iload_n dX9_asks_91 rfl rfl ?_
  obtain ⟨k1, hf⟩ := gds hf
  obtain ⟨zo2, ho2h, ho2, hf⟩ := rfs2 hf
  refine CV2v dX9_asks_92 (mX9_waits hst ho2) tk_1087 iX9_waits k1 (by decide) rfl ⟨by decide, by decide⟩ ⟨by decide, by decide⟩ (Nat.le_of_ble_eq_true rfl) ?_
  refine J_goto (tgt := 113) dX9_asks_95 (by decide) ?_
  refine J.sub (jsub_s (jsub_n (jsub_n (jsub_s (jsub_n (jsub_n (jsub_n (jsub_nil _)))))))) ?_
  exact wbX9_asks_113 hst   hf
theorem wbX9_asks_60 {g : JG} (hst : (jl g).stackTraces = false) (q36 : Nat → Int32 → Int32 → Int32 → Int32 → Int32 → Nat → AH → Option (Nat × AH)) (hq36 : ∀ (a0 : Nat) (x1 : Int32) (x2 : Int32) (x3 : Int32) (x5 : Int32) (x6 : Int32) (z : Nat) (h : AH) (o : Nat × AH), q36 a0 x1 x2 x3 x5 x6 z h = some o → J g MX9_asks (jN g (none, o.1, o.2) rmX9_asks.cells rmX9_asks.slots) 36 [some (.ref a0), some (.int x1), some (.int x2), some (.int x3), none, some (.int x5), some (.int x6)] [] z h 0 0) {a0 : Nat} {x1 : Int32} {x2 : Int32} {x3 : Int32} {x5 : Int32} {x6 : Int32} {z : Nat} {h : AH} {o : Nat × AH} (hf : bX9_asks_60 q36 a0 x1 x2 x3 x5 x6 z h = some o) : J g MX9_asks (jN g (none, o.1, o.2) rmX9_asks.cells rmX9_asks.slots) 60 [some (.ref a0), some (.int x1), some (.int x2), some (.int x3), none, some (.int x5), some (.int x6)] [] z h 0 0 := by
  unfold bX9_asks_60 at hf
  refine S_iinc_6 (v := x6 + 1) dX9_asks_60 (congrArg (fun w => x6 + w) (by decide)) rfl (by decide) ?_
  refine J_goto (tgt := 36) dX9_asks_63 (by decide) ?_
  refine J.sub (jsub_s (jsub_s (jsub_s (jsub_s (jsub_n (jsub_s (jsub_s (jsub_nil _)))))))) ?_
  exact hq36 _ _ _ _ _ _ _ _ _ hf
theorem wlX9_asks_36 {g : JG} (hst : (jl g).stackTraces = false)   : ∀ (fuel : Nat) (a0 : Nat) (x1 : Int32) (x2 : Int32) (x3 : Int32) (x5 : Int32) (x6 : Int32) (z : Nat) (h : AH) (o : Nat × AH), lX9_asks_36  fuel a0 x1 x2 x3 x5 x6 z h = some o → J g MX9_asks (jN g (none, o.1, o.2) rmX9_asks.cells rmX9_asks.slots) 36 [some (.ref a0), some (.int x1), some (.int x2), some (.int x3), none, some (.int x5), some (.int x6)] [] z h 0 0 := by
  intro fuel
  induction fuel with
  | zero => intro a0 x1 x2 x3 x5 x6 z h o hf; cases hf
  | succ fuel ih =>
    intro a0 x1 x2 x3 x5 x6 z h o hf
    have hq36 := ih
    have hf : lX9_asks_36B  (lX9_asks_36  fuel) a0 x1 x2 x3 x5 x6 z h = some o := hf
    generalize lX9_asks_36  fuel = q36 at hf hq36
    unfold lX9_asks_36B at hf
    refine J_iload dX9_asks_36 rfl ?_
    refine J_bipush (v := 10) dX9_asks_38 (by decide) ?_
    rcases br hf with ⟨c1, hf⟩ | ⟨c1, hf⟩
    · refine J_icmp_ge (tgt := 66) dX9_asks_40 (by decide) (fun _ => ?_) (fun w => absurd c1 w)
      refine J_iload_n dX9_asks_66 rfl rfl ?_
      refine J_iconst (v := 2) dX9_asks_67 (by decide) ?_
      rcases br hf with ⟨c2, hf⟩ | ⟨c2, hf⟩
      · refine J_icmp_ne (tgt := 79) dX9_asks_68 (by decide) (fun w => absurd c2 w) (fun _ => ?_)
        refine J_aload_n dX9_asks_71 rfl rfl ?_
        refine J_iload_n dX9_asks_72 rfl rfl ?_
        obtain ⟨k10, hf⟩ := gds hf
        obtain ⟨zo11, ho11h, ho11, hf⟩ := rfs2 hf
        refine CV1v dX9_asks_73 (mX9_ends hst ho11) tk_1075 iX9_ends k10 (by decide) rfl ⟨by decide, by decide⟩ ⟨by decide, by decide⟩ (Nat.le_of_ble_eq_true rfl) ?_
        refine J_goto (tgt := 113) dX9_asks_76 (by decide) ?_
        refine J.sub (jsub_s (jsub_n (jsub_n (jsub_s (jsub_n (jsub_n (jsub_n (jsub_nil _)))))))) ?_
        exact wbX9_asks_113 hst   hf
      · refine J_icmp_ne (tgt := 79) dX9_asks_68 (by decide) (fun _ => ?_) (fun w => absurd w c2)
        refine J_iload_n dX9_asks_79 rfl rfl ?_
        refine J_iconst (v := 1) dX9_asks_80 (by decide) ?_
        rcases br hf with ⟨c3, hf⟩ | ⟨c3, hf⟩
        · refine J_icmp_eq (tgt := 89) dX9_asks_81 (by decide) (fun _ => ?_) (fun w => absurd c3 w)
          refine J.sub (jsub_s (jsub_s (jsub_s (jsub_s (jsub_n (jsub_n (jsub_n (jsub_nil _)))))))) ?_
          exact wbX9_asks_89 hst   hf
        · refine J_icmp_eq (tgt := 89) dX9_asks_81 (by decide) (fun w => absurd w c3) (fun _ => ?_)
          refine J_iload_n dX9_asks_84 rfl rfl ?_
          refine J_iconst (v := 4) dX9_asks_85 (by decide) ?_
          rcases br hf with ⟨c4, hf⟩ | ⟨c4, hf⟩
          · refine J_icmp_ne (tgt := 98) dX9_asks_86 (by decide) (fun w => absurd c4 w) (fun _ => ?_)
            refine J.sub (jsub_s (jsub_s (jsub_s (jsub_s (jsub_n (jsub_n (jsub_n (jsub_nil _)))))))) ?_
            exact wbX9_asks_89 hst   hf
          · refine J_icmp_ne (tgt := 98) dX9_asks_86 (by decide) (fun _ => ?_) (fun w => absurd w c4)
            refine J_aload_n dX9_asks_98 rfl rfl ?_
            refine J_iload_n dX9_asks_99 rfl rfl ?_
            refine J_iload_n dX9_asks_100 rfl rfl ?_
            obtain ⟨k5, hf⟩ := gds hf
            obtain ⟨vo6, zo6, ho6h, ho6, hf⟩ := rfs3 hf
            refine CV2i dX9_asks_101 (mX9_isOver hst ho6) tk_1063 iX9_isOver k5 (by decide) rfl ⟨by decide, by decide⟩ ⟨by decide, by decide⟩ (Nat.le_of_ble_eq_true rfl) ?_
            rcases br hf with ⟨c7, hf⟩ | ⟨c7, hf⟩
            · refine J_if_ne (tgt := 113) dX9_asks_104 (by decide) (fun w => absurd c7 w) (fun _ => ?_)
              refine J_aload_n dX9_asks_107 rfl rfl ?_
              refine J_iload_n dX9_asks_108 rfl rfl ?_
              refine J_iload_n dX9_asks_109 rfl rfl ?_
              obtain ⟨k8, hf⟩ := gds hf
              obtain ⟨zo9, ho9h, ho9, hf⟩ := rfs2 hf
              refine CV2v dX9_asks_110 (mX9_grants hst ho9) tk_1091 iX9_grants k8 (by decide) rfl ⟨by decide, by decide⟩ ⟨by decide, by decide⟩ (Nat.le_of_ble_eq_true rfl) ?_
              refine J.sub (jsub_s (jsub_n (jsub_n (jsub_s (jsub_n (jsub_n (jsub_n (jsub_nil _)))))))) ?_
              exact wbX9_asks_113 hst   hf
            · refine J_if_ne (tgt := 113) dX9_asks_104 (by decide) (fun _ => ?_) (fun w => absurd w c7)
              refine J.sub (jsub_s (jsub_n (jsub_n (jsub_s (jsub_n (jsub_n (jsub_n (jsub_nil _)))))))) ?_
              exact wbX9_asks_113 hst   hf
    · refine J_icmp_ge (tgt := 66) dX9_asks_40 (by decide) (fun w => absurd w c1) (fun _ => ?_)
      refine J_iload dX9_asks_43 rfl ?_
      refine J_iload dX9_asks_45 rfl ?_
      refine J_ishr dX9_asks_47 ?_
      refine J_iconst (v := 1) dX9_asks_48 (by decide) ?_
      refine J_iand dX9_asks_49 ?_
      refine J_iconst (v := 1) dX9_asks_50 (by decide) ?_
      rcases br hf with ⟨c12, hf⟩ | ⟨c12, hf⟩
      · refine J_icmp_ne (tgt := 60) dX9_asks_51 (by decide) (fun w => absurd c12 w) (fun _ => ?_)
        refine J_aload_n dX9_asks_54 rfl rfl ?_
        refine J_iload dX9_asks_55 rfl ?_
        obtain ⟨k13, hf⟩ := gds hf
        obtain ⟨zo14, ho14h, ho14, hf⟩ := rfs2 hf
        refine CV1v dX9_asks_57 (mX9_ends hst ho14) tk_1075 iX9_ends k13 (by decide) rfl ⟨by decide, by decide⟩ ⟨by decide, by decide⟩ (Nat.le_of_ble_eq_true rfl) ?_
        refine J.sub (jsub_s (jsub_s (jsub_s (jsub_s (jsub_n (jsub_s (jsub_s (jsub_nil _)))))))) ?_
        exact wbX9_asks_60 hst _ hq36 hf
      · refine J_icmp_ne (tgt := 60) dX9_asks_51 (by decide) (fun _ => ?_) (fun w => absurd w c12)
        refine J.sub (jsub_s (jsub_s (jsub_s (jsub_s (jsub_n (jsub_s (jsub_s (jsub_nil _)))))))) ?_
        exact wbX9_asks_60 hst _ hq36 hf
theorem wbX9_asks_31 {g : JG} (hst : (jl g).stackTraces = false)   {a0 : Nat} {x1 : Int32} {x2 : Int32} {x3 : Int32} {s0 : Int32} {z : Nat} {h : AH} {o : Nat × AH} (hf : bX9_asks_31  a0 x1 x2 x3 s0 z h = some o) : J g MX9_asks (jN g (none, o.1, o.2) rmX9_asks.cells rmX9_asks.slots) 31 [some (.ref a0), some (.int x1), some (.int x2), some (.int x3), none, none, none] [.int s0] z h 0 0 := by
  unfold bX9_asks_31 at hf
  refine S_istore_5 dX9_asks_31 rfl (by decide) ?_
  refine J_iconst (v := 0) dX9_asks_33 (by decide) ?_
  refine S_istore_6 dX9_asks_34 rfl (by decide) ?_
  refine J.sub (jsub_s (jsub_s (jsub_s (jsub_s (jsub_n (jsub_s (jsub_s (jsub_nil _)))))))) ?_
  exact wlX9_asks_36 hst   _ _ _ _ _ _ _ _ _ _ hf
theorem wfX9_asks {g : JG} (hst : (jl g).stackTraces = false)   {a0 : Nat} {x1 : Int32} {x2 : Int32} {z : Nat} {h : AH} {o : Nat × AH} (hf : fX9_asks  a0 x1 x2 z h = some o) : J g MX9_asks (jN g (none, o.1, o.2) rmX9_asks.cells rmX9_asks.slots) 0 [some (.ref a0), some (.int x1), some (.int x2), none, none, none, none] [] z h 0 0 := by
  unfold fX9_asks at hf
  refine J_aload_n dX9_asks_0 rfl rfl ?_
  refine J_iload_n dX9_asks_1 rfl rfl ?_
  refine J_iload_n dX9_asks_2 rfl rfl ?_
  obtain ⟨k1, hf⟩ := gds hf
  obtain ⟨vo2, zo2, ho2h, ho2, hf⟩ := rfs3 hf
  refine CV2i dX9_asks_3 (mX9_happens hst ho2) tk_1059 iX9_happens k1 (by decide) rfl ⟨by decide, by decide⟩ ⟨by decide, by decide⟩ (Nat.le_of_ble_eq_true rfl) ?_
  refine S_istore_n_3 dX9_asks_6 rfl (by decide) ?_
  refine J_aload_n dX9_asks_7 rfl rfl ?_
  refine J_iload_n dX9_asks_8 rfl rfl ?_
  refine J_iload_n dX9_asks_9 rfl rfl ?_
  obtain ⟨k3, hf⟩ := gds hf
  obtain ⟨vo4, zo4, ho4h, ho4, hf⟩ := rfs3 hf
  refine CV2i dX9_asks_10 (mX9_inTheWay hst ho4) tk_1067 iX9_inTheWay k3 (by decide) rfl ⟨by decide, by decide⟩ ⟨by decide, by decide⟩ (Nat.le_of_ble_eq_true rfl) ?_
  refine S_istore_4 dX9_asks_13 rfl (by decide) ?_
  refine J_iload_n dX9_asks_15 rfl rfl ?_
  refine J_iconst (v := 2) dX9_asks_16 (by decide) ?_
  rcases br hf with ⟨c5, hf⟩ | ⟨c5, hf⟩
  · refine J_icmp_le (tgt := 30) dX9_asks_17 (by decide) (fun _ => ?_) (fun w => absurd c5 w)
    refine J_iconst (v := 0) dX9_asks_30 (by decide) ?_
    refine J.sub (jsub_s (jsub_s (jsub_s (jsub_s (jsub_n (jsub_n (jsub_n (jsub_nil _)))))))) ?_
    exact wbX9_asks_31 hst   hf
  · refine J_icmp_le (tgt := 30) dX9_asks_17 (by decide) (fun w => absurd w c5) (fun _ => ?_)
    refine J_aload_n dX9_asks_20 rfl rfl ?_
    refine J_iload_n dX9_asks_21 rfl rfl ?_
    refine J_iload dX9_asks_22 rfl ?_
    obtain ⟨k6, hf⟩ := gds hf
    obtain ⟨vo7, zo7, ho7h, ho7, hf⟩ := rfs3 hf
    refine CV2i dX9_asks_24 (mX9_younger hst ho7) tk_1071 iX9_younger k6 (by decide) rfl ⟨by decide, by decide⟩ ⟨by decide, by decide⟩ (Nat.le_of_ble_eq_true rfl) ?_
    refine J_goto (tgt := 31) dX9_asks_27 (by decide) ?_
    refine J.sub (jsub_s (jsub_s (jsub_s (jsub_s (jsub_n (jsub_n (jsub_n (jsub_nil _)))))))) ?_
    exact wbX9_asks_31 hst   hf
theorem mX9_asks {g : JG} (hst : (jl g).stackTraces = false) {a0 : Nat} {x1 : Int32} {x2 : Int32} {z : Nat} {h : AH} {o : Nat × AH} (hf : fX9_asks a0 x1 x2 z h = some o) : jMet g yX9_asks (wj yX9_asks cX9_asks 7 none) rmX9_asks [.ref a0, .int x1, .int x2] z h (none, o.1, o.2) :=
  jMet_mk (by decide) (Nat.le_of_ble_eq_true rfl) [some (.ref a0), some (.int x1), some (.int x2), none, none, none, none] rfl (wfX9_asks hst hf)
def fX9_request  (a0 : Nat) (x1 : Int32) (x2 : Int32) (z : Nat) (h : AH) : Option (Int32 × Nat × AH) :=
  gd (kd h a0 = 10) (bd3 (fX9_requestFault a0 x1 x2 z h) (fun vo2 zo2 ho2h => gd (kd ho2h a0 = 10) (bl (wI ho2h a0 6 vo2) (fun h4 => (if (iv h4 a0 6) ≤ 0 then (bd2 (fX9_begins a0 zo2 h4) (fun zo7 ho7h => gd (kd ho7h a0 = 10) (bd2 (fX9_asks a0 x1 x2 zo7 ho7h) (fun zo9 ho9h => gd (kd ho9h a0 = 10) (bd2 (fX9_records a0 zo9 ho9h) (fun zo11 ho11h => gd (kd ho11h a0 = 10) (bd3 (fX9_of a0 x1 4 zo11 ho11h) (fun vo13 zo13 ho13h => some (vo13, zo13, ho13h))))))))) else (some (0, zo2, h4)))))))
theorem wfX9_request {g : JG} (hst : (jl g).stackTraces = false)   {a0 : Nat} {x1 : Int32} {x2 : Int32} {z : Nat} {h : AH} {o : Int32 × Nat × AH} (hf : fX9_request  a0 x1 x2 z h = some o) : J g MX9_request (jN g (some (.int o.1), o.2.1, o.2.2) rmX9_request.cells rmX9_request.slots) 0 [some (.ref a0), some (.int x1), some (.int x2)] [] z h 0 0 := by
  unfold fX9_request at hf
  refine J_aload_n dX9_request_0 rfl rfl ?_
  refine J_aload_n dX9_request_1 rfl rfl ?_
  refine J_iload_n dX9_request_2 rfl rfl ?_
  refine J_iload_n dX9_request_3 rfl rfl ?_
  obtain ⟨k1, hf⟩ := gds hf
  obtain ⟨vo2, zo2, ho2h, ho2, hf⟩ := rfs3 hf
  refine CV2i dX9_request_4 (mX9_requestFault hst ho2) tk_1047 iX9_requestFault k1 (by decide) rfl ⟨by decide, by decide⟩ ⟨by decide, by decide⟩ (Nat.le_of_ble_eq_true rfl) ?_
  obtain ⟨k3, hf⟩ := gds hf
  refine P_9_6 dX9_request_7 tk_925 k3 ?_
  obtain ⟨h4, eh4, hf⟩ := bls hf
  refine J_h eh4 ?_
  refine J_aload_n dX9_request_10 rfl rfl ?_
  have k5 : kd h4 a0 = 10 := by rw [eh4]; exact k3
  refine G_9_6 dX9_request_11 tk_925 k5 ?_
  rcases br hf with ⟨c6, hf⟩ | ⟨c6, hf⟩
  · refine J_if_le (tgt := 19) dX9_request_14 (by decide) (fun _ => ?_) (fun w => absurd c6 w)
    refine J_aload_n dX9_request_19 rfl rfl ?_
    obtain ⟨zo7, ho7h, ho7, hf⟩ := rfs2 hf
    refine CV0v dX9_request_20 (mX9_begins hst ho7) tk_999 iX9_begins k5 (by decide) rfl ⟨by decide, by decide⟩ ⟨by decide, by decide⟩ (Nat.le_of_ble_eq_true rfl) ?_
    refine J_aload_n dX9_request_23 rfl rfl ?_
    refine J_iload_n dX9_request_24 rfl rfl ?_
    refine J_iload_n dX9_request_25 rfl rfl ?_
    obtain ⟨k8, hf⟩ := gds hf
    obtain ⟨zo9, ho9h, ho9, hf⟩ := rfs2 hf
    refine CV2v dX9_request_26 (mX9_asks hst ho9) tk_1055 iX9_asks k8 (by decide) rfl ⟨by decide, by decide⟩ ⟨by decide, by decide⟩ (Nat.le_of_ble_eq_true rfl) ?_
    refine J_aload_n dX9_request_29 rfl rfl ?_
    obtain ⟨k10, hf⟩ := gds hf
    obtain ⟨zo11, ho11h, ho11, hf⟩ := rfs2 hf
    refine CV0v dX9_request_30 (mX9_records hst ho11) tk_1003 iX9_records k10 (by decide) rfl ⟨by decide, by decide⟩ ⟨by decide, by decide⟩ (Nat.le_of_ble_eq_true rfl) ?_
    refine J_aload_n dX9_request_33 rfl rfl ?_
    refine J_iload_n dX9_request_34 rfl rfl ?_
    refine J_iconst (v := 4) dX9_request_35 (by decide) ?_
    obtain ⟨k12, hf⟩ := gds hf
    obtain ⟨vo13, zo13, ho13h, ho13, hf⟩ := rfs3 hf
    refine CV2i dX9_request_36 (mX9_of hst ho13) tk_1023 iX9_of k12 (by decide) rfl ⟨by decide, by decide⟩ ⟨by decide, by decide⟩ (Nat.le_of_ble_eq_true rfl) ?_
    cases hf
    exact J_iretN dX9_request_39 rfl (by decide) (by decide)
  · refine J_if_le (tgt := 19) dX9_request_14 (by decide) (fun w => absurd w c6) (fun _ => ?_)
    refine J_iconst (v := 0) dX9_request_17 (by decide) ?_
    cases hf
    exact J_iretN dX9_request_18 rfl (by decide) (by decide)
theorem mX9_request {g : JG} (hst : (jl g).stackTraces = false) {a0 : Nat} {x1 : Int32} {x2 : Int32} {z : Nat} {h : AH} {o : Int32 × Nat × AH} (hf : fX9_request a0 x1 x2 z h = some o) : jMet g yX9_request (wj yX9_request cX9_request 3 (some .int)) rmX9_request [.ref a0, .int x1, .int x2] z h (some (.int o.1), o.2.1, o.2.2) :=
  jMet_mk (by decide) (Nat.le_of_ble_eq_true rfl) [some (.ref a0), some (.int x1), some (.int x2)] rfl (wfX9_request hst hf)
def fX9_releaseFault  (a0 : Nat) (x1 : Int32) (x2 : Int32) (z : Nat) (h : AH) : Option (Int32 × Nat × AH) :=
  gd (kd h a0 = 10) (bd3 (fX9_isTask a0 x1 z h) (fun vo2 zo2 ho2h => (if vo2 = 0 then (some (1, zo2, ho2h)) else (gd (kd ho2h a0 = 10) (bd3 (fX9_isResource a0 x2 zo2 ho2h) (fun vo5 zo5 ho5h => (if vo5 = 0 then (some (1, zo5, ho5h)) else (gd (kd ho5h a0 = 10) (bd3 (fX9_of a0 x1 3 zo5 ho5h) (fun vo8 zo8 ho8h => (if ((vo8 >>> (x2 &&& 31)) &&& 1) = 0 then (some (2, zo8, ho8h)) else (some (0, zo8, ho8h)))))))))))))
theorem wfX9_releaseFault {g : JG} (hst : (jl g).stackTraces = false)   {a0 : Nat} {x1 : Int32} {x2 : Int32} {z : Nat} {h : AH} {o : Int32 × Nat × AH} (hf : fX9_releaseFault  a0 x1 x2 z h = some o) : J g MX9_releaseFault (jN g (some (.int o.1), o.2.1, o.2.2) rmX9_releaseFault.cells rmX9_releaseFault.slots) 0 [some (.ref a0), some (.int x1), some (.int x2)] [] z h 0 0 := by
  unfold fX9_releaseFault at hf
  refine J_aload_n dX9_releaseFault_0 rfl rfl ?_
  refine J_iload_n dX9_releaseFault_1 rfl rfl ?_
  obtain ⟨k1, hf⟩ := gds hf
  obtain ⟨vo2, zo2, ho2h, ho2, hf⟩ := rfs3 hf
  refine CV1i dX9_releaseFault_2 (mX9_isTask hst ho2) tk_1019 iX9_isTask k1 (by decide) rfl ⟨by decide, by decide⟩ ⟨by decide, by decide⟩ (Nat.le_of_ble_eq_true rfl) ?_
  rcases br hf with ⟨c3, hf⟩ | ⟨c3, hf⟩
  · refine J_if_eq (tgt := 16) dX9_releaseFault_5 (by decide) (fun _ => ?_) (fun w => absurd c3 w)
    refine J_iconst (v := 1) dX9_releaseFault_16 (by decide) ?_
    refine J_goto (tgt := 38) dX9_releaseFault_17 (by decide) ?_
    cases hf
    exact J_iretN dX9_releaseFault_38 rfl (by decide) (by decide)
  · refine J_if_eq (tgt := 16) dX9_releaseFault_5 (by decide) (fun w => absurd w c3) (fun _ => ?_)
    refine J_aload_n dX9_releaseFault_8 rfl rfl ?_
    refine J_iload_n dX9_releaseFault_9 rfl rfl ?_
    obtain ⟨k4, hf⟩ := gds hf
    obtain ⟨vo5, zo5, ho5h, ho5, hf⟩ := rfs3 hf
    refine CV1i dX9_releaseFault_10 (mX9_isResource hst ho5) tk_992 iX9_isResource k4 (by decide) rfl ⟨by decide, by decide⟩ ⟨by decide, by decide⟩ (Nat.le_of_ble_eq_true rfl) ?_
    rcases br hf with ⟨c6, hf⟩ | ⟨c6, hf⟩
    · refine J_if_ne (tgt := 20) dX9_releaseFault_13 (by decide) (fun w => absurd c6 w) (fun _ => ?_)
      refine J_iconst (v := 1) dX9_releaseFault_16 (by decide) ?_
      refine J_goto (tgt := 38) dX9_releaseFault_17 (by decide) ?_
      cases hf
      exact J_iretN dX9_releaseFault_38 rfl (by decide) (by decide)
    · refine J_if_ne (tgt := 20) dX9_releaseFault_13 (by decide) (fun _ => ?_) (fun w => absurd w c6)
      refine J_aload_n dX9_releaseFault_20 rfl rfl ?_
      refine J_iload_n dX9_releaseFault_21 rfl rfl ?_
      refine J_iconst (v := 3) dX9_releaseFault_22 (by decide) ?_
      obtain ⟨k7, hf⟩ := gds hf
      obtain ⟨vo8, zo8, ho8h, ho8, hf⟩ := rfs3 hf
      refine CV2i dX9_releaseFault_23 (mX9_of hst ho8) tk_1023 iX9_of k7 (by decide) rfl ⟨by decide, by decide⟩ ⟨by decide, by decide⟩ (Nat.le_of_ble_eq_true rfl) ?_
      refine J_iload_n dX9_releaseFault_26 rfl rfl ?_
      refine J_ishr dX9_releaseFault_27 ?_
      refine J_iconst (v := 1) dX9_releaseFault_28 (by decide) ?_
      refine J_iand dX9_releaseFault_29 ?_
      rcases br hf with ⟨c9, hf⟩ | ⟨c9, hf⟩
      · refine J_if_ne (tgt := 37) dX9_releaseFault_30 (by decide) (fun w => absurd c9 w) (fun _ => ?_)
        refine J_iconst (v := 2) dX9_releaseFault_33 (by decide) ?_
        refine J_goto (tgt := 38) dX9_releaseFault_34 (by decide) ?_
        cases hf
        exact J_iretN dX9_releaseFault_38 rfl (by decide) (by decide)
      · refine J_if_ne (tgt := 37) dX9_releaseFault_30 (by decide) (fun _ => ?_) (fun w => absurd w c9)
        refine J_iconst (v := 0) dX9_releaseFault_37 (by decide) ?_
        cases hf
        exact J_iretN dX9_releaseFault_38 rfl (by decide) (by decide)
theorem mX9_releaseFault {g : JG} (hst : (jl g).stackTraces = false) {a0 : Nat} {x1 : Int32} {x2 : Int32} {z : Nat} {h : AH} {o : Int32 × Nat × AH} (hf : fX9_releaseFault a0 x1 x2 z h = some o) : jMet g yX9_releaseFault (wj yX9_releaseFault cX9_releaseFault 3 (some .int)) rmX9_releaseFault [.ref a0, .int x1, .int x2] z h (some (.int o.1), o.2.1, o.2.2) :=
  jMet_mk (by decide) (Nat.le_of_ble_eq_true rfl) [some (.ref a0), some (.int x1), some (.int x2)] rfl (wfX9_releaseFault hst hf)
def fX9_lets  (a0 : Nat) (x1 : Int32) (x2 : Int32) (z : Nat) (h : AH) : Option (Nat × AH) :=
  gd (kd h a0 = 10) (bd3 (fX9_of a0 x1 3 z h) (fun vo2 zo2 ho2h => gd (kd ho2h a0 = 10) (bd2 (fX9_puts a0 x1 3 (vo2 &&& ((1 <<< (x2 &&& 31)) ^^^ (-1))) zo2 ho2h) (fun zo4 ho4h => gd (kd ho4h a0 = 10) (bd2 (fX9_settles a0 zo4 ho4h) (fun zo6 ho6h => some (zo6, ho6h)))))))
theorem wfX9_lets {g : JG} (hst : (jl g).stackTraces = false)   {a0 : Nat} {x1 : Int32} {x2 : Int32} {z : Nat} {h : AH} {o : Nat × AH} (hf : fX9_lets  a0 x1 x2 z h = some o) : J g MX9_lets (jN g (none, o.1, o.2) rmX9_lets.cells rmX9_lets.slots) 0 [some (.ref a0), some (.int x1), some (.int x2)] [] z h 0 0 := by
  unfold fX9_lets at hf
  refine J_aload_n dX9_lets_0 rfl rfl ?_
  refine J_iload_n dX9_lets_1 rfl rfl ?_
  refine J_iconst (v := 3) dX9_lets_2 (by decide) ?_
  refine J_aload_n dX9_lets_3 rfl rfl ?_
  refine J_iload_n dX9_lets_4 rfl rfl ?_
  refine J_iconst (v := 3) dX9_lets_5 (by decide) ?_
  obtain ⟨k1, hf⟩ := gds hf
  obtain ⟨vo2, zo2, ho2h, ho2, hf⟩ := rfs3 hf
  refine CV2i dX9_lets_6 (mX9_of hst ho2) tk_1023 iX9_of k1 (by decide) rfl ⟨by decide, by decide⟩ ⟨by decide, by decide⟩ (Nat.le_of_ble_eq_true rfl) ?_
  refine J_iconst (v := 1) dX9_lets_9 (by decide) ?_
  refine J_iload_n dX9_lets_10 rfl rfl ?_
  refine J_ishl dX9_lets_11 ?_
  refine J_iconst (v := (-1)) dX9_lets_12 (by decide) ?_
  refine J_ixor dX9_lets_13 ?_
  refine J_iand dX9_lets_14 ?_
  obtain ⟨k3, hf⟩ := gds hf
  obtain ⟨zo4, ho4h, ho4, hf⟩ := rfs2 hf
  refine CV3v dX9_lets_15 (mX9_puts hst ho4) tk_1039 iX9_puts k3 (by decide) rfl ⟨by decide, by decide⟩ ⟨by decide, by decide⟩ (Nat.le_of_ble_eq_true rfl) ?_
  refine J_aload_n dX9_lets_18 rfl rfl ?_
  obtain ⟨k5, hf⟩ := gds hf
  obtain ⟨zo6, ho6h, ho6, hf⟩ := rfs2 hf
  refine CV0v dX9_lets_19 (mX9_settles hst ho6) tk_1095 iX9_settles k5 (by decide) rfl ⟨by decide, by decide⟩ ⟨by decide, by decide⟩ (Nat.le_of_ble_eq_true rfl) ?_
  cases hf
  exact J_vretN dX9_lets_22 rfl (by decide) (by decide)
theorem mX9_lets {g : JG} (hst : (jl g).stackTraces = false) {a0 : Nat} {x1 : Int32} {x2 : Int32} {z : Nat} {h : AH} {o : Nat × AH} (hf : fX9_lets a0 x1 x2 z h = some o) : jMet g yX9_lets (wj yX9_lets cX9_lets 3 none) rmX9_lets [.ref a0, .int x1, .int x2] z h (none, o.1, o.2) :=
  jMet_mk (by decide) (Nat.le_of_ble_eq_true rfl) [some (.ref a0), some (.int x1), some (.int x2)] rfl (wfX9_lets hst hf)
def lX9_bits_4B  (q4 : Int32 → Int32 → Int32 → Nat → AH → Option (Int32 × Nat × AH)) (x0 : Int32) (x1 : Int32) (x2 : Int32) (z : Nat) (h : AH) : Option (Int32 × Nat × AH) :=
  (if 16 ≤ x2 then (some (x1, z, h)) else (bl ((x1 + ((x0 >>> (x2 &&& 31)) &&& 1))) (fun v2 => q4 x0 v2 (x2 + 1) z h)))
def lX9_bits_4  : Nat → Int32 → Int32 → Int32 → Nat → AH → Option (Int32 × Nat × AH)
  | 0 => fun _ _ _ _ _ => none
  | fuel + 1 => lX9_bits_4B  (lX9_bits_4  fuel)
def fX9_bits  (x0 : Int32) (z : Nat) (h : AH) : Option (Int32 × Nat × AH) :=
  lX9_bits_4  fu x0 0 0 z h
theorem wlX9_bits_4 {g : JG} (hst : (jl g).stackTraces = false)   : ∀ (fuel : Nat) (x0 : Int32) (x1 : Int32) (x2 : Int32) (z : Nat) (h : AH) (o : Int32 × Nat × AH), lX9_bits_4  fuel x0 x1 x2 z h = some o → J g MX9_bits (jN g (some (.int o.1), o.2.1, o.2.2) rmX9_bits.cells rmX9_bits.slots) 4 [some (.int x0), some (.int x1), some (.int x2)] [] z h 0 0 := by
  intro fuel
  induction fuel with
  | zero => intro x0 x1 x2 z h o hf; cases hf
  | succ fuel ih =>
    intro x0 x1 x2 z h o hf
    have hq4 := ih
    have hf : lX9_bits_4B  (lX9_bits_4  fuel) x0 x1 x2 z h = some o := hf
    generalize lX9_bits_4  fuel = q4 at hf hq4
    unfold lX9_bits_4B at hf
    refine J_iload_n dX9_bits_4 rfl rfl ?_
    refine J_bipush (v := 16) dX9_bits_5 (by decide) ?_
    rcases br hf with ⟨c1, hf⟩ | ⟨c1, hf⟩
    · refine J_icmp_ge (tgt := 24) dX9_bits_7 (by decide) (fun _ => ?_) (fun w => absurd c1 w)
      refine J_iload_n dX9_bits_24 rfl rfl ?_
      cases hf
      exact J_iretN dX9_bits_25 rfl (by decide) (by decide)
    · refine J_icmp_ge (tgt := 24) dX9_bits_7 (by decide) (fun w => absurd w c1) (fun _ => ?_)
      refine J_iload_n dX9_bits_10 rfl rfl ?_
      refine J_iload_n dX9_bits_11 rfl rfl ?_
      refine J_iload_n dX9_bits_12 rfl rfl ?_
      refine J_ishr dX9_bits_13 ?_
      refine J_iconst (v := 1) dX9_bits_14 (by decide) ?_
      refine J_iand dX9_bits_15 ?_
      refine J_iadd dX9_bits_16 ?_
      obtain ⟨v2, ev2, hf⟩ := bls hf
      refine J_i ev2 ?_
      refine S_istore_n_1 dX9_bits_17 rfl (by decide) ?_
      refine S_iinc_2 (v := x2 + 1) dX9_bits_18 (congrArg (fun w => x2 + w) (by decide)) rfl (by decide) ?_
      refine J_goto (tgt := 4) dX9_bits_21 (by decide) ?_
      refine J.sub (jsub_s (jsub_s (jsub_s (jsub_nil _)))) ?_
      exact hq4 _ _ _ _ _ _ hf
theorem wfX9_bits {g : JG} (hst : (jl g).stackTraces = false)   {x0 : Int32} {z : Nat} {h : AH} {o : Int32 × Nat × AH} (hf : fX9_bits  x0 z h = some o) : J g MX9_bits (jN g (some (.int o.1), o.2.1, o.2.2) rmX9_bits.cells rmX9_bits.slots) 0 [some (.int x0), none, none] [] z h 0 0 := by
  unfold fX9_bits at hf
  refine J_iconst (v := 0) dX9_bits_0 (by decide) ?_
  refine S_istore_n_1 dX9_bits_1 rfl (by decide) ?_
  refine J_iconst (v := 0) dX9_bits_2 (by decide) ?_
  refine S_istore_n_2 dX9_bits_3 rfl (by decide) ?_
  refine J.sub (jsub_s (jsub_s (jsub_s (jsub_nil _)))) ?_
  exact wlX9_bits_4 hst   _ _ _ _ _ _ _ hf
theorem mX9_bits {g : JG} (hst : (jl g).stackTraces = false) {x0 : Int32} {z : Nat} {h : AH} {o : Int32 × Nat × AH} (hf : fX9_bits x0 z h = some o) : jMet g yX9_bits (wj yX9_bits cX9_bits 3 (some .int)) rmX9_bits [.int x0] z h (some (.int o.1), o.2.1, o.2.2) :=
  jMet_mk (by decide) (Nat.le_of_ble_eq_true rfl) [some (.int x0), none, none] rfl (wfX9_bits hst hf)
def fX9_release  (a0 : Nat) (x1 : Int32) (x2 : Int32) (z : Nat) (h : AH) : Option (Int32 × Nat × AH) :=
  gd (kd h a0 = 10) (bd3 (fX9_releaseFault a0 x1 x2 z h) (fun vo2 zo2 ho2h => gd (kd ho2h a0 = 10) (bl (wI ho2h a0 6 vo2) (fun h4 => (if (iv h4 a0 6) ≤ 0 then (bd2 (fX9_begins a0 zo2 h4) (fun zo7 ho7h => gd (kd ho7h a0 = 10) (bd2 (fX9_lets a0 x1 x2 zo7 ho7h) (fun zo9 ho9h => gd (kd ho9h a0 = 10) (bd2 (fX9_records a0 zo9 ho9h) (fun zo11 ho11h => gd (kd ho11h a0 = 10) (bd3 (fX9_of a0 x1 3 zo11 ho11h) (fun vo13 zo13 ho13h => bd3 (fX9_bits vo13 zo13 ho13h) (fun vo14 zo14 ho14h => some (vo14, zo14, ho14h)))))))))) else (some (0, zo2, h4)))))))
theorem wfX9_release {g : JG} (hst : (jl g).stackTraces = false)   {a0 : Nat} {x1 : Int32} {x2 : Int32} {z : Nat} {h : AH} {o : Int32 × Nat × AH} (hf : fX9_release  a0 x1 x2 z h = some o) : J g MX9_release (jN g (some (.int o.1), o.2.1, o.2.2) rmX9_release.cells rmX9_release.slots) 0 [some (.ref a0), some (.int x1), some (.int x2)] [] z h 0 0 := by
  unfold fX9_release at hf
  refine J_aload_n dX9_release_0 rfl rfl ?_
  refine J_aload_n dX9_release_1 rfl rfl ?_
  refine J_iload_n dX9_release_2 rfl rfl ?_
  refine J_iload_n dX9_release_3 rfl rfl ?_
  obtain ⟨k1, hf⟩ := gds hf
  obtain ⟨vo2, zo2, ho2h, ho2, hf⟩ := rfs3 hf
  refine CV2i dX9_release_4 (mX9_releaseFault hst ho2) tk_1115 iX9_releaseFault k1 (by decide) rfl ⟨by decide, by decide⟩ ⟨by decide, by decide⟩ (Nat.le_of_ble_eq_true rfl) ?_
  obtain ⟨k3, hf⟩ := gds hf
  refine P_9_6 dX9_release_7 tk_925 k3 ?_
  obtain ⟨h4, eh4, hf⟩ := bls hf
  refine J_h eh4 ?_
  refine J_aload_n dX9_release_10 rfl rfl ?_
  have k5 : kd h4 a0 = 10 := by rw [eh4]; exact k3
  refine G_9_6 dX9_release_11 tk_925 k5 ?_
  rcases br hf with ⟨c6, hf⟩ | ⟨c6, hf⟩
  · refine J_if_le (tgt := 19) dX9_release_14 (by decide) (fun _ => ?_) (fun w => absurd c6 w)
    refine J_aload_n dX9_release_19 rfl rfl ?_
    obtain ⟨zo7, ho7h, ho7, hf⟩ := rfs2 hf
    refine CV0v dX9_release_20 (mX9_begins hst ho7) tk_999 iX9_begins k5 (by decide) rfl ⟨by decide, by decide⟩ ⟨by decide, by decide⟩ (Nat.le_of_ble_eq_true rfl) ?_
    refine J_aload_n dX9_release_23 rfl rfl ?_
    refine J_iload_n dX9_release_24 rfl rfl ?_
    refine J_iload_n dX9_release_25 rfl rfl ?_
    obtain ⟨k8, hf⟩ := gds hf
    obtain ⟨zo9, ho9h, ho9, hf⟩ := rfs2 hf
    refine CV2v dX9_release_26 (mX9_lets hst ho9) tk_1119 iX9_lets k8 (by decide) rfl ⟨by decide, by decide⟩ ⟨by decide, by decide⟩ (Nat.le_of_ble_eq_true rfl) ?_
    refine J_aload_n dX9_release_29 rfl rfl ?_
    obtain ⟨k10, hf⟩ := gds hf
    obtain ⟨zo11, ho11h, ho11, hf⟩ := rfs2 hf
    refine CV0v dX9_release_30 (mX9_records hst ho11) tk_1003 iX9_records k10 (by decide) rfl ⟨by decide, by decide⟩ ⟨by decide, by decide⟩ (Nat.le_of_ble_eq_true rfl) ?_
    refine J_aload_n dX9_release_33 rfl rfl ?_
    refine J_iload_n dX9_release_34 rfl rfl ?_
    refine J_iconst (v := 3) dX9_release_35 (by decide) ?_
    obtain ⟨k12, hf⟩ := gds hf
    obtain ⟨vo13, zo13, ho13h, ho13, hf⟩ := rfs3 hf
    refine CV2i dX9_release_36 (mX9_of hst ho13) tk_1023 iX9_of k12 (by decide) rfl ⟨by decide, by decide⟩ ⟨by decide, by decide⟩ (Nat.le_of_ble_eq_true rfl) ?_
    obtain ⟨vo14, zo14, ho14h, ho14, hf⟩ := rfs3 hf
    refine CS1i (host := "") dX9_release_39 (mX9_bits hst ho14) tk_1123 iX9_bits ⟨by decide, by decide⟩ ⟨by decide, by decide⟩ (Nat.le_of_ble_eq_true rfl) ?_
    cases hf
    exact J_iretN dX9_release_42 rfl (by decide) (by decide)
  · refine J_if_le (tgt := 19) dX9_release_14 (by decide) (fun w => absurd w c6) (fun _ => ?_)
    refine J_iconst (v := 0) dX9_release_17 (by decide) ?_
    cases hf
    exact J_iretN dX9_release_18 rfl (by decide) (by decide)
theorem mX9_release {g : JG} (hst : (jl g).stackTraces = false) {a0 : Nat} {x1 : Int32} {x2 : Int32} {z : Nat} {h : AH} {o : Int32 × Nat × AH} (hf : fX9_release a0 x1 x2 z h = some o) : jMet g yX9_release (wj yX9_release cX9_release 3 (some .int)) rmX9_release [.ref a0, .int x1, .int x2] z h (some (.int o.1), o.2.1, o.2.2) :=
  jMet_mk (by decide) (Nat.le_of_ble_eq_true rfl) [some (.ref a0), some (.int x1), some (.int x2)] rfl (wfX9_release hst hf)
def fX9_finishFault  (a0 : Nat) (x1 : Int32) (z : Nat) (h : AH) : Option (Int32 × Nat × AH) :=
  gd (kd h a0 = 10) (bd3 (fX9_isTask a0 x1 z h) (fun vo2 zo2 ho2h => (if vo2 = 0 then (some (1, zo2, ho2h)) else (gd (kd ho2h a0 = 10) (bd3 (fX9_isRunning a0 x1 zo2 ho2h) (fun vo5 zo5 ho5h => (if vo5 = 0 then (some (2, zo5, ho5h)) else (some (0, zo5, ho5h)))))))))
theorem wfX9_finishFault {g : JG} (hst : (jl g).stackTraces = false)   {a0 : Nat} {x1 : Int32} {z : Nat} {h : AH} {o : Int32 × Nat × AH} (hf : fX9_finishFault  a0 x1 z h = some o) : J g MX9_finishFault (jN g (some (.int o.1), o.2.1, o.2.2) rmX9_finishFault.cells rmX9_finishFault.slots) 0 [some (.ref a0), some (.int x1)] [] z h 0 0 := by
  unfold fX9_finishFault at hf
  refine J_aload_n dX9_finishFault_0 rfl rfl ?_
  refine J_iload_n dX9_finishFault_1 rfl rfl ?_
  obtain ⟨k1, hf⟩ := gds hf
  obtain ⟨vo2, zo2, ho2h, ho2, hf⟩ := rfs3 hf
  refine CV1i dX9_finishFault_2 (mX9_isTask hst ho2) tk_1019 iX9_isTask k1 (by decide) rfl ⟨by decide, by decide⟩ ⟨by decide, by decide⟩ (Nat.le_of_ble_eq_true rfl) ?_
  rcases br hf with ⟨c3, hf⟩ | ⟨c3, hf⟩
  · refine J_if_ne (tgt := 12) dX9_finishFault_5 (by decide) (fun w => absurd c3 w) (fun _ => ?_)
    refine J_iconst (v := 1) dX9_finishFault_8 (by decide) ?_
    refine J_goto (tgt := 25) dX9_finishFault_9 (by decide) ?_
    cases hf
    exact J_iretN dX9_finishFault_25 rfl (by decide) (by decide)
  · refine J_if_ne (tgt := 12) dX9_finishFault_5 (by decide) (fun _ => ?_) (fun w => absurd w c3)
    refine J_aload_n dX9_finishFault_12 rfl rfl ?_
    refine J_iload_n dX9_finishFault_13 rfl rfl ?_
    obtain ⟨k4, hf⟩ := gds hf
    obtain ⟨vo5, zo5, ho5h, ho5, hf⟩ := rfs3 hf
    refine CV1i dX9_finishFault_14 (mX9_isRunning hst ho5) tk_1051 iX9_isRunning k4 (by decide) rfl ⟨by decide, by decide⟩ ⟨by decide, by decide⟩ (Nat.le_of_ble_eq_true rfl) ?_
    rcases br hf with ⟨c6, hf⟩ | ⟨c6, hf⟩
    · refine J_if_ne (tgt := 24) dX9_finishFault_17 (by decide) (fun w => absurd c6 w) (fun _ => ?_)
      refine J_iconst (v := 2) dX9_finishFault_20 (by decide) ?_
      refine J_goto (tgt := 25) dX9_finishFault_21 (by decide) ?_
      cases hf
      exact J_iretN dX9_finishFault_25 rfl (by decide) (by decide)
    · refine J_if_ne (tgt := 24) dX9_finishFault_17 (by decide) (fun _ => ?_) (fun w => absurd w c6)
      refine J_iconst (v := 0) dX9_finishFault_24 (by decide) ?_
      cases hf
      exact J_iretN dX9_finishFault_25 rfl (by decide) (by decide)
theorem mX9_finishFault {g : JG} (hst : (jl g).stackTraces = false) {a0 : Nat} {x1 : Int32} {z : Nat} {h : AH} {o : Int32 × Nat × AH} (hf : fX9_finishFault a0 x1 z h = some o) : jMet g yX9_finishFault (wj yX9_finishFault cX9_finishFault 2 (some .int)) rmX9_finishFault [.ref a0, .int x1] z h (some (.int o.1), o.2.1, o.2.2) :=
  jMet_mk (by decide) (Nat.le_of_ble_eq_true rfl) [some (.ref a0), some (.int x1)] rfl (wfX9_finishFault hst hf)
def fX9_finishes  (a0 : Nat) (x1 : Int32) (z : Nat) (h : AH) : Option (Nat × AH) :=
  gd (kd h a0 = 10) (bd2 (fX9_puts a0 x1 0 0 z h) (fun zo2 ho2h => gd (kd ho2h a0 = 10) (bd2 (fX9_puts a0 x1 3 0 zo2 ho2h) (fun zo4 ho4h => gd (kd ho4h a0 = 10) (bd2 (fX9_settles a0 zo4 ho4h) (fun zo6 ho6h => some (zo6, ho6h)))))))
theorem wfX9_finishes {g : JG} (hst : (jl g).stackTraces = false)   {a0 : Nat} {x1 : Int32} {z : Nat} {h : AH} {o : Nat × AH} (hf : fX9_finishes  a0 x1 z h = some o) : J g MX9_finishes (jN g (none, o.1, o.2) rmX9_finishes.cells rmX9_finishes.slots) 0 [some (.ref a0), some (.int x1)] [] z h 0 0 := by
  unfold fX9_finishes at hf
  refine J_aload_n dX9_finishes_0 rfl rfl ?_
  refine J_iload_n dX9_finishes_1 rfl rfl ?_
  refine J_iconst (v := 0) dX9_finishes_2 (by decide) ?_
  refine J_iconst (v := 0) dX9_finishes_3 (by decide) ?_
  obtain ⟨k1, hf⟩ := gds hf
  obtain ⟨zo2, ho2h, ho2, hf⟩ := rfs2 hf
  refine CV3v dX9_finishes_4 (mX9_puts hst ho2) tk_1039 iX9_puts k1 (by decide) rfl ⟨by decide, by decide⟩ ⟨by decide, by decide⟩ (Nat.le_of_ble_eq_true rfl) ?_
  refine J_aload_n dX9_finishes_7 rfl rfl ?_
  refine J_iload_n dX9_finishes_8 rfl rfl ?_
  refine J_iconst (v := 3) dX9_finishes_9 (by decide) ?_
  refine J_iconst (v := 0) dX9_finishes_10 (by decide) ?_
  obtain ⟨k3, hf⟩ := gds hf
  obtain ⟨zo4, ho4h, ho4, hf⟩ := rfs2 hf
  refine CV3v dX9_finishes_11 (mX9_puts hst ho4) tk_1039 iX9_puts k3 (by decide) rfl ⟨by decide, by decide⟩ ⟨by decide, by decide⟩ (Nat.le_of_ble_eq_true rfl) ?_
  refine J_aload_n dX9_finishes_14 rfl rfl ?_
  obtain ⟨k5, hf⟩ := gds hf
  obtain ⟨zo6, ho6h, ho6, hf⟩ := rfs2 hf
  refine CV0v dX9_finishes_15 (mX9_settles hst ho6) tk_1095 iX9_settles k5 (by decide) rfl ⟨by decide, by decide⟩ ⟨by decide, by decide⟩ (Nat.le_of_ble_eq_true rfl) ?_
  cases hf
  exact J_vretN dX9_finishes_18 rfl (by decide) (by decide)
theorem mX9_finishes {g : JG} (hst : (jl g).stackTraces = false) {a0 : Nat} {x1 : Int32} {z : Nat} {h : AH} {o : Nat × AH} (hf : fX9_finishes a0 x1 z h = some o) : jMet g yX9_finishes (wj yX9_finishes cX9_finishes 2 none) rmX9_finishes [.ref a0, .int x1] z h (none, o.1, o.2) :=
  jMet_mk (by decide) (Nat.le_of_ble_eq_true rfl) [some (.ref a0), some (.int x1)] rfl (wfX9_finishes hst hf)
def fX9_finish  (a0 : Nat) (x1 : Int32) (z : Nat) (h : AH) : Option (Int32 × Nat × AH) :=
  gd (kd h a0 = 10) (bd3 (fX9_finishFault a0 x1 z h) (fun vo2 zo2 ho2h => gd (kd ho2h a0 = 10) (bl (wI ho2h a0 6 vo2) (fun h4 => (if (iv h4 a0 6) ≤ 0 then (bd2 (fX9_begins a0 zo2 h4) (fun zo7 ho7h => gd (kd ho7h a0 = 10) (bd3 (fX9_of a0 x1 3 zo7 ho7h) (fun vo9 zo9 ho9h => bd3 (fX9_bits vo9 zo9 ho9h) (fun vo10 zo10 ho10h => gd (kd ho10h a0 = 10) (bd2 (fX9_finishes a0 x1 zo10 ho10h) (fun zo12 ho12h => gd (kd ho12h a0 = 10) (bd2 (fX9_records a0 zo12 ho12h) (fun zo14 ho14h => some (vo10, zo14, ho14h)))))))))) else (some (0, zo2, h4)))))))
theorem wfX9_finish {g : JG} (hst : (jl g).stackTraces = false)   {a0 : Nat} {x1 : Int32} {z : Nat} {h : AH} {o : Int32 × Nat × AH} (hf : fX9_finish  a0 x1 z h = some o) : J g MX9_finish (jN g (some (.int o.1), o.2.1, o.2.2) rmX9_finish.cells rmX9_finish.slots) 0 [some (.ref a0), some (.int x1), none] [] z h 0 0 := by
  unfold fX9_finish at hf
  refine J_aload_n dX9_finish_0 rfl rfl ?_
  refine J_aload_n dX9_finish_1 rfl rfl ?_
  refine J_iload_n dX9_finish_2 rfl rfl ?_
  obtain ⟨k1, hf⟩ := gds hf
  obtain ⟨vo2, zo2, ho2h, ho2, hf⟩ := rfs3 hf
  refine CV1i dX9_finish_3 (mX9_finishFault hst ho2) tk_1130 iX9_finishFault k1 (by decide) rfl ⟨by decide, by decide⟩ ⟨by decide, by decide⟩ (Nat.le_of_ble_eq_true rfl) ?_
  obtain ⟨k3, hf⟩ := gds hf
  refine P_9_6 dX9_finish_6 tk_925 k3 ?_
  obtain ⟨h4, eh4, hf⟩ := bls hf
  refine J_h eh4 ?_
  refine J_aload_n dX9_finish_9 rfl rfl ?_
  have k5 : kd h4 a0 = 10 := by rw [eh4]; exact k3
  refine G_9_6 dX9_finish_10 tk_925 k5 ?_
  rcases br hf with ⟨c6, hf⟩ | ⟨c6, hf⟩
  · refine J_if_le (tgt := 18) dX9_finish_13 (by decide) (fun _ => ?_) (fun w => absurd c6 w)
    refine J_aload_n dX9_finish_18 rfl rfl ?_
    obtain ⟨zo7, ho7h, ho7, hf⟩ := rfs2 hf
    refine CV0v dX9_finish_19 (mX9_begins hst ho7) tk_999 iX9_begins k5 (by decide) rfl ⟨by decide, by decide⟩ ⟨by decide, by decide⟩ (Nat.le_of_ble_eq_true rfl) ?_
    refine J_aload_n dX9_finish_22 rfl rfl ?_
    refine J_iload_n dX9_finish_23 rfl rfl ?_
    refine J_iconst (v := 3) dX9_finish_24 (by decide) ?_
    obtain ⟨k8, hf⟩ := gds hf
    obtain ⟨vo9, zo9, ho9h, ho9, hf⟩ := rfs3 hf
    refine CV2i dX9_finish_25 (mX9_of hst ho9) tk_1023 iX9_of k8 (by decide) rfl ⟨by decide, by decide⟩ ⟨by decide, by decide⟩ (Nat.le_of_ble_eq_true rfl) ?_
    obtain ⟨vo10, zo10, ho10h, ho10, hf⟩ := rfs3 hf
    refine CS1i (host := "") dX9_finish_28 (mX9_bits hst ho10) tk_1123 iX9_bits ⟨by decide, by decide⟩ ⟨by decide, by decide⟩ (Nat.le_of_ble_eq_true rfl) ?_
    refine S_istore_n_2 dX9_finish_31 rfl (by decide) ?_
    refine J_aload_n dX9_finish_32 rfl rfl ?_
    refine J_iload_n dX9_finish_33 rfl rfl ?_
    obtain ⟨k11, hf⟩ := gds hf
    obtain ⟨zo12, ho12h, ho12, hf⟩ := rfs2 hf
    refine CV1v dX9_finish_34 (mX9_finishes hst ho12) tk_1134 iX9_finishes k11 (by decide) rfl ⟨by decide, by decide⟩ ⟨by decide, by decide⟩ (Nat.le_of_ble_eq_true rfl) ?_
    refine J_aload_n dX9_finish_37 rfl rfl ?_
    obtain ⟨k13, hf⟩ := gds hf
    obtain ⟨zo14, ho14h, ho14, hf⟩ := rfs2 hf
    refine CV0v dX9_finish_38 (mX9_records hst ho14) tk_1003 iX9_records k13 (by decide) rfl ⟨by decide, by decide⟩ ⟨by decide, by decide⟩ (Nat.le_of_ble_eq_true rfl) ?_
    refine J_iload_n dX9_finish_41 rfl rfl ?_
    cases hf
    exact J_iretN dX9_finish_42 rfl (by decide) (by decide)
  · refine J_if_le (tgt := 18) dX9_finish_13 (by decide) (fun w => absurd w c6) (fun _ => ?_)
    refine J_iconst (v := 0) dX9_finish_16 (by decide) ?_
    cases hf
    exact J_iretN dX9_finish_17 rfl (by decide) (by decide)
theorem mX9_finish {g : JG} (hst : (jl g).stackTraces = false) {a0 : Nat} {x1 : Int32} {z : Nat} {h : AH} {o : Int32 × Nat × AH} (hf : fX9_finish a0 x1 z h = some o) : jMet g yX9_finish (wj yX9_finish cX9_finish 3 (some .int)) rmX9_finish [.ref a0, .int x1] z h (some (.int o.1), o.2.1, o.2.2) :=
  jMet_mk (by decide) (Nat.le_of_ble_eq_true rfl) [some (.ref a0), some (.int x1), none] rfl (wfX9_finish hst hf)
def fX9_abortFault  (a0 : Nat) (x1 : Int32) (z : Nat) (h : AH) : Option (Int32 × Nat × AH) :=
  gd (kd h a0 = 10) (bd3 (fX9_isTask a0 x1 z h) (fun vo2 zo2 ho2h => (if vo2 = 0 then (some (1, zo2, ho2h)) else (gd (kd ho2h a0 = 10) (bd3 (fX9_of a0 x1 4 zo2 ho2h) (fun vo5 zo5 ho5h => (if vo5 = 2 then (some (2, zo5, ho5h)) else (some (0, zo5, ho5h)))))))))
theorem wfX9_abortFault {g : JG} (hst : (jl g).stackTraces = false)   {a0 : Nat} {x1 : Int32} {z : Nat} {h : AH} {o : Int32 × Nat × AH} (hf : fX9_abortFault  a0 x1 z h = some o) : J g MX9_abortFault (jN g (some (.int o.1), o.2.1, o.2.2) rmX9_abortFault.cells rmX9_abortFault.slots) 0 [some (.ref a0), some (.int x1)] [] z h 0 0 := by
  unfold fX9_abortFault at hf
  refine J_aload_n dX9_abortFault_0 rfl rfl ?_
  refine J_iload_n dX9_abortFault_1 rfl rfl ?_
  obtain ⟨k1, hf⟩ := gds hf
  obtain ⟨vo2, zo2, ho2h, ho2, hf⟩ := rfs3 hf
  refine CV1i dX9_abortFault_2 (mX9_isTask hst ho2) tk_1019 iX9_isTask k1 (by decide) rfl ⟨by decide, by decide⟩ ⟨by decide, by decide⟩ (Nat.le_of_ble_eq_true rfl) ?_
  rcases br hf with ⟨c3, hf⟩ | ⟨c3, hf⟩
  · refine J_if_ne (tgt := 12) dX9_abortFault_5 (by decide) (fun w => absurd c3 w) (fun _ => ?_)
    refine J_iconst (v := 1) dX9_abortFault_8 (by decide) ?_
    refine J_goto (tgt := 27) dX9_abortFault_9 (by decide) ?_
    cases hf
    exact J_iretN dX9_abortFault_27 rfl (by decide) (by decide)
  · refine J_if_ne (tgt := 12) dX9_abortFault_5 (by decide) (fun _ => ?_) (fun w => absurd w c3)
    refine J_aload_n dX9_abortFault_12 rfl rfl ?_
    refine J_iload_n dX9_abortFault_13 rfl rfl ?_
    refine J_iconst (v := 4) dX9_abortFault_14 (by decide) ?_
    obtain ⟨k4, hf⟩ := gds hf
    obtain ⟨vo5, zo5, ho5h, ho5, hf⟩ := rfs3 hf
    refine CV2i dX9_abortFault_15 (mX9_of hst ho5) tk_1023 iX9_of k4 (by decide) rfl ⟨by decide, by decide⟩ ⟨by decide, by decide⟩ (Nat.le_of_ble_eq_true rfl) ?_
    refine J_iconst (v := 2) dX9_abortFault_18 (by decide) ?_
    rcases br hf with ⟨c6, hf⟩ | ⟨c6, hf⟩
    · refine J_icmp_ne (tgt := 26) dX9_abortFault_19 (by decide) (fun w => absurd c6 w) (fun _ => ?_)
      refine J_iconst (v := 2) dX9_abortFault_22 (by decide) ?_
      refine J_goto (tgt := 27) dX9_abortFault_23 (by decide) ?_
      cases hf
      exact J_iretN dX9_abortFault_27 rfl (by decide) (by decide)
    · refine J_icmp_ne (tgt := 26) dX9_abortFault_19 (by decide) (fun _ => ?_) (fun w => absurd w c6)
      refine J_iconst (v := 0) dX9_abortFault_26 (by decide) ?_
      cases hf
      exact J_iretN dX9_abortFault_27 rfl (by decide) (by decide)
theorem mX9_abortFault {g : JG} (hst : (jl g).stackTraces = false) {a0 : Nat} {x1 : Int32} {z : Nat} {h : AH} {o : Int32 × Nat × AH} (hf : fX9_abortFault a0 x1 z h = some o) : jMet g yX9_abortFault (wj yX9_abortFault cX9_abortFault 2 (some .int)) rmX9_abortFault [.ref a0, .int x1] z h (some (.int o.1), o.2.1, o.2.2) :=
  jMet_mk (by decide) (Nat.le_of_ble_eq_true rfl) [some (.ref a0), some (.int x1)] rfl (wfX9_abortFault hst hf)
def fX9_aborts  (a0 : Nat) (x1 : Int32) (z : Nat) (h : AH) : Option (Nat × AH) :=
  gd (kd h a0 = 10) (bd2 (fX9_ends a0 x1 z h) (fun zo2 ho2h => gd (kd ho2h a0 = 10) (bd2 (fX9_settles a0 zo2 ho2h) (fun zo4 ho4h => some (zo4, ho4h)))))
theorem wfX9_aborts {g : JG} (hst : (jl g).stackTraces = false)   {a0 : Nat} {x1 : Int32} {z : Nat} {h : AH} {o : Nat × AH} (hf : fX9_aborts  a0 x1 z h = some o) : J g MX9_aborts (jN g (none, o.1, o.2) rmX9_aborts.cells rmX9_aborts.slots) 0 [some (.ref a0), some (.int x1)] [] z h 0 0 := by
  unfold fX9_aborts at hf
  refine J_aload_n dX9_aborts_0 rfl rfl ?_
  refine J_iload_n dX9_aborts_1 rfl rfl ?_
  obtain ⟨k1, hf⟩ := gds hf
  obtain ⟨zo2, ho2h, ho2, hf⟩ := rfs2 hf
  refine CV1v dX9_aborts_2 (mX9_ends hst ho2) tk_1075 iX9_ends k1 (by decide) rfl ⟨by decide, by decide⟩ ⟨by decide, by decide⟩ (Nat.le_of_ble_eq_true rfl) ?_
  refine J_aload_n dX9_aborts_5 rfl rfl ?_
  obtain ⟨k3, hf⟩ := gds hf
  obtain ⟨zo4, ho4h, ho4, hf⟩ := rfs2 hf
  refine CV0v dX9_aborts_6 (mX9_settles hst ho4) tk_1095 iX9_settles k3 (by decide) rfl ⟨by decide, by decide⟩ ⟨by decide, by decide⟩ (Nat.le_of_ble_eq_true rfl) ?_
  cases hf
  exact J_vretN dX9_aborts_9 rfl (by decide) (by decide)
theorem mX9_aborts {g : JG} (hst : (jl g).stackTraces = false) {a0 : Nat} {x1 : Int32} {z : Nat} {h : AH} {o : Nat × AH} (hf : fX9_aborts a0 x1 z h = some o) : jMet g yX9_aborts (wj yX9_aborts cX9_aborts 2 none) rmX9_aborts [.ref a0, .int x1] z h (none, o.1, o.2) :=
  jMet_mk (by decide) (Nat.le_of_ble_eq_true rfl) [some (.ref a0), some (.int x1)] rfl (wfX9_aborts hst hf)
def fX9_abort  (a0 : Nat) (x1 : Int32) (z : Nat) (h : AH) : Option (Int32 × Nat × AH) :=
  gd (kd h a0 = 10) (bd3 (fX9_abortFault a0 x1 z h) (fun vo2 zo2 ho2h => gd (kd ho2h a0 = 10) (bl (wI ho2h a0 6 vo2) (fun h4 => (if (iv h4 a0 6) ≤ 0 then (bd2 (fX9_begins a0 zo2 h4) (fun zo7 ho7h => gd (kd ho7h a0 = 10) (bd3 (fX9_of a0 x1 3 zo7 ho7h) (fun vo9 zo9 ho9h => bd3 (fX9_bits vo9 zo9 ho9h) (fun vo10 zo10 ho10h => gd (kd ho10h a0 = 10) (bd2 (fX9_aborts a0 x1 zo10 ho10h) (fun zo12 ho12h => gd (kd ho12h a0 = 10) (bd2 (fX9_records a0 zo12 ho12h) (fun zo14 ho14h => some (vo10, zo14, ho14h)))))))))) else (some (0, zo2, h4)))))))
theorem wfX9_abort {g : JG} (hst : (jl g).stackTraces = false)   {a0 : Nat} {x1 : Int32} {z : Nat} {h : AH} {o : Int32 × Nat × AH} (hf : fX9_abort  a0 x1 z h = some o) : J g MX9_abort (jN g (some (.int o.1), o.2.1, o.2.2) rmX9_abort.cells rmX9_abort.slots) 0 [some (.ref a0), some (.int x1), none] [] z h 0 0 := by
  unfold fX9_abort at hf
  refine J_aload_n dX9_abort_0 rfl rfl ?_
  refine J_aload_n dX9_abort_1 rfl rfl ?_
  refine J_iload_n dX9_abort_2 rfl rfl ?_
  obtain ⟨k1, hf⟩ := gds hf
  obtain ⟨vo2, zo2, ho2h, ho2, hf⟩ := rfs3 hf
  refine CV1i dX9_abort_3 (mX9_abortFault hst ho2) tk_1142 iX9_abortFault k1 (by decide) rfl ⟨by decide, by decide⟩ ⟨by decide, by decide⟩ (Nat.le_of_ble_eq_true rfl) ?_
  obtain ⟨k3, hf⟩ := gds hf
  refine P_9_6 dX9_abort_6 tk_925 k3 ?_
  obtain ⟨h4, eh4, hf⟩ := bls hf
  refine J_h eh4 ?_
  refine J_aload_n dX9_abort_9 rfl rfl ?_
  have k5 : kd h4 a0 = 10 := by rw [eh4]; exact k3
  refine G_9_6 dX9_abort_10 tk_925 k5 ?_
  rcases br hf with ⟨c6, hf⟩ | ⟨c6, hf⟩
  · refine J_if_le (tgt := 18) dX9_abort_13 (by decide) (fun _ => ?_) (fun w => absurd c6 w)
    refine J_aload_n dX9_abort_18 rfl rfl ?_
    obtain ⟨zo7, ho7h, ho7, hf⟩ := rfs2 hf
    refine CV0v dX9_abort_19 (mX9_begins hst ho7) tk_999 iX9_begins k5 (by decide) rfl ⟨by decide, by decide⟩ ⟨by decide, by decide⟩ (Nat.le_of_ble_eq_true rfl) ?_
    refine J_aload_n dX9_abort_22 rfl rfl ?_
    refine J_iload_n dX9_abort_23 rfl rfl ?_
    refine J_iconst (v := 3) dX9_abort_24 (by decide) ?_
    obtain ⟨k8, hf⟩ := gds hf
    obtain ⟨vo9, zo9, ho9h, ho9, hf⟩ := rfs3 hf
    refine CV2i dX9_abort_25 (mX9_of hst ho9) tk_1023 iX9_of k8 (by decide) rfl ⟨by decide, by decide⟩ ⟨by decide, by decide⟩ (Nat.le_of_ble_eq_true rfl) ?_
    obtain ⟨vo10, zo10, ho10h, ho10, hf⟩ := rfs3 hf
    refine CS1i (host := "") dX9_abort_28 (mX9_bits hst ho10) tk_1123 iX9_bits ⟨by decide, by decide⟩ ⟨by decide, by decide⟩ (Nat.le_of_ble_eq_true rfl) ?_
    refine S_istore_n_2 dX9_abort_31 rfl (by decide) ?_
    refine J_aload_n dX9_abort_32 rfl rfl ?_
    refine J_iload_n dX9_abort_33 rfl rfl ?_
    obtain ⟨k11, hf⟩ := gds hf
    obtain ⟨zo12, ho12h, ho12, hf⟩ := rfs2 hf
    refine CV1v dX9_abort_34 (mX9_aborts hst ho12) tk_1146 iX9_aborts k11 (by decide) rfl ⟨by decide, by decide⟩ ⟨by decide, by decide⟩ (Nat.le_of_ble_eq_true rfl) ?_
    refine J_aload_n dX9_abort_37 rfl rfl ?_
    obtain ⟨k13, hf⟩ := gds hf
    obtain ⟨zo14, ho14h, ho14, hf⟩ := rfs2 hf
    refine CV0v dX9_abort_38 (mX9_records hst ho14) tk_1003 iX9_records k13 (by decide) rfl ⟨by decide, by decide⟩ ⟨by decide, by decide⟩ (Nat.le_of_ble_eq_true rfl) ?_
    refine J_iload_n dX9_abort_41 rfl rfl ?_
    cases hf
    exact J_iretN dX9_abort_42 rfl (by decide) (by decide)
  · refine J_if_le (tgt := 18) dX9_abort_13 (by decide) (fun w => absurd w c6) (fun _ => ?_)
    refine J_iconst (v := 0) dX9_abort_16 (by decide) ?_
    cases hf
    exact J_iretN dX9_abort_17 rfl (by decide) (by decide)
theorem mX9_abort {g : JG} (hst : (jl g).stackTraces = false) {a0 : Nat} {x1 : Int32} {z : Nat} {h : AH} {o : Int32 × Nat × AH} (hf : fX9_abort a0 x1 z h = some o) : jMet g yX9_abort (wj yX9_abort cX9_abort 3 (some .int)) rmX9_abort [.ref a0, .int x1] z h (some (.int o.1), o.2.1, o.2.2) :=
  jMet_mk (by decide) (Nat.le_of_ble_eq_true rfl) [some (.ref a0), some (.int x1), none] rfl (wfX9_abort hst hf)
def fX9_restartFault  (a0 : Nat) (x1 : Int32) (z : Nat) (h : AH) : Option (Int32 × Nat × AH) :=
  gd (kd h a0 = 10) (bd3 (fX9_isTask a0 x1 z h) (fun vo2 zo2 ho2h => (if vo2 = 0 then (some (1, zo2, ho2h)) else (gd (kd ho2h a0 = 10) (bd3 (fX9_of a0 x1 4 zo2 ho2h) (fun vo5 zo5 ho5h => (if vo5 = 2 then (some (0, zo5, ho5h)) else (some (2, zo5, ho5h)))))))))
theorem wfX9_restartFault {g : JG} (hst : (jl g).stackTraces = false)   {a0 : Nat} {x1 : Int32} {z : Nat} {h : AH} {o : Int32 × Nat × AH} (hf : fX9_restartFault  a0 x1 z h = some o) : J g MX9_restartFault (jN g (some (.int o.1), o.2.1, o.2.2) rmX9_restartFault.cells rmX9_restartFault.slots) 0 [some (.ref a0), some (.int x1)] [] z h 0 0 := by
  unfold fX9_restartFault at hf
  refine J_aload_n dX9_restartFault_0 rfl rfl ?_
  refine J_iload_n dX9_restartFault_1 rfl rfl ?_
  obtain ⟨k1, hf⟩ := gds hf
  obtain ⟨vo2, zo2, ho2h, ho2, hf⟩ := rfs3 hf
  refine CV1i dX9_restartFault_2 (mX9_isTask hst ho2) tk_1019 iX9_isTask k1 (by decide) rfl ⟨by decide, by decide⟩ ⟨by decide, by decide⟩ (Nat.le_of_ble_eq_true rfl) ?_
  rcases br hf with ⟨c3, hf⟩ | ⟨c3, hf⟩
  · refine J_if_ne (tgt := 12) dX9_restartFault_5 (by decide) (fun w => absurd c3 w) (fun _ => ?_)
    refine J_iconst (v := 1) dX9_restartFault_8 (by decide) ?_
    refine J_goto (tgt := 27) dX9_restartFault_9 (by decide) ?_
    cases hf
    exact J_iretN dX9_restartFault_27 rfl (by decide) (by decide)
  · refine J_if_ne (tgt := 12) dX9_restartFault_5 (by decide) (fun _ => ?_) (fun w => absurd w c3)
    refine J_aload_n dX9_restartFault_12 rfl rfl ?_
    refine J_iload_n dX9_restartFault_13 rfl rfl ?_
    refine J_iconst (v := 4) dX9_restartFault_14 (by decide) ?_
    obtain ⟨k4, hf⟩ := gds hf
    obtain ⟨vo5, zo5, ho5h, ho5, hf⟩ := rfs3 hf
    refine CV2i dX9_restartFault_15 (mX9_of hst ho5) tk_1023 iX9_of k4 (by decide) rfl ⟨by decide, by decide⟩ ⟨by decide, by decide⟩ (Nat.le_of_ble_eq_true rfl) ?_
    refine J_iconst (v := 2) dX9_restartFault_18 (by decide) ?_
    rcases br hf with ⟨c6, hf⟩ | ⟨c6, hf⟩
    · refine J_icmp_eq (tgt := 26) dX9_restartFault_19 (by decide) (fun _ => ?_) (fun w => absurd c6 w)
      refine J_iconst (v := 0) dX9_restartFault_26 (by decide) ?_
      cases hf
      exact J_iretN dX9_restartFault_27 rfl (by decide) (by decide)
    · refine J_icmp_eq (tgt := 26) dX9_restartFault_19 (by decide) (fun w => absurd w c6) (fun _ => ?_)
      refine J_iconst (v := 2) dX9_restartFault_22 (by decide) ?_
      refine J_goto (tgt := 27) dX9_restartFault_23 (by decide) ?_
      cases hf
      exact J_iretN dX9_restartFault_27 rfl (by decide) (by decide)
theorem mX9_restartFault {g : JG} (hst : (jl g).stackTraces = false) {a0 : Nat} {x1 : Int32} {z : Nat} {h : AH} {o : Int32 × Nat × AH} (hf : fX9_restartFault a0 x1 z h = some o) : jMet g yX9_restartFault (wj yX9_restartFault cX9_restartFault 2 (some .int)) rmX9_restartFault [.ref a0, .int x1] z h (some (.int o.1), o.2.1, o.2.2) :=
  jMet_mk (by decide) (Nat.le_of_ble_eq_true rfl) [some (.ref a0), some (.int x1)] rfl (wfX9_restartFault hst hf)
def fX9_restart  (a0 : Nat) (x1 : Int32) (z : Nat) (h : AH) : Option (Int32 × Nat × AH) :=
  gd (kd h a0 = 10) (bd3 (fX9_restartFault a0 x1 z h) (fun vo2 zo2 ho2h => gd (kd ho2h a0 = 10) (bl (wI ho2h a0 6 vo2) (fun h4 => (if (iv h4 a0 6) ≤ 0 then (bd2 (fX9_begins a0 zo2 h4) (fun zo7 ho7h => gd (kd ho7h a0 = 10) (bd2 (fX9_puts a0 x1 4 0 zo7 ho7h) (fun zo9 ho9h => gd (kd ho9h a0 = 10) (bd2 (fX9_records a0 zo9 ho9h) (fun zo11 ho11h => gd (kd ho11h a0 = 10) (bd3 (fX9_of a0 x1 2 zo11 ho11h) (fun vo13 zo13 ho13h => some (vo13, zo13, ho13h))))))))) else (some (0, zo2, h4)))))))
theorem wfX9_restart {g : JG} (hst : (jl g).stackTraces = false)   {a0 : Nat} {x1 : Int32} {z : Nat} {h : AH} {o : Int32 × Nat × AH} (hf : fX9_restart  a0 x1 z h = some o) : J g MX9_restart (jN g (some (.int o.1), o.2.1, o.2.2) rmX9_restart.cells rmX9_restart.slots) 0 [some (.ref a0), some (.int x1)] [] z h 0 0 := by
  unfold fX9_restart at hf
  refine J_aload_n dX9_restart_0 rfl rfl ?_
  refine J_aload_n dX9_restart_1 rfl rfl ?_
  refine J_iload_n dX9_restart_2 rfl rfl ?_
  obtain ⟨k1, hf⟩ := gds hf
  obtain ⟨vo2, zo2, ho2h, ho2, hf⟩ := rfs3 hf
  refine CV1i dX9_restart_3 (mX9_restartFault hst ho2) tk_1154 iX9_restartFault k1 (by decide) rfl ⟨by decide, by decide⟩ ⟨by decide, by decide⟩ (Nat.le_of_ble_eq_true rfl) ?_
  obtain ⟨k3, hf⟩ := gds hf
  refine P_9_6 dX9_restart_6 tk_925 k3 ?_
  obtain ⟨h4, eh4, hf⟩ := bls hf
  refine J_h eh4 ?_
  refine J_aload_n dX9_restart_9 rfl rfl ?_
  have k5 : kd h4 a0 = 10 := by rw [eh4]; exact k3
  refine G_9_6 dX9_restart_10 tk_925 k5 ?_
  rcases br hf with ⟨c6, hf⟩ | ⟨c6, hf⟩
  · refine J_if_le (tgt := 18) dX9_restart_13 (by decide) (fun _ => ?_) (fun w => absurd c6 w)
    refine J_aload_n dX9_restart_18 rfl rfl ?_
    obtain ⟨zo7, ho7h, ho7, hf⟩ := rfs2 hf
    refine CV0v dX9_restart_19 (mX9_begins hst ho7) tk_999 iX9_begins k5 (by decide) rfl ⟨by decide, by decide⟩ ⟨by decide, by decide⟩ (Nat.le_of_ble_eq_true rfl) ?_
    refine J_aload_n dX9_restart_22 rfl rfl ?_
    refine J_iload_n dX9_restart_23 rfl rfl ?_
    refine J_iconst (v := 4) dX9_restart_24 (by decide) ?_
    refine J_iconst (v := 0) dX9_restart_25 (by decide) ?_
    obtain ⟨k8, hf⟩ := gds hf
    obtain ⟨zo9, ho9h, ho9, hf⟩ := rfs2 hf
    refine CV3v dX9_restart_26 (mX9_puts hst ho9) tk_1039 iX9_puts k8 (by decide) rfl ⟨by decide, by decide⟩ ⟨by decide, by decide⟩ (Nat.le_of_ble_eq_true rfl) ?_
    refine J_aload_n dX9_restart_29 rfl rfl ?_
    obtain ⟨k10, hf⟩ := gds hf
    obtain ⟨zo11, ho11h, ho11, hf⟩ := rfs2 hf
    refine CV0v dX9_restart_30 (mX9_records hst ho11) tk_1003 iX9_records k10 (by decide) rfl ⟨by decide, by decide⟩ ⟨by decide, by decide⟩ (Nat.le_of_ble_eq_true rfl) ?_
    refine J_aload_n dX9_restart_33 rfl rfl ?_
    refine J_iload_n dX9_restart_34 rfl rfl ?_
    refine J_iconst (v := 2) dX9_restart_35 (by decide) ?_
    obtain ⟨k12, hf⟩ := gds hf
    obtain ⟨vo13, zo13, ho13h, ho13, hf⟩ := rfs3 hf
    refine CV2i dX9_restart_36 (mX9_of hst ho13) tk_1023 iX9_of k12 (by decide) rfl ⟨by decide, by decide⟩ ⟨by decide, by decide⟩ (Nat.le_of_ble_eq_true rfl) ?_
    cases hf
    exact J_iretN dX9_restart_39 rfl (by decide) (by decide)
  · refine J_if_le (tgt := 18) dX9_restart_13 (by decide) (fun w => absurd w c6) (fun _ => ?_)
    refine J_iconst (v := 0) dX9_restart_16 (by decide) ?_
    cases hf
    exact J_iretN dX9_restart_17 rfl (by decide) (by decide)
theorem mX9_restart {g : JG} (hst : (jl g).stackTraces = false) {a0 : Nat} {x1 : Int32} {z : Nat} {h : AH} {o : Int32 × Nat × AH} (hf : fX9_restart a0 x1 z h = some o) : jMet g yX9_restart (wj yX9_restart cX9_restart 2 (some .int)) rmX9_restart [.ref a0, .int x1] z h (some (.int o.1), o.2.1, o.2.2) :=
  jMet_mk (by decide) (Nat.le_of_ble_eq_true rfl) [some (.ref a0), some (.int x1)] rfl (wfX9_restart hst hf)
def bX9_all_26 (q4 : Nat → Int32 → Int32 → Nat → AH → Option (Int32 × Nat × AH)) (a0 : Nat) (x2 : Int32) (s0 : Int32) (s1 : Int32) (z : Nat) (h : AH) : Option (Int32 × Nat × AH) :=
  bl ((s0 ||| s1)) (fun v1 => q4 a0 v1 (x2 + 1) z h)
def lX9_all_4B  (q4 : Nat → Int32 → Int32 → Nat → AH → Option (Int32 × Nat × AH)) (a0 : Nat) (x1 : Int32) (x2 : Int32) (z : Nat) (h : AH) : Option (Int32 × Nat × AH) :=
  (if 10 ≤ x2 then (some (x1, z, h)) else (gd (kd h a0 = 10) (bd3 (fX9_isTask a0 x2 z h) (fun vo3 zo3 ho3h => (if vo3 = 0 then (bX9_all_26 q4 a0 x2 x1 0 zo3 ho3h) else (bX9_all_26 q4 a0 x2 x1 (1 <<< (x2 &&& 31)) zo3 ho3h))))))
def lX9_all_4  : Nat → Nat → Int32 → Int32 → Nat → AH → Option (Int32 × Nat × AH)
  | 0 => fun _ _ _ _ _ => none
  | fuel + 1 => lX9_all_4B  (lX9_all_4  fuel)
def fX9_all  (a0 : Nat) (z : Nat) (h : AH) : Option (Int32 × Nat × AH) :=
  lX9_all_4  fu a0 0 0 z h
theorem wbX9_all_26 {g : JG} (hst : (jl g).stackTraces = false) (q4 : Nat → Int32 → Int32 → Nat → AH → Option (Int32 × Nat × AH)) (hq4 : ∀ (a0 : Nat) (x1 : Int32) (x2 : Int32) (z : Nat) (h : AH) (o : Int32 × Nat × AH), q4 a0 x1 x2 z h = some o → J g MX9_all (jN g (some (.int o.1), o.2.1, o.2.2) rmX9_all.cells rmX9_all.slots) 4 [some (.ref a0), some (.int x1), some (.int x2)] [] z h 0 0) {a0 : Nat} {x2 : Int32} {s0 : Int32} {s1 : Int32} {z : Nat} {h : AH} {o : Int32 × Nat × AH} (hf : bX9_all_26 q4 a0 x2 s0 s1 z h = some o) : J g MX9_all (jN g (some (.int o.1), o.2.1, o.2.2) rmX9_all.cells rmX9_all.slots) 26 [some (.ref a0), none, some (.int x2)] [.int s1, .int s0] z h 0 0 := by
  unfold bX9_all_26 at hf
  refine J_ior dX9_all_26 ?_
  obtain ⟨v1, ev1, hf⟩ := bls hf
  refine J_i ev1 ?_
  refine S_istore_n_1 dX9_all_27 rfl (by decide) ?_
  refine S_iinc_2 (v := x2 + 1) dX9_all_28 (congrArg (fun w => x2 + w) (by decide)) rfl (by decide) ?_
  refine J_goto (tgt := 4) dX9_all_31 (by decide) ?_
  refine J.sub (jsub_s (jsub_s (jsub_s (jsub_nil _)))) ?_
  exact hq4 _ _ _ _ _ _ hf
theorem wlX9_all_4 {g : JG} (hst : (jl g).stackTraces = false)   : ∀ (fuel : Nat) (a0 : Nat) (x1 : Int32) (x2 : Int32) (z : Nat) (h : AH) (o : Int32 × Nat × AH), lX9_all_4  fuel a0 x1 x2 z h = some o → J g MX9_all (jN g (some (.int o.1), o.2.1, o.2.2) rmX9_all.cells rmX9_all.slots) 4 [some (.ref a0), some (.int x1), some (.int x2)] [] z h 0 0 := by
  intro fuel
  induction fuel with
  | zero => intro a0 x1 x2 z h o hf; cases hf
  | succ fuel ih =>
    intro a0 x1 x2 z h o hf
    have hq4 := ih
    have hf : lX9_all_4B  (lX9_all_4  fuel) a0 x1 x2 z h = some o := hf
    generalize lX9_all_4  fuel = q4 at hf hq4
    unfold lX9_all_4B at hf
    refine J_iload_n dX9_all_4 rfl rfl ?_
    refine J_bipush (v := 10) dX9_all_5 (by decide) ?_
    rcases br hf with ⟨c1, hf⟩ | ⟨c1, hf⟩
    · refine J_icmp_ge (tgt := 34) dX9_all_7 (by decide) (fun _ => ?_) (fun w => absurd c1 w)
      refine J_iload_n dX9_all_34 rfl rfl ?_
      cases hf
      exact J_iretN dX9_all_35 rfl (by decide) (by decide)
    · refine J_icmp_ge (tgt := 34) dX9_all_7 (by decide) (fun w => absurd w c1) (fun _ => ?_)
      refine J_iload_n dX9_all_10 rfl rfl ?_
      refine J_aload_n dX9_all_11 rfl rfl ?_
      refine J_iload_n dX9_all_12 rfl rfl ?_
      obtain ⟨k2, hf⟩ := gds hf
      obtain ⟨vo3, zo3, ho3h, ho3, hf⟩ := rfs3 hf
      refine CV1i dX9_all_13 (mX9_isTask hst ho3) tk_1019 iX9_isTask k2 (by decide) rfl ⟨by decide, by decide⟩ ⟨by decide, by decide⟩ (Nat.le_of_ble_eq_true rfl) ?_
      rcases br hf with ⟨c4, hf⟩ | ⟨c4, hf⟩
      · refine J_if_eq (tgt := 25) dX9_all_16 (by decide) (fun _ => ?_) (fun w => absurd c4 w)
        refine J_iconst (v := 0) dX9_all_25 (by decide) ?_
        refine J.sub (jsub_s (jsub_n (jsub_s (jsub_nil _)))) ?_
        exact wbX9_all_26 hst _ hq4 hf
      · refine J_if_eq (tgt := 25) dX9_all_16 (by decide) (fun w => absurd w c4) (fun _ => ?_)
        refine J_iconst (v := 1) dX9_all_19 (by decide) ?_
        refine J_iload_n dX9_all_20 rfl rfl ?_
        refine J_ishl dX9_all_21 ?_
        refine J_goto (tgt := 26) dX9_all_22 (by decide) ?_
        refine J.sub (jsub_s (jsub_n (jsub_s (jsub_nil _)))) ?_
        exact wbX9_all_26 hst _ hq4 hf
theorem wfX9_all {g : JG} (hst : (jl g).stackTraces = false)   {a0 : Nat} {z : Nat} {h : AH} {o : Int32 × Nat × AH} (hf : fX9_all  a0 z h = some o) : J g MX9_all (jN g (some (.int o.1), o.2.1, o.2.2) rmX9_all.cells rmX9_all.slots) 0 [some (.ref a0), none, none] [] z h 0 0 := by
  unfold fX9_all at hf
  refine J_iconst (v := 0) dX9_all_0 (by decide) ?_
  refine S_istore_n_1 dX9_all_1 rfl (by decide) ?_
  refine J_iconst (v := 0) dX9_all_2 (by decide) ?_
  refine S_istore_n_2 dX9_all_3 rfl (by decide) ?_
  refine J.sub (jsub_s (jsub_s (jsub_s (jsub_nil _)))) ?_
  exact wlX9_all_4 hst   _ _ _ _ _ _ _ hf
theorem mX9_all {g : JG} (hst : (jl g).stackTraces = false) {a0 : Nat} {z : Nat} {h : AH} {o : Int32 × Nat × AH} (hf : fX9_all a0 z h = some o) : jMet g yX9_all (wj yX9_all cX9_all 3 (some .int)) rmX9_all [.ref a0] z h (some (.int o.1), o.2.1, o.2.2) :=
  jMet_mk (by decide) (Nat.le_of_ble_eq_true rfl) [some (.ref a0), none, none] rfl (wfX9_all hst hf)
def fX9_tasks  (a0 : Nat) (z : Nat) (h : AH) : Option (Int32 × Nat × AH) :=
  gd (kd h a0 = 10) (bl (wI h a0 6 0) (fun h2 => bd3 (fX9_all a0 z h2) (fun vo4 zo4 ho4h => some (vo4, zo4, ho4h))))
theorem wfX9_tasks {g : JG} (hst : (jl g).stackTraces = false)   {a0 : Nat} {z : Nat} {h : AH} {o : Int32 × Nat × AH} (hf : fX9_tasks  a0 z h = some o) : J g MX9_tasks (jN g (some (.int o.1), o.2.1, o.2.2) rmX9_tasks.cells rmX9_tasks.slots) 0 [some (.ref a0)] [] z h 0 0 := by
  unfold fX9_tasks at hf
  refine J_aload_n dX9_tasks_0 rfl rfl ?_
  refine J_iconst (v := 0) dX9_tasks_1 (by decide) ?_
  obtain ⟨k1, hf⟩ := gds hf
  refine P_9_6 dX9_tasks_2 tk_925 k1 ?_
  obtain ⟨h2, eh2, hf⟩ := bls hf
  refine J_h eh2 ?_
  refine J_aload_n dX9_tasks_5 rfl rfl ?_
  have k3 : kd h2 a0 = 10 := by rw [eh2]; exact k1
  obtain ⟨vo4, zo4, ho4h, ho4, hf⟩ := rfs3 hf
  refine CV0i dX9_tasks_6 (mX9_all hst ho4) tk_1162 iX9_all k3 (by decide) rfl ⟨by decide, by decide⟩ ⟨by decide, by decide⟩ (Nat.le_of_ble_eq_true rfl) ?_
  cases hf
  exact J_iretN dX9_tasks_9 rfl (by decide) (by decide)
theorem mX9_tasks {g : JG} (hst : (jl g).stackTraces = false) {a0 : Nat} {z : Nat} {h : AH} {o : Int32 × Nat × AH} (hf : fX9_tasks a0 z h = some o) : jMet g yX9_tasks (wj yX9_tasks cX9_tasks 1 (some .int)) rmX9_tasks [.ref a0] z h (some (.int o.1), o.2.1, o.2.2) :=
  jMet_mk (by decide) (Nat.le_of_ble_eq_true rfl) [some (.ref a0)] rfl (wfX9_tasks hst hf)
def fX9_part  (a0 : Nat) (x1 : Int32) (x2 : Int32) (z : Nat) (h : AH) : Option (Int32 × Nat × AH) :=
  (if x2 = 0 then (gd (kd h a0 = 10) (bd3 (fX9_of a0 x1 4 z h) (fun vo3 zo3 ho3h => some (vo3, zo3, ho3h)))) else (if x2 = 1 then (gd (kd h a0 = 10) (bd3 (fX9_of a0 x1 1 z h) (fun vo6 zo6 ho6h => some (vo6, zo6, ho6h)))) else (if x2 = 2 then (gd (kd h a0 = 10) (bd3 (fX9_of a0 x1 2 z h) (fun vo9 zo9 ho9h => some (vo9, zo9, ho9h)))) else (if x2 = 3 then (gd (kd h a0 = 10) (bd3 (fX9_of a0 x1 3 z h) (fun vo12 zo12 ho12h => some (vo12, zo12, ho12h)))) else (if x2 = 4 then (gd (kd h a0 = 10) (bd3 (fX9_isWaiting a0 x1 z h) (fun vo15 zo15 ho15h => (if vo15 = 0 then (some ((-1), zo15, ho15h)) else (gd (kd ho15h a0 = 10) (bd3 (fX9_of a0 x1 5 zo15 ho15h) (fun vo18 zo18 ho18h => some (vo18, zo18, ho18h)))))))) else (if x2 = 5 then (gd (kd h a0 = 10) (bd3 (fX9_waitsFor a0 x1 z h) (fun vo21 zo21 ho21h => some (vo21, zo21, ho21h)))) else (gd (kd h a0 = 10) (bd3 (fX9_placeOf a0 x1 z h) (fun vo23 zo23 ho23h => some (vo23, zo23, ho23h))))))))))
theorem wfX9_part {g : JG} (hst : (jl g).stackTraces = false)   {a0 : Nat} {x1 : Int32} {x2 : Int32} {z : Nat} {h : AH} {o : Int32 × Nat × AH} (hf : fX9_part  a0 x1 x2 z h = some o) : J g MX9_part (jN g (some (.int o.1), o.2.1, o.2.2) rmX9_part.cells rmX9_part.slots) 0 [some (.ref a0), some (.int x1), some (.int x2)] [] z h 0 0 := by
  unfold fX9_part at hf
  refine J_iload_n dX9_part_0 rfl rfl ?_
  rcases br hf with ⟨c1, hf⟩ | ⟨c1, hf⟩
  · refine J_tableC (off := 39) (tgt := 40) c1 dX9_part_1 (by decide) (by decide) (by decide) (by decide) ?_
    refine J_aload_n dX9_part_40 rfl rfl ?_
    refine J_iload_n dX9_part_41 rfl rfl ?_
    refine J_iconst (v := 4) dX9_part_42 (by decide) ?_
    obtain ⟨k2, hf⟩ := gds hf
    obtain ⟨vo3, zo3, ho3h, ho3, hf⟩ := rfs3 hf
    refine CV2i dX9_part_43 (mX9_of hst ho3) tk_1023 iX9_of k2 (by decide) rfl ⟨by decide, by decide⟩ ⟨by decide, by decide⟩ (Nat.le_of_ble_eq_true rfl) ?_
    cases hf
    exact J_iretN dX9_part_46 rfl (by decide) (by decide)
  · skip
    rcases br hf with ⟨c4, hf⟩ | ⟨c4, hf⟩
    · refine J_tableC (off := 46) (tgt := 47) c4 dX9_part_1 (by decide) (by decide) (by decide) (by decide) ?_
      refine J_aload_n dX9_part_47 rfl rfl ?_
      refine J_iload_n dX9_part_48 rfl rfl ?_
      refine J_iconst (v := 1) dX9_part_49 (by decide) ?_
      obtain ⟨k5, hf⟩ := gds hf
      obtain ⟨vo6, zo6, ho6h, ho6, hf⟩ := rfs3 hf
      refine CV2i dX9_part_50 (mX9_of hst ho6) tk_1023 iX9_of k5 (by decide) rfl ⟨by decide, by decide⟩ ⟨by decide, by decide⟩ (Nat.le_of_ble_eq_true rfl) ?_
      cases hf
      exact J_iretN dX9_part_53 rfl (by decide) (by decide)
    · skip
      rcases br hf with ⟨c7, hf⟩ | ⟨c7, hf⟩
      · refine J_tableC (off := 53) (tgt := 54) c7 dX9_part_1 (by decide) (by decide) (by decide) (by decide) ?_
        refine J_aload_n dX9_part_54 rfl rfl ?_
        refine J_iload_n dX9_part_55 rfl rfl ?_
        refine J_iconst (v := 2) dX9_part_56 (by decide) ?_
        obtain ⟨k8, hf⟩ := gds hf
        obtain ⟨vo9, zo9, ho9h, ho9, hf⟩ := rfs3 hf
        refine CV2i dX9_part_57 (mX9_of hst ho9) tk_1023 iX9_of k8 (by decide) rfl ⟨by decide, by decide⟩ ⟨by decide, by decide⟩ (Nat.le_of_ble_eq_true rfl) ?_
        cases hf
        exact J_iretN dX9_part_60 rfl (by decide) (by decide)
      · skip
        rcases br hf with ⟨c10, hf⟩ | ⟨c10, hf⟩
        · refine J_tableC (off := 60) (tgt := 61) c10 dX9_part_1 (by decide) (by decide) (by decide) (by decide) ?_
          refine J_aload_n dX9_part_61 rfl rfl ?_
          refine J_iload_n dX9_part_62 rfl rfl ?_
          refine J_iconst (v := 3) dX9_part_63 (by decide) ?_
          obtain ⟨k11, hf⟩ := gds hf
          obtain ⟨vo12, zo12, ho12h, ho12, hf⟩ := rfs3 hf
          refine CV2i dX9_part_64 (mX9_of hst ho12) tk_1023 iX9_of k11 (by decide) rfl ⟨by decide, by decide⟩ ⟨by decide, by decide⟩ (Nat.le_of_ble_eq_true rfl) ?_
          cases hf
          exact J_iretN dX9_part_67 rfl (by decide) (by decide)
        · skip
          rcases br hf with ⟨c13, hf⟩ | ⟨c13, hf⟩
          · refine J_tableC (off := 67) (tgt := 68) c13 dX9_part_1 (by decide) (by decide) (by decide) (by decide) ?_
            refine J_aload_n dX9_part_68 rfl rfl ?_
            refine J_iload_n dX9_part_69 rfl rfl ?_
            obtain ⟨k14, hf⟩ := gds hf
            obtain ⟨vo15, zo15, ho15h, ho15, hf⟩ := rfs3 hf
            refine CV1i dX9_part_70 (mX9_isWaiting hst ho15) tk_1103 iX9_isWaiting k14 (by decide) rfl ⟨by decide, by decide⟩ ⟨by decide, by decide⟩ (Nat.le_of_ble_eq_true rfl) ?_
            rcases br hf with ⟨c16, hf⟩ | ⟨c16, hf⟩
            · refine J_if_eq (tgt := 85) dX9_part_73 (by decide) (fun _ => ?_) (fun w => absurd c16 w)
              refine J_iconst (v := (-1)) dX9_part_85 (by decide) ?_
              cases hf
              exact J_iretN dX9_part_86 rfl (by decide) (by decide)
            · refine J_if_eq (tgt := 85) dX9_part_73 (by decide) (fun w => absurd w c16) (fun _ => ?_)
              refine J_aload_n dX9_part_76 rfl rfl ?_
              refine J_iload_n dX9_part_77 rfl rfl ?_
              refine J_iconst (v := 5) dX9_part_78 (by decide) ?_
              obtain ⟨k17, hf⟩ := gds hf
              obtain ⟨vo18, zo18, ho18h, ho18, hf⟩ := rfs3 hf
              refine CV2i dX9_part_79 (mX9_of hst ho18) tk_1023 iX9_of k17 (by decide) rfl ⟨by decide, by decide⟩ ⟨by decide, by decide⟩ (Nat.le_of_ble_eq_true rfl) ?_
              refine J_goto (tgt := 86) dX9_part_82 (by decide) ?_
              cases hf
              exact J_iretN dX9_part_86 rfl (by decide) (by decide)
          · skip
            rcases br hf with ⟨c19, hf⟩ | ⟨c19, hf⟩
            · refine J_tableC (off := 86) (tgt := 87) c19 dX9_part_1 (by decide) (by decide) (by decide) (by decide) ?_
              refine J_aload_n dX9_part_87 rfl rfl ?_
              refine J_iload_n dX9_part_88 rfl rfl ?_
              obtain ⟨k20, hf⟩ := gds hf
              obtain ⟨vo21, zo21, ho21h, ho21, hf⟩ := rfs3 hf
              refine CV1i dX9_part_89 (mX9_waitsFor hst ho21) tk_1099 iX9_waitsFor k20 (by decide) rfl ⟨by decide, by decide⟩ ⟨by decide, by decide⟩ (Nat.le_of_ble_eq_true rfl) ?_
              cases hf
              exact J_iretN dX9_part_92 rfl (by decide) (by decide)
            · skip
              have tc1 := tn (i := 0) c1 (by decide)
              have tc4 := tn (i := 1) c4 (by decide)
              have tc7 := tn (i := 2) c7 (by decide)
              have tc10 := tn (i := 3) c10 (by decide)
              have tc13 := tn (i := 4) c13 (by decide)
              have tc19 := tn (i := 5) c19 (by decide)
              refine J_tableOut (tgt := 93) dX9_part_1 (by omega) (by decide) ?_
              refine J_aload_n dX9_part_93 rfl rfl ?_
              refine J_iload_n dX9_part_94 rfl rfl ?_
              obtain ⟨k22, hf⟩ := gds hf
              obtain ⟨vo23, zo23, ho23h, ho23, hf⟩ := rfs3 hf
              refine CV1i dX9_part_95 (mX9_placeOf hst ho23) tk_1083 iX9_placeOf k22 (by decide) rfl ⟨by decide, by decide⟩ ⟨by decide, by decide⟩ (Nat.le_of_ble_eq_true rfl) ?_
              cases hf
              exact J_iretN dX9_part_98 rfl (by decide) (by decide)
theorem mX9_part {g : JG} (hst : (jl g).stackTraces = false) {a0 : Nat} {x1 : Int32} {x2 : Int32} {z : Nat} {h : AH} {o : Int32 × Nat × AH} (hf : fX9_part a0 x1 x2 z h = some o) : jMet g yX9_part (wj yX9_part cX9_part 3 (some .int)) rmX9_part [.ref a0, .int x1, .int x2] z h (some (.int o.1), o.2.1, o.2.2) :=
  jMet_mk (by decide) (Nat.le_of_ble_eq_true rfl) [some (.ref a0), some (.int x1), some (.int x2)] rfl (wfX9_part hst hf)
