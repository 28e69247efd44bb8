/-! decompiled methods and their walks (printed by gen/gen.py) -/
def bX9_task_28  (a0 : Nat) (x1 : Int32) (x2 : Int32) (u0 : Nat) (s1 : Int32) (z : Nat) (h : AH) : Option (Int32 × Nat × AH) :=
  gd (kd h u0 = 10) (bl (wI h u0 6 s1) (fun h2 => gd (kd h2 a0 = 10) ((if (iv h2 a0 6) ≤ 0 then (bd3 (fX9_part a0 x1 x2 z h2) (fun vo5 zo5 ho5h => some (vo5, zo5, ho5h))) else (some (0, z, h2))))))
def fX9_task  (a0 : Nat) (x1 : Int32) (x2 : Int32) (z : Nat) (h : AH) : Option (Int32 × Nat × AH) :=
  gd (kd h a0 = 10) (bd3 (fX9_isTask a0 x1 z h) (fun vo2 zo2 ho2h => (if vo2 = 0 then (bX9_task_28  a0 x1 x2 a0 1 zo2 ho2h) else (bd3 (fX9_in x2 0 6 zo2 ho2h) (fun vo4 zo4 ho4h => (if vo4 = 0 then (bX9_task_28  a0 x1 x2 a0 2 zo4 ho4h) else (bX9_task_28  a0 x1 x2 a0 0 zo4 ho4h)))))))
theorem wbX9_task_28 {g : JG} (hst : (jl g).stackTraces = false)   {a0 : Nat} {x1 : Int32} {x2 : Int32} {u0 : Nat} {s1 : Int32} {z : Nat} {h : AH} {o : Int32 × Nat × AH} (hf : bX9_task_28  a0 x1 x2 u0 s1 z h = some o) : J g MX9_task (jN g (some (.int o.1), o.2.1, o.2.2) rmX9_task.cells rmX9_task.slots) 28 [some (.ref a0), some (.int x1), some (.int x2)] [.int s1, .ref u0] z h 0 0 := by
  unfold bX9_task_28 at hf
  obtain ⟨k1, hf⟩ := gds hf
  refine P_9_6 dX9_task_28 tk_925 k1 ?_
  obtain ⟨h2, eh2, hf⟩ := bls hf
  refine J_h eh2 ?_
  refine J_aload_n dX9_task_31 rfl rfl ?_
  obtain ⟨k3, hf⟩ := gds hf
  refine G_9_6 dX9_task_32 tk_925 k3 ?_
  rcases br hf with ⟨c4, hf⟩ | ⟨c4, hf⟩
  · refine J_if_le (tgt := 42) dX9_task_35 (by decide) (fun _ => ?_) (fun w => absurd c4 w)
    refine J_aload_n dX9_task_42 rfl rfl ?_
    refine J_iload_n dX9_task_43 rfl rfl ?_
    refine J_iload_n dX9_task_44 rfl rfl ?_
    obtain ⟨vo5, zo5, ho5h, ho5, hf⟩ := rfs3 hf
    refine CV2i dX9_task_45 (mX9_part hst ho5) tk_1170 iX9_part k3 (by decide) rfl ⟨by decide, by decide⟩ ⟨by decide, by decide⟩ (Nat.le_of_ble_eq_true rfl) ?_
    cases hf
    exact J_iretN dX9_task_48 rfl (by decide) (by decide)
  · refine J_if_le (tgt := 42) dX9_task_35 (by decide) (fun w => absurd w c4) (fun _ => ?_)
    refine J_iconst (v := 0) dX9_task_38 (by decide) ?_
    refine J_goto (tgt := 48) dX9_task_39 (by decide) ?_
    cases hf
    exact J_iretN dX9_task_48 rfl (by decide) (by decide)
theorem wfX9_task {g : JG} (hst : (jl g).stackTraces = false)   {a0 : Nat} {x1 : Int32} {x2 : Int32} {z : Nat} {h : AH} {o : Int32 × Nat × AH} (hf : fX9_task  a0 x1 x2 z h = some o) : J g MX9_task (jN g (some (.int o.1), o.2.1, o.2.2) rmX9_task.cells rmX9_task.slots) 0 [some (.ref a0), some (.int x1), some (.int x2)] [] z h 0 0 := by
  unfold fX9_task at hf
  refine J_aload_n dX9_task_0 rfl rfl ?_
  refine J_aload_n dX9_task_1 rfl rfl ?_
  refine J_iload_n dX9_task_2 rfl rfl ?_
  obtain ⟨k1, hf⟩ := gds hf
  obtain ⟨vo2, zo2, ho2h, ho2, hf⟩ := rfs3 hf
  refine CV1i dX9_task_3 (mX9_isTask hst ho2) tk_1019 iX9_isTask k1 (by decide) rfl ⟨by decide, by decide⟩ ⟨by decide, by decide⟩ (Nat.le_of_ble_eq_true rfl) ?_
  rcases br hf with ⟨c3, hf⟩ | ⟨c3, hf⟩
  · refine J_if_ne (tgt := 13) dX9_task_6 (by decide) (fun w => absurd c3 w) (fun _ => ?_)
    refine J_iconst (v := 1) dX9_task_9 (by decide) ?_
    refine J_goto (tgt := 28) dX9_task_10 (by decide) ?_
    refine J.sub (jsub_s (jsub_s (jsub_s (jsub_nil _)))) ?_
    exact wbX9_task_28 hst   hf
  · refine J_if_ne (tgt := 13) dX9_task_6 (by decide) (fun _ => ?_) (fun w => absurd w c3)
    refine J_iload_n dX9_task_13 rfl rfl ?_
    refine J_iconst (v := 0) dX9_task_14 (by decide) ?_
    refine J_bipush (v := 6) dX9_task_15 (by decide) ?_
    obtain ⟨vo4, zo4, ho4h, ho4, hf⟩ := rfs3 hf
    refine CS3i (host := "") dX9_task_17 (mX9_in hst ho4) tk_996 iX9_in ⟨by decide, by decide⟩ ⟨by decide, by decide⟩ (Nat.le_of_ble_eq_true rfl) ?_
    rcases br hf with ⟨c5, hf⟩ | ⟨c5, hf⟩
    · refine J_if_ne (tgt := 27) dX9_task_20 (by decide) (fun w => absurd c5 w) (fun _ => ?_)
      refine J_iconst (v := 2) dX9_task_23 (by decide) ?_
      refine J_goto (tgt := 28) dX9_task_24 (by decide) ?_
      refine J.sub (jsub_s (jsub_s (jsub_s (jsub_nil _)))) ?_
      exact wbX9_task_28 hst   hf
    · refine J_if_ne (tgt := 27) dX9_task_20 (by decide) (fun _ => ?_) (fun w => absurd w c5)
      refine J_iconst (v := 0) dX9_task_27 (by decide) ?_
      refine J.sub (jsub_s (jsub_s (jsub_s (jsub_nil _)))) ?_
      exact wbX9_task_28 hst   hf
theorem mX9_task {g : JG} (hst : (jl g).stackTraces = false) {a0 : Nat} {x1 : Int32} {x2 : Int32} {z : Nat} {h : AH} {o : Int32 × Nat × AH} (hf : fX9_task a0 x1 x2 z h = some o) : jMet g yX9_task (wj yX9_task cX9_task 3 (some .int)) rmX9_task [.ref a0, .int x1, .int x2] z h (some (.int o.1), o.2.1, o.2.2) :=
  jMet_mk (by decide) (Nat.le_of_ble_eq_true rfl) [some (.ref a0), some (.int x1), some (.int x2)] rfl (wfX9_task hst hf)
def fX9_waiting  (a0 : Nat) (x1 : Int32) (z : Nat) (h : AH) : Option (Int32 × Nat × AH) :=
  gd (kd h a0 = 10) (bl (wI h a0 6 0) (fun h2 => Option.bind (rv h2 a0 0) (fun b4 => gd (kd h2 b4 = 13) (gd (¬ ((21 : Int32) < 0 ∨ ln h2 b4 ≤ Int32.toNatClampNeg 21)) (bd3 (fX9_in x1 0 ((iv h2 b4 (Int32.toNatClampNeg 21)) - 1) z h2) (fun vo7 zo7 ho7h => (if vo7 = 0 then (some ((-1), zo7, ho7h)) else (gd (kd ho7h a0 = 10) (Option.bind (rv ho7h a0 0) (fun b10 => gd (kd ho7h b10 = 13) (gd (¬ (((22 + x1) : Int32) < 0 ∨ ln ho7h b10 ≤ Int32.toNatClampNeg (22 + x1))) (some ((iv ho7h b10 (Int32.toNatClampNeg (22 + x1))), zo7, ho7h)))))))))))))
theorem wfX9_waiting {g : JG} (hst : (jl g).stackTraces = false)   {a0 : Nat} {x1 : Int32} {z : Nat} {h : AH} {o : Int32 × Nat × AH} (hf : fX9_waiting  a0 x1 z h = some o) : J g MX9_waiting (jN g (some (.int o.1), o.2.1, o.2.2) rmX9_waiting.cells rmX9_waiting.slots) 0 [some (.ref a0), some (.int x1)] [] z h 0 0 := by
  unfold fX9_waiting at hf
  refine J_aload_n dX9_waiting_0 rfl rfl ?_
  refine J_iconst (v := 0) dX9_waiting_1 (by decide) ?_
  obtain ⟨k1, hf⟩ := gds hf
  refine P_9_6 dX9_waiting_2 tk_925 k1 ?_
  obtain ⟨h2, eh2, hf⟩ := bls hf
  refine J_h eh2 ?_
  refine J_iload_n dX9_waiting_5 rfl rfl ?_
  refine J_iconst (v := 0) dX9_waiting_6 (by decide) ?_
  refine J_aload_n dX9_waiting_7 rfl rfl ?_
  have k3 : kd h2 a0 = 10 := by rw [eh2]; exact k1
  obtain ⟨b4, rb4, hf⟩ := rfs hf
  refine G_9_0 dX9_waiting_8 tk_919 k3 rb4 ?_
  refine J_bipush (v := 21) dX9_waiting_11 (by decide) ?_
  obtain ⟨k5, hf⟩ := gds hf
  obtain ⟨n6, hf⟩ := gds hf
  refine J_iaload dX9_waiting_13 k5 n6 ?_
  refine J_iconst (v := 1) dX9_waiting_14 (by decide) ?_
  refine J_isub dX9_waiting_15 ?_
  obtain ⟨vo7, zo7, ho7h, ho7, hf⟩ := rfs3 hf
  refine CS3i (host := "") dX9_waiting_16 (mX9_in hst ho7) tk_996 iX9_in ⟨by decide, by decide⟩ ⟨by decide, by decide⟩ (Nat.le_of_ble_eq_true rfl) ?_
  rcases br hf with ⟨c8, hf⟩ | ⟨c8, hf⟩
  · refine J_if_eq (tgt := 34) dX9_waiting_19 (by decide) (fun _ => ?_) (fun w => absurd c8 w)
    refine J_iconst (v := (-1)) dX9_waiting_34 (by decide) ?_
    cases hf
    exact J_iretN dX9_waiting_35 rfl (by decide) (by decide)
  · refine J_if_eq (tgt := 34) dX9_waiting_19 (by decide) (fun w => absurd w c8) (fun _ => ?_)
    refine J_aload_n dX9_waiting_22 rfl rfl ?_
    obtain ⟨k9, hf⟩ := gds hf
    obtain ⟨b10, rb10, hf⟩ := rfs hf
    refine G_9_0 dX9_waiting_23 tk_919 k9 rb10 ?_
    refine J_bipush (v := 22) dX9_waiting_26 (by decide) ?_
    refine J_iload_n dX9_waiting_28 rfl rfl ?_
    refine J_iadd dX9_waiting_29 ?_
    obtain ⟨k11, hf⟩ := gds hf
    obtain ⟨n12, hf⟩ := gds hf
    refine J_iaload dX9_waiting_30 k11 n12 ?_
    refine J_goto (tgt := 35) dX9_waiting_31 (by decide) ?_
    cases hf
    exact J_iretN dX9_waiting_35 rfl (by decide) (by decide)
theorem mX9_waiting {g : JG} (hst : (jl g).stackTraces = false) {a0 : Nat} {x1 : Int32} {z : Nat} {h : AH} {o : Int32 × Nat × AH} (hf : fX9_waiting a0 x1 z h = some o) : jMet g yX9_waiting (wj yX9_waiting cX9_waiting 2 (some .int)) rmX9_waiting [.ref a0, .int x1] z h (some (.int o.1), o.2.1, o.2.2) :=
  jMet_mk (by decide) (Nat.le_of_ble_eq_true rfl) [some (.ref a0), some (.int x1)] rfl (wfX9_waiting hst hf)
def fX9_wouldHappen  (a0 : Nat) (x1 : Int32) (x2 : Int32) (z : Nat) (h : AH) : Option (Int32 × Nat × AH) :=
  gd (kd h a0 = 10) (bd3 (fX9_requestFault a0 x1 x2 z h) (fun vo2 zo2 ho2h => gd (kd ho2h a0 = 10) (bl (wI ho2h a0 6 vo2) (fun h4 => (if (iv h4 a0 6) ≤ 0 then (bd3 (fX9_happens a0 x1 x2 zo2 h4) (fun vo7 zo7 ho7h => some (vo7, zo7, ho7h))) else (some (0, zo2, h4)))))))
theorem wfX9_wouldHappen {g : JG} (hst : (jl g).stackTraces = false)   {a0 : Nat} {x1 : Int32} {x2 : Int32} {z : Nat} {h : AH} {o : Int32 × Nat × AH} (hf : fX9_wouldHappen  a0 x1 x2 z h = some o) : J g MX9_wouldHappen (jN g (some (.int o.1), o.2.1, o.2.2) rmX9_wouldHappen.cells rmX9_wouldHappen.slots) 0 [some (.ref a0), some (.int x1), some (.int x2)] [] z h 0 0 := by
  unfold fX9_wouldHappen at hf
  refine J_aload_n dX9_wouldHappen_0 rfl rfl ?_
  refine J_aload_n dX9_wouldHappen_1 rfl rfl ?_
  refine J_iload_n dX9_wouldHappen_2 rfl rfl ?_
  refine J_iload_n dX9_wouldHappen_3 rfl rfl ?_
  obtain ⟨k1, hf⟩ := gds hf
  obtain ⟨vo2, zo2, ho2h, ho2, hf⟩ := rfs3 hf
  refine CV2i dX9_wouldHappen_4 (mX9_requestFault hst ho2) tk_1047 iX9_requestFault k1 (by decide) rfl ⟨by decide, by decide⟩ ⟨by decide, by decide⟩ (Nat.le_of_ble_eq_true rfl) ?_
  obtain ⟨k3, hf⟩ := gds hf
  refine P_9_6 dX9_wouldHappen_7 tk_925 k3 ?_
  obtain ⟨h4, eh4, hf⟩ := bls hf
  refine J_h eh4 ?_
  refine J_aload_n dX9_wouldHappen_10 rfl rfl ?_
  have k5 : kd h4 a0 = 10 := by rw [eh4]; exact k3
  refine G_9_6 dX9_wouldHappen_11 tk_925 k5 ?_
  rcases br hf with ⟨c6, hf⟩ | ⟨c6, hf⟩
  · refine J_if_le (tgt := 21) dX9_wouldHappen_14 (by decide) (fun _ => ?_) (fun w => absurd c6 w)
    refine J_aload_n dX9_wouldHappen_21 rfl rfl ?_
    refine J_iload_n dX9_wouldHappen_22 rfl rfl ?_
    refine J_iload_n dX9_wouldHappen_23 rfl rfl ?_
    obtain ⟨vo7, zo7, ho7h, ho7, hf⟩ := rfs3 hf
    refine CV2i dX9_wouldHappen_24 (mX9_happens hst ho7) tk_1059 iX9_happens k5 (by decide) rfl ⟨by decide, by decide⟩ ⟨by decide, by decide⟩ (Nat.le_of_ble_eq_true rfl) ?_
    cases hf
    exact J_iretN dX9_wouldHappen_27 rfl (by decide) (by decide)
  · refine J_if_le (tgt := 21) dX9_wouldHappen_14 (by decide) (fun w => absurd w c6) (fun _ => ?_)
    refine J_iconst (v := 0) dX9_wouldHappen_17 (by decide) ?_
    refine J_goto (tgt := 27) dX9_wouldHappen_18 (by decide) ?_
    cases hf
    exact J_iretN dX9_wouldHappen_27 rfl (by decide) (by decide)
theorem mX9_wouldHappen {g : JG} (hst : (jl g).stackTraces = false) {a0 : Nat} {x1 : Int32} {x2 : Int32} {z : Nat} {h : AH} {o : Int32 × Nat × AH} (hf : fX9_wouldHappen a0 x1 x2 z h = some o) : jMet g yX9_wouldHappen (wj yX9_wouldHappen cX9_wouldHappen 3 (some .int)) rmX9_wouldHappen [.ref a0, .int x1, .int x2] z h (some (.int o.1), o.2.1, o.2.2) :=
  jMet_mk (by decide) (Nat.le_of_ble_eq_true rfl) [some (.ref a0), some (.int x1), some (.int x2)] rfl (wfX9_wouldHappen hst hf)
def bX9_sets_10  (a0 : Nat) (x1 : Int32) (x2 : Int32) (x3 : Int32) (u0 : Nat) (s1 : Int32) (z : Nat) (h : AH) : Option (Int32 × Nat × AH) :=
  gd (kd h u0 = 10) (bl (wI h u0 6 s1) (fun h2 => (if x3 = 0 then (some (0, z, h2)) else (gd (kd h2 a0 = 10) (bd2 (fX9_begins a0 z h2) (fun zo5 ho5h => gd (kd ho5h a0 = 10) (Option.bind (rv ho5h a0 0) (fun b7 => gd (kd ho5h b7 = 13) (gd (¬ ((x1 : Int32) < 0 ∨ ln ho5h b7 ≤ Int32.toNatClampNeg x1)) (bl ((iv ho5h b7 (Int32.toNatClampNeg x1))) (fun v10 => Option.bind (rv ho5h a0 0) (fun b11 => gd (kd ho5h b11 = 13) (gd (¬ ((x1 : Int32) < 0 ∨ ln ho5h b11 ≤ Int32.toNatClampNeg x1)) (bl (wI ho5h b11 (Int32.toNatClampNeg x1) x2) (fun h14 => bd2 (fX9_records a0 zo5 h14) (fun zo16 ho16h => some (v10, zo16, ho16h)))))))))))))))))
def fX9_sets  (a0 : Nat) (x1 : Int32) (x2 : Int32) (x3 : Int32) (z : Nat) (h : AH) : Option (Int32 × Nat × AH) :=
  (if x3 = 0 then (bX9_sets_10  a0 x1 x2 x3 a0 1 z h) else (bX9_sets_10  a0 x1 x2 x3 a0 0 z h))
theorem wbX9_sets_10 {g : JG} (hst : (jl g).stackTraces = false)   {a0 : Nat} {x1 : Int32} {x2 : Int32} {x3 : Int32} {u0 : Nat} {s1 : Int32} {z : Nat} {h : AH} {o : Int32 × Nat × AH} (hf : bX9_sets_10  a0 x1 x2 x3 u0 s1 z h = some o) : J g MX9_sets (jN g (some (.int o.1), o.2.1, o.2.2) rmX9_sets.cells rmX9_sets.slots) 10 [some (.ref a0), some (.int x1), some (.int x2), some (.int x3), none] [.int s1, .ref u0] z h 0 0 := by
  unfold bX9_sets_10 at hf
  obtain ⟨k1, hf⟩ := gds hf
  refine P_9_6 dX9_sets_10 tk_925 k1 ?_
  obtain ⟨h2, eh2, hf⟩ := bls hf
  refine J_h eh2 ?_
  refine J_iload_n dX9_sets_13 rfl rfl ?_
  rcases br hf with ⟨c3, hf⟩ | ⟨c3, hf⟩
  · refine J_if_ne (tgt := 19) dX9_sets_14 (by decide) (fun w => absurd c3 w) (fun _ => ?_)
    refine J_iconst (v := 0) dX9_sets_17 (by decide) ?_
    cases hf
    exact J_iretN dX9_sets_18 rfl (by decide) (by decide)
  · refine J_if_ne (tgt := 19) dX9_sets_14 (by decide) (fun _ => ?_) (fun w => absurd w c3)
    refine J_aload_n dX9_sets_19 rfl rfl ?_
    obtain ⟨k4, hf⟩ := gds hf
    obtain ⟨zo5, ho5h, ho5, hf⟩ := rfs2 hf
    refine CV0v dX9_sets_20 (mX9_begins hst ho5) tk_999 iX9_begins k4 (by decide) rfl ⟨by decide, by decide⟩ ⟨by decide, by decide⟩ (Nat.le_of_ble_eq_true rfl) ?_
    refine J_aload_n dX9_sets_23 rfl rfl ?_
    obtain ⟨k6, hf⟩ := gds hf
    obtain ⟨b7, rb7, hf⟩ := rfs hf
    refine G_9_0 dX9_sets_24 tk_919 k6 rb7 ?_
    refine J_iload_n dX9_sets_27 rfl rfl ?_
    obtain ⟨k8, hf⟩ := gds hf
    obtain ⟨n9, hf⟩ := gds hf
    refine J_iaload dX9_sets_28 k8 n9 ?_
    obtain ⟨v10, ev10, hf⟩ := bls hf
    refine J_i ev10 ?_
    refine S_istore_4 dX9_sets_29 rfl (by decide) ?_
    refine J_aload_n dX9_sets_31 rfl rfl ?_
    obtain ⟨b11, rb11, hf⟩ := rfs hf
    refine G_9_0 dX9_sets_32 tk_919 k6 rb11 ?_
    refine J_iload_n dX9_sets_35 rfl rfl ?_
    refine J_iload_n dX9_sets_36 rfl rfl ?_
    obtain ⟨k12, hf⟩ := gds hf
    obtain ⟨n13, hf⟩ := gds hf
    refine J_iastore dX9_sets_37 k12 n13 ?_
    obtain ⟨h14, eh14, hf⟩ := bls hf
    refine J_h eh14 ?_
    refine J_aload_n dX9_sets_38 rfl rfl ?_
    have k15 : kd h14 a0 = 10 := by rw [eh14]; exact k6
    obtain ⟨zo16, ho16h, ho16, hf⟩ := rfs2 hf
    refine CV0v dX9_sets_39 (mX9_records hst ho16) tk_1003 iX9_records k15 (by decide) rfl ⟨by decide, by decide⟩ ⟨by decide, by decide⟩ (Nat.le_of_ble_eq_true rfl) ?_
    refine J_iload dX9_sets_42 rfl ?_
    cases hf
    exact J_iretN dX9_sets_44 rfl (by decide) (by decide)
theorem wfX9_sets {g : JG} (hst : (jl g).stackTraces = false)   {a0 : Nat} {x1 : Int32} {x2 : Int32} {x3 : Int32} {z : Nat} {h : AH} {o : Int32 × Nat × AH} (hf : fX9_sets  a0 x1 x2 x3 z h = some o) : J g MX9_sets (jN g (some (.int o.1), o.2.1, o.2.2) rmX9_sets.cells rmX9_sets.slots) 0 [some (.ref a0), some (.int x1), some (.int x2), some (.int x3), none] [] z h 0 0 := by
  unfold fX9_sets at hf
  refine J_aload_n dX9_sets_0 rfl rfl ?_
  refine J_iload_n dX9_sets_1 rfl rfl ?_
  rcases br hf with ⟨c1, hf⟩ | ⟨c1, hf⟩
  · refine J_if_eq (tgt := 9) dX9_sets_2 (by decide) (fun _ => ?_) (fun w => absurd c1 w)
    refine J_iconst (v := 1) dX9_sets_9 (by decide) ?_
    refine J.sub (jsub_s (jsub_s (jsub_s (jsub_s (jsub_n (jsub_nil _)))))) ?_
    exact wbX9_sets_10 hst   hf
  · refine J_if_eq (tgt := 9) dX9_sets_2 (by decide) (fun w => absurd w c1) (fun _ => ?_)
    refine J_iconst (v := 0) dX9_sets_5 (by decide) ?_
    refine J_goto (tgt := 10) dX9_sets_6 (by decide) ?_
    refine J.sub (jsub_s (jsub_s (jsub_s (jsub_s (jsub_n (jsub_nil _)))))) ?_
    exact wbX9_sets_10 hst   hf
theorem mX9_sets {g : JG} (hst : (jl g).stackTraces = false) {a0 : Nat} {x1 : Int32} {x2 : Int32} {x3 : Int32} {z : Nat} {h : AH} {o : Int32 × Nat × AH} (hf : fX9_sets a0 x1 x2 x3 z h = some o) : jMet g yX9_sets (wj yX9_sets cX9_sets 5 (some .int)) rmX9_sets [.ref a0, .int x1, .int x2, .int x3] z h (some (.int o.1), o.2.1, o.2.2) :=
  jMet_mk (by decide) (Nat.le_of_ble_eq_true rfl) [some (.ref a0), some (.int x1), some (.int x2), some (.int x3), none] rfl (wfX9_sets hst hf)
def fX9_setPolicy  (a0 : Nat) (x1 : Int32) (z : Nat) (h : AH) : Option (Int32 × Nat × AH) :=
  bd3 (fX9_in x1 0 2 z h) (fun vo1 zo1 ho1h => gd (kd ho1h a0 = 10) (bd3 (fX9_sets a0 17 x1 vo1 zo1 ho1h) (fun vo3 zo3 ho3h => some (vo3, zo3, ho3h))))
theorem wfX9_setPolicy {g : JG} (hst : (jl g).stackTraces = false)   {a0 : Nat} {x1 : Int32} {z : Nat} {h : AH} {o : Int32 × Nat × AH} (hf : fX9_setPolicy  a0 x1 z h = some o) : J g MX9_setPolicy (jN g (some (.int o.1), o.2.1, o.2.2) rmX9_setPolicy.cells rmX9_setPolicy.slots) 0 [some (.ref a0), some (.int x1)] [] z h 0 0 := by
  unfold fX9_setPolicy at hf
  refine J_aload_n dX9_setPolicy_0 rfl rfl ?_
  refine J_bipush (v := 17) dX9_setPolicy_1 (by decide) ?_
  refine J_iload_n dX9_setPolicy_3 rfl rfl ?_
  refine J_iload_n dX9_setPolicy_4 rfl rfl ?_
  refine J_iconst (v := 0) dX9_setPolicy_5 (by decide) ?_
  refine J_iconst (v := 2) dX9_setPolicy_6 (by decide) ?_
  obtain ⟨vo1, zo1, ho1h, ho1, hf⟩ := rfs3 hf
  refine CS3i (host := "") dX9_setPolicy_7 (mX9_in hst ho1) tk_996 iX9_in ⟨by decide, by decide⟩ ⟨by decide, by decide⟩ (Nat.le_of_ble_eq_true rfl) ?_
  obtain ⟨k2, hf⟩ := gds hf
  obtain ⟨vo3, zo3, ho3h, ho3, hf⟩ := rfs3 hf
  refine CV3i dX9_setPolicy_10 (mX9_sets hst ho3) tk_1182 iX9_sets k2 (by decide) rfl ⟨by decide, by decide⟩ ⟨by decide, by decide⟩ (Nat.le_of_ble_eq_true rfl) ?_
  cases hf
  exact J_iretN dX9_setPolicy_13 rfl (by decide) (by decide)
theorem mX9_setPolicy {g : JG} (hst : (jl g).stackTraces = false) {a0 : Nat} {x1 : Int32} {z : Nat} {h : AH} {o : Int32 × Nat × AH} (hf : fX9_setPolicy a0 x1 z h = some o) : jMet g yX9_setPolicy (wj yX9_setPolicy cX9_setPolicy 2 (some .int)) rmX9_setPolicy [.ref a0, .int x1] z h (some (.int o.1), o.2.1, o.2.2) :=
  jMet_mk (by decide) (Nat.le_of_ble_eq_true rfl) [some (.ref a0), some (.int x1)] rfl (wfX9_setPolicy hst hf)
def fX9_setRule  (a0 : Nat) (x1 : Int32) (z : Nat) (h : AH) : Option (Int32 × Nat × AH) :=
  bd3 (fX9_in x1 0 2 z h) (fun vo1 zo1 ho1h => gd (kd ho1h a0 = 10) (bd3 (fX9_sets a0 18 x1 vo1 zo1 ho1h) (fun vo3 zo3 ho3h => some (vo3, zo3, ho3h))))
theorem wfX9_setRule {g : JG} (hst : (jl g).stackTraces = false)   {a0 : Nat} {x1 : Int32} {z : Nat} {h : AH} {o : Int32 × Nat × AH} (hf : fX9_setRule  a0 x1 z h = some o) : J g MX9_setRule (jN g (some (.int o.1), o.2.1, o.2.2) rmX9_setRule.cells rmX9_setRule.slots) 0 [some (.ref a0), some (.int x1)] [] z h 0 0 := by
  unfold fX9_setRule at hf
  refine J_aload_n dX9_setRule_0 rfl rfl ?_
  refine J_bipush (v := 18) dX9_setRule_1 (by decide) ?_
  refine J_iload_n dX9_setRule_3 rfl rfl ?_
  refine J_iload_n dX9_setRule_4 rfl rfl ?_
  refine J_iconst (v := 0) dX9_setRule_5 (by decide) ?_
  refine J_iconst (v := 2) dX9_setRule_6 (by decide) ?_
  obtain ⟨vo1, zo1, ho1h, ho1, hf⟩ := rfs3 hf
  refine CS3i (host := "") dX9_setRule_7 (mX9_in hst ho1) tk_996 iX9_in ⟨by decide, by decide⟩ ⟨by decide, by decide⟩ (Nat.le_of_ble_eq_true rfl) ?_
  obtain ⟨k2, hf⟩ := gds hf
  obtain ⟨vo3, zo3, ho3h, ho3, hf⟩ := rfs3 hf
  refine CV3i dX9_setRule_10 (mX9_sets hst ho3) tk_1182 iX9_sets k2 (by decide) rfl ⟨by decide, by decide⟩ ⟨by decide, by decide⟩ (Nat.le_of_ble_eq_true rfl) ?_
  cases hf
  exact J_iretN dX9_setRule_13 rfl (by decide) (by decide)
theorem mX9_setRule {g : JG} (hst : (jl g).stackTraces = false) {a0 : Nat} {x1 : Int32} {z : Nat} {h : AH} {o : Int32 × Nat × AH} (hf : fX9_setRule a0 x1 z h = some o) : jMet g yX9_setRule (wj yX9_setRule cX9_setRule 2 (some .int)) rmX9_setRule [.ref a0, .int x1] z h (some (.int o.1), o.2.1, o.2.2) :=
  jMet_mk (by decide) (Nat.le_of_ble_eq_true rfl) [some (.ref a0), some (.int x1)] rfl (wfX9_setRule hst hf)
def fX9_setBudget  (a0 : Nat) (x1 : Int32) (z : Nat) (h : AH) : Option (Int32 × Nat × AH) :=
  bd3 (fX9_in x1 1 9 z h) (fun vo1 zo1 ho1h => gd (kd ho1h a0 = 10) (bd3 (fX9_sets a0 19 x1 vo1 zo1 ho1h) (fun vo3 zo3 ho3h => some (vo3, zo3, ho3h))))
theorem wfX9_setBudget {g : JG} (hst : (jl g).stackTraces = false)   {a0 : Nat} {x1 : Int32} {z : Nat} {h : AH} {o : Int32 × Nat × AH} (hf : fX9_setBudget  a0 x1 z h = some o) : J g MX9_setBudget (jN g (some (.int o.1), o.2.1, o.2.2) rmX9_setBudget.cells rmX9_setBudget.slots) 0 [some (.ref a0), some (.int x1)] [] z h 0 0 := by
  unfold fX9_setBudget at hf
  refine J_aload_n dX9_setBudget_0 rfl rfl ?_
  refine J_bipush (v := 19) dX9_setBudget_1 (by decide) ?_
  refine J_iload_n dX9_setBudget_3 rfl rfl ?_
  refine J_iload_n dX9_setBudget_4 rfl rfl ?_
  refine J_iconst (v := 1) dX9_setBudget_5 (by decide) ?_
  refine J_bipush (v := 9) dX9_setBudget_6 (by decide) ?_
  obtain ⟨vo1, zo1, ho1h, ho1, hf⟩ := rfs3 hf
  refine CS3i (host := "") dX9_setBudget_8 (mX9_in hst ho1) tk_996 iX9_in ⟨by decide, by decide⟩ ⟨by decide, by decide⟩ (Nat.le_of_ble_eq_true rfl) ?_
  obtain ⟨k2, hf⟩ := gds hf
  obtain ⟨vo3, zo3, ho3h, ho3, hf⟩ := rfs3 hf
  refine CV3i dX9_setBudget_11 (mX9_sets hst ho3) tk_1182 iX9_sets k2 (by decide) rfl ⟨by decide, by decide⟩ ⟨by decide, by decide⟩ (Nat.le_of_ble_eq_true rfl) ?_
  cases hf
  exact J_iretN dX9_setBudget_14 rfl (by decide) (by decide)
theorem mX9_setBudget {g : JG} (hst : (jl g).stackTraces = false) {a0 : Nat} {x1 : Int32} {z : Nat} {h : AH} {o : Int32 × Nat × AH} (hf : fX9_setBudget a0 x1 z h = some o) : jMet g yX9_setBudget (wj yX9_setBudget cX9_setBudget 2 (some .int)) rmX9_setBudget [.ref a0, .int x1] z h (some (.int o.1), o.2.1, o.2.2) :=
  jMet_mk (by decide) (Nat.le_of_ble_eq_true rfl) [some (.ref a0), some (.int x1)] rfl (wfX9_setBudget hst hf)
def fX9_probeFault  (a0 : Nat) (x1 : Int32) (z : Nat) (h : AH) : Option (Int32 × Nat × AH) :=
  gd (kd h a0 = 10) (bd3 (fX9_isTask a0 x1 z h) (fun vo2 zo2 ho2h => (if vo2 = 0 then (some (1, zo2, ho2h)) else (gd (kd ho2h a0 = 10) (bd3 (fX9_isWaiting a0 x1 zo2 ho2h) (fun vo5 zo5 ho5h => (if vo5 = 0 then (some (2, zo5, ho5h)) else (some (0, zo5, ho5h)))))))))
theorem wfX9_probeFault {g : JG} (hst : (jl g).stackTraces = false)   {a0 : Nat} {x1 : Int32} {z : Nat} {h : AH} {o : Int32 × Nat × AH} (hf : fX9_probeFault  a0 x1 z h = some o) : J g MX9_probeFault (jN g (some (.int o.1), o.2.1, o.2.2) rmX9_probeFault.cells rmX9_probeFault.slots) 0 [some (.ref a0), some (.int x1)] [] z h 0 0 := by
  unfold fX9_probeFault at hf
  refine J_aload_n dX9_probeFault_0 rfl rfl ?_
  refine J_iload_n dX9_probeFault_1 rfl rfl ?_
  obtain ⟨k1, hf⟩ := gds hf
  obtain ⟨vo2, zo2, ho2h, ho2, hf⟩ := rfs3 hf
  refine CV1i dX9_probeFault_2 (mX9_isTask hst ho2) tk_1019 iX9_isTask k1 (by decide) rfl ⟨by decide, by decide⟩ ⟨by decide, by decide⟩ (Nat.le_of_ble_eq_true rfl) ?_
  rcases br hf with ⟨c3, hf⟩ | ⟨c3, hf⟩
  · refine J_if_ne (tgt := 12) dX9_probeFault_5 (by decide) (fun w => absurd c3 w) (fun _ => ?_)
    refine J_iconst (v := 1) dX9_probeFault_8 (by decide) ?_
    refine J_goto (tgt := 25) dX9_probeFault_9 (by decide) ?_
    cases hf
    exact J_iretN dX9_probeFault_25 rfl (by decide) (by decide)
  · refine J_if_ne (tgt := 12) dX9_probeFault_5 (by decide) (fun _ => ?_) (fun w => absurd w c3)
    refine J_aload_n dX9_probeFault_12 rfl rfl ?_
    refine J_iload_n dX9_probeFault_13 rfl rfl ?_
    obtain ⟨k4, hf⟩ := gds hf
    obtain ⟨vo5, zo5, ho5h, ho5, hf⟩ := rfs3 hf
    refine CV1i dX9_probeFault_14 (mX9_isWaiting hst ho5) tk_1103 iX9_isWaiting k4 (by decide) rfl ⟨by decide, by decide⟩ ⟨by decide, by decide⟩ (Nat.le_of_ble_eq_true rfl) ?_
    rcases br hf with ⟨c6, hf⟩ | ⟨c6, hf⟩
    · refine J_if_ne (tgt := 24) dX9_probeFault_17 (by decide) (fun w => absurd c6 w) (fun _ => ?_)
      refine J_iconst (v := 2) dX9_probeFault_20 (by decide) ?_
      refine J_goto (tgt := 25) dX9_probeFault_21 (by decide) ?_
      cases hf
      exact J_iretN dX9_probeFault_25 rfl (by decide) (by decide)
    · refine J_if_ne (tgt := 24) dX9_probeFault_17 (by decide) (fun _ => ?_) (fun w => absurd w c6)
      refine J_iconst (v := 0) dX9_probeFault_24 (by decide) ?_
      cases hf
      exact J_iretN dX9_probeFault_25 rfl (by decide) (by decide)
theorem mX9_probeFault {g : JG} (hst : (jl g).stackTraces = false) {a0 : Nat} {x1 : Int32} {z : Nat} {h : AH} {o : Int32 × Nat × AH} (hf : fX9_probeFault a0 x1 z h = some o) : jMet g yX9_probeFault (wj yX9_probeFault cX9_probeFault 2 (some .int)) rmX9_probeFault [.ref a0, .int x1] z h (some (.int o.1), o.2.1, o.2.2) :=
  jMet_mk (by decide) (Nat.le_of_ble_eq_true rfl) [some (.ref a0), some (.int x1)] rfl (wfX9_probeFault hst hf)
def bX9_sends_107 (q70 : Nat → Int32 → Int32 → Nat → AH → Option (Nat × AH)) (a0 : Nat) (x3 : Int32) (x4 : Int32) (u0 : Nat) (s1 : Int32) (s2 : Int32) (z : Nat) (h : AH) : Option (Nat × AH) :=
  gd (kd h u0 = 13) (gd (¬ ((s1 : Int32) < 0 ∨ ln h u0 ≤ Int32.toNatClampNeg s1)) (bl (wI h u0 (Int32.toNatClampNeg s1) s2) (fun h3 => q70 a0 x3 (x4 + 1) z h3)))
def lX9_sends_70B  (q70 : Nat → Int32 → Int32 → Nat → AH → Option (Nat × AH)) (a0 : Nat) (x3 : Int32) (x4 : Int32) (z : Nat) (h : AH) : Option (Nat × AH) :=
  (if 10 ≤ x4 then (gd (kd h a0 = 10) (Option.bind (rv h a0 0) (fun b3 => gd (kd h b3 = 13) (gd (¬ ((92 : Int32) < 0 ∨ ln h b3 ≤ Int32.toNatClampNeg 92)) (gd (¬ ((92 : Int32) < 0 ∨ ln h b3 ≤ Int32.toNatClampNeg 92)) (bl (wI h b3 (Int32.toNatClampNeg 92) ((iv h b3 (Int32.toNatClampNeg 92)) + 1)) (fun h7 => Option.bind (rv h7 a0 3) (fun b9 => gd (kd h7 b9 = 13) (gd (¬ ((0 : Int32) < 0 ∨ ln h7 b9 ≤ Int32.toNatClampNeg 0)) (gd (¬ ((0 : Int32) < 0 ∨ ln h7 b9 ≤ Int32.toNatClampNeg 0)) (bl (wI h7 b9 (Int32.toNatClampNeg 0) ((iv h7 b9 (Int32.toNatClampNeg 0)) + 1)) (fun h13 => some (z, h13))))))))))))) else (gd (kd h a0 = 10) (Option.bind (rv h a0 0) (fun b15 => (if (iv h a0 12) ≤ x4 then (bX9_sends_107 q70 a0 x3 x4 b15 ((x3 + 3) + x4) 0 z h) else (Option.bind (rv h a0 11) (fun b17 => gd (kd h b17 = 13) (gd (¬ ((x4 : Int32) < 0 ∨ ln h b17 ≤ Int32.toNatClampNeg x4)) (bX9_sends_107 q70 a0 x3 x4 b15 ((x3 + 3) + x4) (iv h b17 (Int32.toNatClampNeg x4)) z h)))))))))
def lX9_sends_70  : Nat → Nat → Int32 → Int32 → Nat → AH → Option (Nat × AH)
  | 0 => fun _ _ _ _ _ => none
  | fuel + 1 => lX9_sends_70B  (lX9_sends_70  fuel)
def fX9_sends  (a0 : Nat) (x1 : Int32) (x2 : Int32) (z : Nat) (h : AH) : Option (Nat × AH) :=
  gd (kd h a0 = 10) (Option.bind (rv h a0 0) (fun b2 => gd (kd h b2 = 13) (gd (¬ ((92 : Int32) < 0 ∨ ln h b2 ≤ Int32.toNatClampNeg 92)) ((if (iv h b2 (Int32.toNatClampNeg 92)) = 40 then (Option.bind (rv h a0 3) (fun b24 => gd (kd h b24 = 13) (gd (¬ ((1 : Int32) < 0 ∨ ln h b24 ≤ Int32.toNatClampNeg 1)) (gd (¬ ((1 : Int32) < 0 ∨ ln h b24 ≤ Int32.toNatClampNeg 1)) (bl (wI h b24 (Int32.toNatClampNeg 1) ((iv h b24 (Int32.toNatClampNeg 1)) + 1)) (fun h28 => some (z, h28))))))) else (Option.bind (rv h a0 0) (fun b6 => gd (kd h b6 = 13) (gd (¬ ((92 : Int32) < 0 ∨ ln h b6 ≤ Int32.toNatClampNeg 92)) (bl ((93 + (13 * (iv h b6 (Int32.toNatClampNeg 92))))) (fun v9 => Option.bind (rv h a0 0) (fun b10 => gd (kd h b10 = 13) (gd (¬ (((v9 + 0) : Int32) < 0 ∨ ln h b10 ≤ Int32.toNatClampNeg (v9 + 0))) (bl (wI h b10 (Int32.toNatClampNeg (v9 + 0)) x1) (fun h13 => Option.bind (rv h13 a0 0) (fun b15 => gd (kd h13 b15 = 13) (gd (¬ (((v9 + 1) : Int32) < 0 ∨ ln h13 b15 ≤ Int32.toNatClampNeg (v9 + 1))) (bl (wI h13 b15 (Int32.toNatClampNeg (v9 + 1)) x2) (fun h18 => Option.bind (rv h18 a0 0) (fun b20 => gd (kd h18 b20 = 13) (gd (¬ (((v9 + 2) : Int32) < 0 ∨ ln h18 b20 ≤ Int32.toNatClampNeg (v9 + 2))) (bl (wI h18 b20 (Int32.toNatClampNeg (v9 + 2)) (iv h18 a0 12)) (fun h23 => lX9_sends_70  fu a0 v9 0 z h23))))))))))))))))))))))
theorem wbX9_sends_107 {g : JG} (hst : (jl g).stackTraces = false) (q70 : Nat → Int32 → Int32 → Nat → AH → Option (Nat × AH)) (hq70 : ∀ (a0 : Nat) (x3 : Int32) (x4 : Int32) (z : Nat) (h : AH) (o : Nat × AH), q70 a0 x3 x4 z h = some o → J g MX9_sends (jN g (none, o.1, o.2) rmX9_sends.cells rmX9_sends.slots) 70 [some (.ref a0), none, none, some (.int x3), some (.int x4)] [] z h 0 0) {a0 : Nat} {x3 : Int32} {x4 : Int32} {u0 : Nat} {s1 : Int32} {s2 : Int32} {z : Nat} {h : AH} {o : Nat × AH} (hf : bX9_sends_107 q70 a0 x3 x4 u0 s1 s2 z h = some o) : J g MX9_sends (jN g (none, o.1, o.2) rmX9_sends.cells rmX9_sends.slots) 107 [some (.ref a0), none, none, some (.int x3), some (.int x4)] [.int s2, .int s1, .ref u0] z h 0 0 := by
  unfold bX9_sends_107 at hf
  obtain ⟨k1, hf⟩ := gds hf
  obtain ⟨n2, hf⟩ := gds hf
  refine J_iastore dX9_sends_107 k1 n2 ?_
  obtain ⟨h3, eh3, hf⟩ := bls hf
  refine J_h eh3 ?_
  refine S_iinc_4 (v := x4 + 1) dX9_sends_108 (congrArg (fun w => x4 + w) (by decide)) rfl (by decide) ?_
  refine J_goto (tgt := 70) dX9_sends_111 (by decide) ?_
  refine J.sub (jsub_s (jsub_n (jsub_n (jsub_s (jsub_s (jsub_nil _)))))) ?_
  exact hq70 _ _ _ _ _ _ hf
theorem wlX9_sends_70 {g : JG} (hst : (jl g).stackTraces = false)   : ∀ (fuel : Nat) (a0 : Nat) (x3 : Int32) (x4 : Int32) (z : Nat) (h : AH) (o : Nat × AH), lX9_sends_70  fuel a0 x3 x4 z h = some o → J g MX9_sends (jN g (none, o.1, o.2) rmX9_sends.cells rmX9_sends.slots) 70 [some (.ref a0), none, none, some (.int x3), some (.int x4)] [] z h 0 0 := by
  intro fuel
  induction fuel with
  | zero => intro a0 x3 x4 z h o hf; cases hf
  | succ fuel ih =>
    intro a0 x3 x4 z h o hf
    have hq70 := ih
    have hf : lX9_sends_70B  (lX9_sends_70  fuel) a0 x3 x4 z h = some o := hf
    generalize lX9_sends_70  fuel = q70 at hf hq70
    unfold lX9_sends_70B at hf
    refine J_iload dX9_sends_70 rfl ?_
    refine J_bipush (v := 10) dX9_sends_72 (by decide) ?_
    rcases br hf with ⟨c1, hf⟩ | ⟨c1, hf⟩
    · refine J_icmp_ge (tgt := 114) dX9_sends_74 (by decide) (fun _ => ?_) (fun w => absurd c1 w)
      refine J_aload_n dX9_sends_114 rfl rfl ?_
      obtain ⟨k2, hf⟩ := gds hf
      obtain ⟨b3, rb3, hf⟩ := rfs hf
      refine G_9_0 dX9_sends_115 tk_919 k2 rb3 ?_
      refine J_bipush (v := 92) dX9_sends_118 (by decide) ?_
      refine J_dup2 dX9_sends_120 rfl rfl ?_
      obtain ⟨k4, hf⟩ := gds hf
      obtain ⟨n5, hf⟩ := gds hf
      refine J_iaload dX9_sends_121 k4 n5 ?_
      refine J_iconst (v := 1) dX9_sends_122 (by decide) ?_
      refine J_iadd dX9_sends_123 ?_
      obtain ⟨n6, hf⟩ := gds hf
      refine J_iastore dX9_sends_124 k4 n6 ?_
      obtain ⟨h7, eh7, hf⟩ := bls hf
      refine J_h eh7 ?_
      refine J_aload_n dX9_sends_125 rfl rfl ?_
      have k8 : kd h7 a0 = 10 := by rw [eh7]; exact k2
      obtain ⟨b9, rb9, hf⟩ := rfs hf
      refine G_9_3 dX9_sends_126 tk_922 k8 rb9 ?_
      refine J_iconst (v := 0) dX9_sends_129 (by decide) ?_
      refine J_dup2 dX9_sends_130 rfl rfl ?_
      obtain ⟨k10, hf⟩ := gds hf
      obtain ⟨n11, hf⟩ := gds hf
      refine J_iaload dX9_sends_131 k10 n11 ?_
      refine J_iconst (v := 1) dX9_sends_132 (by decide) ?_
      refine J_iadd dX9_sends_133 ?_
      obtain ⟨n12, hf⟩ := gds hf
      refine J_iastore dX9_sends_134 k10 n12 ?_
      obtain ⟨h13, eh13, hf⟩ := bls hf
      refine J_h eh13 ?_
      cases hf
      exact J_vretN dX9_sends_135 rfl (by decide) (by decide)
    · refine J_icmp_ge (tgt := 114) dX9_sends_74 (by decide) (fun w => absurd w c1) (fun _ => ?_)
      refine J_aload_n dX9_sends_77 rfl rfl ?_
      obtain ⟨k14, hf⟩ := gds hf
      obtain ⟨b15, rb15, hf⟩ := rfs hf
      refine G_9_0 dX9_sends_78 tk_919 k14 rb15 ?_
      refine J_iload_n dX9_sends_81 rfl rfl ?_
      refine J_iconst (v := 3) dX9_sends_82 (by decide) ?_
      refine J_iadd dX9_sends_83 ?_
      refine J_iload dX9_sends_84 rfl ?_
      refine J_iadd dX9_sends_86 ?_
      refine J_iload dX9_sends_87 rfl ?_
      refine J_aload_n dX9_sends_89 rfl rfl ?_
      refine G_9_12 dX9_sends_90 tk_931 k14 ?_
      rcases br hf with ⟨c16, hf⟩ | ⟨c16, hf⟩
      · refine J_icmp_ge (tgt := 106) dX9_sends_93 (by decide) (fun _ => ?_) (fun w => absurd c16 w)
        refine J_iconst (v := 0) dX9_sends_106 (by decide) ?_
        refine J.sub (jsub_s (jsub_n (jsub_n (jsub_s (jsub_s (jsub_nil _)))))) ?_
        exact wbX9_sends_107 hst _ hq70 hf
      · refine J_icmp_ge (tgt := 106) dX9_sends_93 (by decide) (fun w => absurd w c16) (fun _ => ?_)
        refine J_aload_n dX9_sends_96 rfl rfl ?_
        obtain ⟨b17, rb17, hf⟩ := rfs hf
        refine G_9_11 dX9_sends_97 tk_930 k14 rb17 ?_
        refine J_iload dX9_sends_100 rfl ?_
        obtain ⟨k18, hf⟩ := gds hf
        obtain ⟨n19, hf⟩ := gds hf
        refine J_iaload dX9_sends_102 k18 n19 ?_
        refine J_goto (tgt := 107) dX9_sends_103 (by decide) ?_
        refine J.sub (jsub_s (jsub_n (jsub_n (jsub_s (jsub_s (jsub_nil _)))))) ?_
        exact wbX9_sends_107 hst _ hq70 hf
theorem wfX9_sends {g : JG} (hst : (jl g).stackTraces = false)   {a0 : Nat} {x1 : Int32} {x2 : Int32} {z : Nat} {h : AH} {o : Nat × AH} (hf : fX9_sends  a0 x1 x2 z h = some o) : J g MX9_sends (jN g (none, o.1, o.2) rmX9_sends.cells rmX9_sends.slots) 0 [some (.ref a0), some (.int x1), some (.int x2), none, none] [] z h 0 0 := by
  unfold fX9_sends at hf
  refine J_aload_n dX9_sends_0 rfl rfl ?_
  obtain ⟨k1, hf⟩ := gds hf
  obtain ⟨b2, rb2, hf⟩ := rfs hf
  refine G_9_0 dX9_sends_1 tk_919 k1 rb2 ?_
  refine J_bipush (v := 92) dX9_sends_4 (by decide) ?_
  obtain ⟨k3, hf⟩ := gds hf
  obtain ⟨n4, hf⟩ := gds hf
  refine J_iaload dX9_sends_6 k3 n4 ?_
  refine J_bipush (v := 40) dX9_sends_7 (by decide) ?_
  rcases br hf with ⟨c5, hf⟩ | ⟨c5, hf⟩
  · refine J_icmp_ne (tgt := 23) dX9_sends_9 (by decide) (fun w => absurd c5 w) (fun _ => ?_)
    refine J_aload_n dX9_sends_12 rfl rfl ?_
    obtain ⟨b24, rb24, hf⟩ := rfs hf
    refine G_9_3 dX9_sends_13 tk_922 k1 rb24 ?_
    refine J_iconst (v := 1) dX9_sends_16 (by decide) ?_
    refine J_dup2 dX9_sends_17 rfl rfl ?_
    obtain ⟨k25, hf⟩ := gds hf
    obtain ⟨n26, hf⟩ := gds hf
    refine J_iaload dX9_sends_18 k25 n26 ?_
    refine J_iconst (v := 1) dX9_sends_19 (by decide) ?_
    refine J_iadd dX9_sends_20 ?_
    obtain ⟨n27, hf⟩ := gds hf
    refine J_iastore dX9_sends_21 k25 n27 ?_
    obtain ⟨h28, eh28, hf⟩ := bls hf
    refine J_h eh28 ?_
    cases hf
    exact J_vretN dX9_sends_22 rfl (by decide) (by decide)
  · refine J_icmp_ne (tgt := 23) dX9_sends_9 (by decide) (fun _ => ?_) (fun w => absurd w c5)
    refine J_bipush (v := 93) dX9_sends_23 (by decide) ?_
    refine J_bipush (v := 13) dX9_sends_25 (by decide) ?_
    refine J_aload_n dX9_sends_27 rfl rfl ?_
    obtain ⟨b6, rb6, hf⟩ := rfs hf
    refine G_9_0 dX9_sends_28 tk_919 k1 rb6 ?_
    refine J_bipush (v := 92) dX9_sends_31 (by decide) ?_
    obtain ⟨k7, hf⟩ := gds hf
    obtain ⟨n8, hf⟩ := gds hf
    refine J_iaload dX9_sends_33 k7 n8 ?_
    refine J_imul dX9_sends_34 ?_
    refine J_iadd dX9_sends_35 ?_
    obtain ⟨v9, ev9, hf⟩ := bls hf
    refine J_i ev9 ?_
    refine S_istore_n_3 dX9_sends_36 rfl (by decide) ?_
    refine J_aload_n dX9_sends_37 rfl rfl ?_
    obtain ⟨b10, rb10, hf⟩ := rfs hf
    refine G_9_0 dX9_sends_38 tk_919 k1 rb10 ?_
    refine J_iload_n dX9_sends_41 rfl rfl ?_
    refine J_iconst (v := 0) dX9_sends_42 (by decide) ?_
    refine J_iadd dX9_sends_43 ?_
    refine J_iload_n dX9_sends_44 rfl rfl ?_
    obtain ⟨k11, hf⟩ := gds hf
    obtain ⟨n12, hf⟩ := gds hf
    refine J_iastore dX9_sends_45 k11 n12 ?_
    obtain ⟨h13, eh13, hf⟩ := bls hf
    refine J_h eh13 ?_
    refine J_aload_n dX9_sends_46 rfl rfl ?_
    have k14 : kd h13 a0 = 10 := by rw [eh13]; exact k1
    obtain ⟨b15, rb15, hf⟩ := rfs hf
    refine G_9_0 dX9_sends_47 tk_919 k14 rb15 ?_
    refine J_iload_n dX9_sends_50 rfl rfl ?_
    refine J_iconst (v := 1) dX9_sends_51 (by decide) ?_
    refine J_iadd dX9_sends_52 ?_
    refine J_iload_n dX9_sends_53 rfl rfl ?_
    obtain ⟨k16, hf⟩ := gds hf
    obtain ⟨n17, hf⟩ := gds hf
    refine J_iastore dX9_sends_54 k16 n17 ?_
    obtain ⟨h18, eh18, hf⟩ := bls hf
    refine J_h eh18 ?_
    refine J_aload_n dX9_sends_55 rfl rfl ?_
    have k19 : kd h18 a0 = 10 := by rw [eh18]; exact k14
    obtain ⟨b20, rb20, hf⟩ := rfs hf
    refine G_9_0 dX9_sends_56 tk_919 k19 rb20 ?_
    refine J_iload_n dX9_sends_59 rfl rfl ?_
    refine J_iconst (v := 2) dX9_sends_60 (by decide) ?_
    refine J_iadd dX9_sends_61 ?_
    refine J_aload_n dX9_sends_62 rfl rfl ?_
    refine G_9_12 dX9_sends_63 tk_931 k19 ?_
    obtain ⟨k21, hf⟩ := gds hf
    obtain ⟨n22, hf⟩ := gds hf
    refine J_iastore dX9_sends_66 k21 n22 ?_
    obtain ⟨h23, eh23, hf⟩ := bls hf
    refine J_h eh23 ?_
    refine J_iconst (v := 0) dX9_sends_67 (by decide) ?_
    refine S_istore_4 dX9_sends_68 rfl (by decide) ?_
    refine J.sub (jsub_s (jsub_n (jsub_n (jsub_s (jsub_s (jsub_nil _)))))) ?_
    exact wlX9_sends_70 hst   _ _ _ _ _ _ _ hf
theorem mX9_sends {g : JG} (hst : (jl g).stackTraces = false) {a0 : Nat} {x1 : Int32} {x2 : Int32} {z : Nat} {h : AH} {o : Nat × AH} (hf : fX9_sends a0 x1 x2 z h = some o) : jMet g yX9_sends (wj yX9_sends cX9_sends 5 none) rmX9_sends [.ref a0, .int x1, .int x2] z h (none, o.1, o.2) :=
  jMet_mk (by decide) (Nat.le_of_ble_eq_true rfl) [some (.ref a0), some (.int x1), some (.int x2), none, none] rfl (wfX9_sends hst hf)
def bX9_sendsAll_33 (q9 : Nat → Int32 → Int32 → Int32 → Nat → AH → Option (Nat × AH)) (a0 : Nat) (x2 : Int32) (x3 : Int32) (x4 : Int32) (z : Nat) (h : AH) : Option (Nat × AH) :=
  q9 a0 x2 x3 (x4 + 1) z h
def lX9_sendsAll_9B  (q9 : Nat → Int32 → Int32 → Int32 → Nat → AH → Option (Nat × AH)) (a0 : Nat) (x2 : Int32) (x3 : Int32) (x4 : Int32) (z : Nat) (h : AH) : Option (Nat × AH) :=
  (if 10 ≤ x4 then (some (z, h)) else ((if ((x3 >>> (x4 &&& 31)) &&& 1) = 1 then (gd (kd h a0 = 10) (bd2 (fX9_sends a0 x4 x2 z h) (fun zo4 ho4h => bX9_sendsAll_33 q9 a0 x2 x3 x4 zo4 ho4h))) else (bX9_sendsAll_33 q9 a0 x2 x3 x4 z h))))
def lX9_sendsAll_9  : Nat → Nat → Int32 → Int32 → Int32 → Nat → AH → Option (Nat × AH)
  | 0 => fun _ _ _ _ _ _ => none
  | fuel + 1 => lX9_sendsAll_9B  (lX9_sendsAll_9  fuel)
def fX9_sendsAll  (a0 : Nat) (x1 : Int32) (x2 : Int32) (z : Nat) (h : AH) : Option (Nat × AH) :=
  gd (kd h a0 = 10) (bd3 (fX9_waitsFor a0 x1 z h) (fun vo2 zo2 ho2h => lX9_sendsAll_9  fu a0 x2 vo2 0 zo2 ho2h))
theorem wbX9_sendsAll_33 {g : JG} (hst : (jl g).stackTraces = false) (q9 : Nat → Int32 → Int32 → Int32 → Nat → AH → Option (Nat × AH)) (hq9 : ∀ (a0 : Nat) (x2 : Int32) (x3 : Int32) (x4 : Int32) (z : Nat) (h : AH) (o : Nat × AH), q9 a0 x2 x3 x4 z h = some o → J g MX9_sendsAll (jN g (none, o.1, o.2) rmX9_sendsAll.cells rmX9_sendsAll.slots) 9 [some (.ref a0), none, some (.int x2), some (.int x3), some (.int x4)] [] z h 0 0) {a0 : Nat} {x2 : Int32} {x3 : Int32} {x4 : Int32} {z : Nat} {h : AH} {o : Nat × AH} (hf : bX9_sendsAll_33 q9 a0 x2 x3 x4 z h = some o) : J g MX9_sendsAll (jN g (none, o.1, o.2) rmX9_sendsAll.cells rmX9_sendsAll.slots) 33 [some (.ref a0), none, some (.int x2), some (.int x3), some (.int x4)] [] z h 0 0 := by
  unfold bX9_sendsAll_33 at hf
  refine S_iinc_4 (v := x4 + 1) dX9_sendsAll_33 (congrArg (fun w => x4 + w) (by decide)) rfl (by decide) ?_
  refine J_goto (tgt := 9) dX9_sendsAll_36 (by decide) ?_
  refine J.sub (jsub_s (jsub_n (jsub_s (jsub_s (jsub_s (jsub_nil _)))))) ?_
  exact hq9 _ _ _ _ _ _ _ hf
theorem wlX9_sendsAll_9 {g : JG} (hst : (jl g).stackTraces = false)   : ∀ (fuel : Nat) (a0 : Nat) (x2 : Int32) (x3 : Int32) (x4 : Int32) (z : Nat) (h : AH) (o : Nat × AH), lX9_sendsAll_9  fuel a0 x2 x3 x4 z h = some o → J g MX9_sendsAll (jN g (none, o.1, o.2) rmX9_sendsAll.cells rmX9_sendsAll.slots) 9 [some (.ref a0), none, some (.int x2), some (.int x3), some (.int x4)] [] z h 0 0 := by
  intro fuel
  induction fuel with
  | zero => intro a0 x2 x3 x4 z h o hf; cases hf
  | succ fuel ih =>
    intro a0 x2 x3 x4 z h o hf
    have hq9 := ih
    have hf : lX9_sendsAll_9B  (lX9_sendsAll_9  fuel) a0 x2 x3 x4 z h = some o := hf
    generalize lX9_sendsAll_9  fuel = q9 at hf hq9
    unfold lX9_sendsAll_9B at hf
    refine J_iload dX9_sendsAll_9 rfl ?_
    refine J_bipush (v := 10) dX9_sendsAll_11 (by decide) ?_
    rcases br hf with ⟨c1, hf⟩ | ⟨c1, hf⟩
    · refine J_icmp_ge (tgt := 39) dX9_sendsAll_13 (by decide) (fun _ => ?_) (fun w => absurd c1 w)
      cases hf
      exact J_vretN dX9_sendsAll_39 rfl (by decide) (by decide)
    · refine J_icmp_ge (tgt := 39) dX9_sendsAll_13 (by decide) (fun w => absurd w c1) (fun _ => ?_)
      refine J_iload_n dX9_sendsAll_16 rfl rfl ?_
      refine J_iload dX9_sendsAll_17 rfl ?_
      refine J_ishr dX9_sendsAll_19 ?_
      refine J_iconst (v := 1) dX9_sendsAll_20 (by decide) ?_
      refine J_iand dX9_sendsAll_21 ?_
      refine J_iconst (v := 1) dX9_sendsAll_22 (by decide) ?_
      rcases br hf with ⟨c2, hf⟩ | ⟨c2, hf⟩
      · refine J_icmp_ne (tgt := 33) dX9_sendsAll_23 (by decide) (fun w => absurd c2 w) (fun _ => ?_)
        refine J_aload_n dX9_sendsAll_26 rfl rfl ?_
        refine J_iload dX9_sendsAll_27 rfl ?_
        refine J_iload_n dX9_sendsAll_29 rfl rfl ?_
        obtain ⟨k3, hf⟩ := gds hf
        obtain ⟨zo4, ho4h, ho4, hf⟩ := rfs2 hf
        refine CV2v dX9_sendsAll_30 (mX9_sends hst ho4) tk_1210 iX9_sends k3 (by decide) rfl ⟨by decide, by decide⟩ ⟨by decide, by decide⟩ (Nat.le_of_ble_eq_true rfl) ?_
        refine J.sub (jsub_s (jsub_n (jsub_s (jsub_s (jsub_s (jsub_nil _)))))) ?_
        exact wbX9_sendsAll_33 hst _ hq9 hf
      · refine J_icmp_ne (tgt := 33) dX9_sendsAll_23 (by decide) (fun _ => ?_) (fun w => absurd w c2)
        refine J.sub (jsub_s (jsub_n (jsub_s (jsub_s (jsub_s (jsub_nil _)))))) ?_
        exact wbX9_sendsAll_33 hst _ hq9 hf
theorem wfX9_sendsAll {g : JG} (hst : (jl g).stackTraces = false)   {a0 : Nat} {x1 : Int32} {x2 : Int32} {z : Nat} {h : AH} {o : Nat × AH} (hf : fX9_sendsAll  a0 x1 x2 z h = some o) : J g MX9_sendsAll (jN g (none, o.1, o.2) rmX9_sendsAll.cells rmX9_sendsAll.slots) 0 [some (.ref a0), some (.int x1), some (.int x2), none, none] [] z h 0 0 := by
  unfold fX9_sendsAll at hf
  refine J_aload_n dX9_sendsAll_0 rfl rfl ?_
  refine J_iload_n dX9_sendsAll_1 rfl rfl ?_
  obtain ⟨k1, hf⟩ := gds hf
  obtain ⟨vo2, zo2, ho2h, ho2, hf⟩ := rfs3 hf
  refine CV1i dX9_sendsAll_2 (mX9_waitsFor hst ho2) tk_1099 iX9_waitsFor k1 (by decide) rfl ⟨by decide, by decide⟩ ⟨by decide, by decide⟩ (Nat.le_of_ble_eq_true rfl) ?_
  refine S_istore_n_3 dX9_sendsAll_5 rfl (by decide) ?_
  refine J_iconst (v := 0) dX9_sendsAll_6 (by decide) ?_
  refine S_istore_4 dX9_sendsAll_7 rfl (by decide) ?_
  refine J.sub (jsub_s (jsub_n (jsub_s (jsub_s (jsub_s (jsub_nil _)))))) ?_
  exact wlX9_sendsAll_9 hst   _ _ _ _ _ _ _ _ hf
theorem mX9_sendsAll {g : JG} (hst : (jl g).stackTraces = false) {a0 : Nat} {x1 : Int32} {x2 : Int32} {z : Nat} {h : AH} {o : Nat × AH} (hf : fX9_sendsAll a0 x1 x2 z h = some o) : jMet g yX9_sendsAll (wj yX9_sendsAll cX9_sendsAll 5 none) rmX9_sendsAll [.ref a0, .int x1, .int x2] z h (none, o.1, o.2) :=
  jMet_mk (by decide) (Nat.le_of_ble_eq_true rfl) [some (.ref a0), some (.int x1), some (.int x2), none, none] rfl (wfX9_sendsAll hst hf)
def fX9_starts  (a0 : Nat) (x1 : Int32) (z : Nat) (h : AH) : Option (Nat × AH) :=
  gd (kd h a0 = 10) (Option.bind (rv h a0 11) (fun b2 => gd (kd h b2 = 13) (gd (¬ ((0 : Int32) < 0 ∨ ln h b2 ≤ Int32.toNatClampNeg 0)) (bl (wI h b2 (Int32.toNatClampNeg 0) x1) (fun h5 => bl (wI h5 a0 12 1) (fun h7 => Option.bind (rv h7 a0 0) (fun b9 => gd (kd h7 b9 = 13) (gd (¬ ((19 : Int32) < 0 ∨ ln h7 b9 ≤ Int32.toNatClampNeg 19)) (bd2 (fX9_sendsAll a0 x1 ((iv h7 b9 (Int32.toNatClampNeg 19)) - 1) z h7) (fun zo12 ho12h => some (zo12, ho12h)))))))))))
theorem wfX9_starts {g : JG} (hst : (jl g).stackTraces = false)   {a0 : Nat} {x1 : Int32} {z : Nat} {h : AH} {o : Nat × AH} (hf : fX9_starts  a0 x1 z h = some o) : J g MX9_starts (jN g (none, o.1, o.2) rmX9_starts.cells rmX9_starts.slots) 0 [some (.ref a0), some (.int x1)] [] z h 0 0 := by
  unfold fX9_starts at hf
  refine J_aload_n dX9_starts_0 rfl rfl ?_
  obtain ⟨k1, hf⟩ := gds hf
  obtain ⟨b2, rb2, hf⟩ := rfs hf
  refine G_9_11 dX9_starts_1 tk_930 k1 rb2 ?_
  refine J_iconst (v := 0) dX9_starts_4 (by decide) ?_
  refine J_iload_n dX9_starts_5 rfl rfl ?_
  obtain ⟨k3, hf⟩ := gds hf
  obtain ⟨n4, hf⟩ := gds hf
  refine J_iastore dX9_starts_6 k3 n4 ?_
  obtain ⟨h5, eh5, hf⟩ := bls hf
  refine J_h eh5 ?_
  refine J_aload_n dX9_starts_7 rfl rfl ?_
  refine J_iconst (v := 1) dX9_starts_8 (by decide) ?_
  have k6 : kd h5 a0 = 10 := by rw [eh5]; exact k1
  refine P_9_12 dX9_starts_9 tk_931 k6 ?_
  obtain ⟨h7, eh7, hf⟩ := bls hf
  refine J_h eh7 ?_
  refine J_aload_n dX9_starts_12 rfl rfl ?_
  refine J_iload_n dX9_starts_13 rfl rfl ?_
  refine J_aload_n dX9_starts_14 rfl rfl ?_
  have k8 : kd h7 a0 = 10 := by rw [eh7]; exact k6
  obtain ⟨b9, rb9, hf⟩ := rfs hf
  refine G_9_0 dX9_starts_15 tk_919 k8 rb9 ?_
  refine J_bipush (v := 19) dX9_starts_18 (by decide) ?_
  obtain ⟨k10, hf⟩ := gds hf
  obtain ⟨n11, hf⟩ := gds hf
  refine J_iaload dX9_starts_20 k10 n11 ?_
  refine J_iconst (v := 1) dX9_starts_21 (by decide) ?_
  refine J_isub dX9_starts_22 ?_
  obtain ⟨zo12, ho12h, ho12, hf⟩ := rfs2 hf
  refine CV2v dX9_starts_23 (mX9_sendsAll hst ho12) tk_1206 iX9_sendsAll k8 (by decide) rfl ⟨by decide, by decide⟩ ⟨by decide, by decide⟩ (Nat.le_of_ble_eq_true rfl) ?_
  cases hf
  exact J_vretN dX9_starts_26 rfl (by decide) (by decide)
theorem mX9_starts {g : JG} (hst : (jl g).stackTraces = false) {a0 : Nat} {x1 : Int32} {z : Nat} {h : AH} {o : Nat × AH} (hf : fX9_starts a0 x1 z h = some o) : jMet g yX9_starts (wj yX9_starts cX9_starts 2 none) rmX9_starts [.ref a0, .int x1] z h (none, o.1, o.2) :=
  jMet_mk (by decide) (Nat.le_of_ble_eq_true rfl) [some (.ref a0), some (.int x1)] rfl (wfX9_starts hst hf)
def fX9_probe  (a0 : Nat) (x1 : Int32) (z : Nat) (h : AH) : Option (Int32 × Nat × AH) :=
  gd (kd h a0 = 10) (bd3 (fX9_probeFault a0 x1 z h) (fun vo2 zo2 ho2h => gd (kd ho2h a0 = 10) (bl (wI ho2h a0 6 vo2) (fun h4 => (if (iv h4 a0 6) ≤ 0 then (bd2 (fX9_begins a0 zo2 h4) (fun zo7 ho7h => gd (kd ho7h a0 = 10) (bd2 (fX9_starts a0 x1 zo7 ho7h) (fun zo9 ho9h => gd (kd ho9h a0 = 10) (bd2 (fX9_records a0 zo9 ho9h) (fun zo11 ho11h => gd (kd ho11h a0 = 10) (Option.bind (rv ho11h a0 0) (fun b13 => gd (kd ho11h b13 = 13) (gd (¬ ((92 : Int32) < 0 ∨ ln ho11h b13 ≤ Int32.toNatClampNeg 92)) (some ((iv ho11h b13 (Int32.toNatClampNeg 92)), zo11, ho11h))))))))))) else (some (0, zo2, h4)))))))
theorem wfX9_probe {g : JG} (hst : (jl g).stackTraces = false)   {a0 : Nat} {x1 : Int32} {z : Nat} {h : AH} {o : Int32 × Nat × AH} (hf : fX9_probe  a0 x1 z h = some o) : J g MX9_probe (jN g (some (.int o.1), o.2.1, o.2.2) rmX9_probe.cells rmX9_probe.slots) 0 [some (.ref a0), some (.int x1)] [] z h 0 0 := by
  unfold fX9_probe at hf
  refine J_aload_n dX9_probe_0 rfl rfl ?_
  refine J_aload_n dX9_probe_1 rfl rfl ?_
  refine J_iload_n dX9_probe_2 rfl rfl ?_
  obtain ⟨k1, hf⟩ := gds hf
  obtain ⟨vo2, zo2, ho2h, ho2, hf⟩ := rfs3 hf
  refine CV1i dX9_probe_3 (mX9_probeFault hst ho2) tk_1198 iX9_probeFault k1 (by decide) rfl ⟨by decide, by decide⟩ ⟨by decide, by decide⟩ (Nat.le_of_ble_eq_true rfl) ?_
  obtain ⟨k3, hf⟩ := gds hf
  refine P_9_6 dX9_probe_6 tk_925 k3 ?_
  obtain ⟨h4, eh4, hf⟩ := bls hf
  refine J_h eh4 ?_
  refine J_aload_n dX9_probe_9 rfl rfl ?_
  have k5 : kd h4 a0 = 10 := by rw [eh4]; exact k3
  refine G_9_6 dX9_probe_10 tk_925 k5 ?_
  rcases br hf with ⟨c6, hf⟩ | ⟨c6, hf⟩
  · refine J_if_le (tgt := 18) dX9_probe_13 (by decide) (fun _ => ?_) (fun w => absurd c6 w)
    refine J_aload_n dX9_probe_18 rfl rfl ?_
    obtain ⟨zo7, ho7h, ho7, hf⟩ := rfs2 hf
    refine CV0v dX9_probe_19 (mX9_begins hst ho7) tk_999 iX9_begins k5 (by decide) rfl ⟨by decide, by decide⟩ ⟨by decide, by decide⟩ (Nat.le_of_ble_eq_true rfl) ?_
    refine J_aload_n dX9_probe_22 rfl rfl ?_
    refine J_iload_n dX9_probe_23 rfl rfl ?_
    obtain ⟨k8, hf⟩ := gds hf
    obtain ⟨zo9, ho9h, ho9, hf⟩ := rfs2 hf
    refine CV1v dX9_probe_24 (mX9_starts hst ho9) tk_1202 iX9_starts k8 (by decide) rfl ⟨by decide, by decide⟩ ⟨by decide, by decide⟩ (Nat.le_of_ble_eq_true rfl) ?_
    refine J_aload_n dX9_probe_27 rfl rfl ?_
    obtain ⟨k10, hf⟩ := gds hf
    obtain ⟨zo11, ho11h, ho11, hf⟩ := rfs2 hf
    refine CV0v dX9_probe_28 (mX9_records hst ho11) tk_1003 iX9_records k10 (by decide) rfl ⟨by decide, by decide⟩ ⟨by decide, by decide⟩ (Nat.le_of_ble_eq_true rfl) ?_
    refine J_aload_n dX9_probe_31 rfl rfl ?_
    obtain ⟨k12, hf⟩ := gds hf
    obtain ⟨b13, rb13, hf⟩ := rfs hf
    refine G_9_0 dX9_probe_32 tk_919 k12 rb13 ?_
    refine J_bipush (v := 92) dX9_probe_35 (by decide) ?_
    obtain ⟨k14, hf⟩ := gds hf
    obtain ⟨n15, hf⟩ := gds hf
    refine J_iaload dX9_probe_37 k14 n15 ?_
    cases hf
    exact J_iretN dX9_probe_38 rfl (by decide) (by decide)
  · refine J_if_le (tgt := 18) dX9_probe_13 (by decide) (fun w => absurd w c6) (fun _ => ?_)
    refine J_iconst (v := 0) dX9_probe_16 (by decide) ?_
    cases hf
    exact J_iretN dX9_probe_17 rfl (by decide) (by decide)
theorem mX9_probe {g : JG} (hst : (jl g).stackTraces = false) {a0 : Nat} {x1 : Int32} {z : Nat} {h : AH} {o : Int32 × Nat × AH} (hf : fX9_probe a0 x1 z h = some o) : jMet g yX9_probe (wj yX9_probe cX9_probe 2 (some .int)) rmX9_probe [.ref a0, .int x1] z h (some (.int o.1), o.2.1, o.2.2) :=
  jMet_mk (by decide) (Nat.le_of_ble_eq_true rfl) [some (.ref a0), some (.int x1)] rfl (wfX9_probe hst hf)
def bX9_isStale_76 (q4 : Nat → Int32 → Int32 → Int32 → Nat → AH → Option (Int32 × Nat × AH)) (a0 : Nat) (x1 : Int32) (x3 : Int32) (s0 : Int32) (z : Nat) (h : AH) : Option (Int32 × Nat × AH) :=
  q4 a0 x1 s0 (x3 + 1) z h
def bX9_isStale_71 (q4 : Nat → Int32 → Int32 → Int32 → Nat → AH → Option (Int32 × Nat × AH)) (a0 : Nat) (x1 : Int32) (x3 : Int32) (z : Nat) (h : AH) : Option (Int32 × Nat × AH) :=
  bX9_isStale_76 q4 a0 x1 x3 1 z h
def bX9_isStale_34 (q4 : Nat → Int32 → Int32 → Int32 → Nat → AH → Option (Int32 × Nat × AH)) (a0 : Nat) (x1 : Int32) (x2 : Int32) (x3 : Int32) (s0 : Int32) (z : Nat) (h : AH) : Option (Int32 × Nat × AH) :=
  (if x2 = 0 then (gd (kd h a0 = 10) (Option.bind (rv h a0 11) (fun b3 => gd (kd h b3 = 13) (gd (¬ ((x3 : Int32) < 0 ∨ ln h b3 ≤ Int32.toNatClampNeg x3)) (bd3 (fX9_isWaiting a0 (iv h b3 (Int32.toNatClampNeg x3)) z h) (fun vo6 zo6 ho6h => (if vo6 = 0 then (bX9_isStale_71 q4 a0 x1 x3 zo6 ho6h) else (gd (kd ho6h a0 = 10) (Option.bind (rv ho6h a0 11) (fun b9 => gd (kd ho6h b9 = 13) (gd (¬ ((x3 : Int32) < 0 ∨ ln ho6h b9 ≤ Int32.toNatClampNeg x3)) (bd3 (fX9_waitsFor a0 (iv ho6h b9 (Int32.toNatClampNeg x3)) zo6 ho6h) (fun vo12 zo12 ho12h => (if ((vo12 >>> (s0 &&& 31)) &&& 1) = 0 then (bX9_isStale_71 q4 a0 x1 x3 zo12 ho12h) else (bX9_isStale_76 q4 a0 x1 x3 0 zo12 ho12h))))))))))))))) else (bX9_isStale_71 q4 a0 x1 x3 z h))
def lX9_isStale_4B  (q4 : Nat → Int32 → Int32 → Int32 → Nat → AH → Option (Int32 × Nat × AH)) (a0 : Nat) (x1 : Int32) (x2 : Int32) (x3 : Int32) (z : Nat) (h : AH) : Option (Int32 × Nat × AH) :=
  gd (kd h a0 = 10) ((if (iv h a0 12) ≤ x3 then (gd (x2 = 0 ∨ x2 = 1) (some (x2, z, h))) else ((if (iv h a0 12) ≤ (x3 + 1) then (bX9_isStale_34 q4 a0 x1 x2 x3 x1 z h) else (Option.bind (rv h a0 11) (fun b4 => gd (kd h b4 = 13) (gd (¬ (((x3 + 1) : Int32) < 0 ∨ ln h b4 ≤ Int32.toNatClampNeg (x3 + 1))) (bX9_isStale_34 q4 a0 x1 x2 x3 (iv h b4 (Int32.toNatClampNeg (x3 + 1))) z h))))))))
def lX9_isStale_4  : Nat → Nat → Int32 → Int32 → Int32 → Nat → AH → Option (Int32 × Nat × AH)
  | 0 => fun _ _ _ _ _ _ => none
  | fuel + 1 => lX9_isStale_4B  (lX9_isStale_4  fuel)
def fX9_isStale  (a0 : Nat) (x1 : Int32) (z : Nat) (h : AH) : Option (Int32 × Nat × AH) :=
  lX9_isStale_4  fu a0 x1 0 0 z h
theorem wbX9_isStale_76 {g : JG} (hst : (jl g).stackTraces = false) (q4 : Nat → Int32 → Int32 → Int32 → Nat → AH → Option (Int32 × Nat × AH)) (hq4 : ∀ (a0 : Nat) (x1 : Int32) (x2 : Int32) (x3 : Int32) (z : Nat) (h : AH) (o : Int32 × Nat × AH), q4 a0 x1 x2 x3 z h = some o → J g MX9_isStale (jN g (some (.int o.1), o.2.1, o.2.2) rmX9_isStale.cells rmX9_isStale.slots) 4 [some (.ref a0), some (.int x1), some (.int x2), some (.int x3), none] [] z h 0 0) {a0 : Nat} {x1 : Int32} {x3 : Int32} {s0 : Int32} {z : Nat} {h : AH} {o : Int32 × Nat × AH} (hf : bX9_isStale_76 q4 a0 x1 x3 s0 z h = some o) : J g MX9_isStale (jN g (some (.int o.1), o.2.1, o.2.2) rmX9_isStale.cells rmX9_isStale.slots) 76 [some (.ref a0), some (.int x1), none, some (.int x3), none] [.int s0] z h 0 0 := by
  unfold bX9_isStale_76 at hf
  refine S_istore_n_2 dX9_isStale_76 rfl (by decide) ?_
  refine S_iinc_3 (v := x3 + 1) dX9_isStale_77 (congrArg (fun w => x3 + w) (by decide)) rfl (by decide) ?_
  refine J_goto (tgt := 4) dX9_isStale_80 (by decide) ?_
  refine J.sub (jsub_s (jsub_s (jsub_s (jsub_s (jsub_n (jsub_nil _)))))) ?_
  exact hq4 _ _ _ _ _ _ _ hf
theorem wbX9_isStale_71 {g : JG} (hst : (jl g).stackTraces = false) (q4 : Nat → Int32 → Int32 → Int32 → Nat → AH → Option (Int32 × Nat × AH)) (hq4 : ∀ (a0 : Nat) (x1 : Int32) (x2 : Int32) (x3 : Int32) (z : Nat) (h : AH) (o : Int32 × Nat × AH), q4 a0 x1 x2 x3 z h = some o → J g MX9_isStale (jN g (some (.int o.1), o.2.1, o.2.2) rmX9_isStale.cells rmX9_isStale.slots) 4 [some (.ref a0), some (.int x1), some (.int x2), some (.int x3), none] [] z h 0 0) {a0 : Nat} {x1 : Int32} {x3 : Int32} {z : Nat} {h : AH} {o : Int32 × Nat × AH} (hf : bX9_isStale_71 q4 a0 x1 x3 z h = some o) : J g MX9_isStale (jN g (some (.int o.1), o.2.1, o.2.2) rmX9_isStale.cells rmX9_isStale.slots) 71 [some (.ref a0), some (.int x1), none, some (.int x3), none] [] z h 0 0 := by
  unfold bX9_isStale_71 at hf
  refine J_iconst (v := 1) dX9_isStale_71 (by decide) ?_
  refine J_goto (tgt := 76) dX9_isStale_72 (by decide) ?_
  refine J.sub (jsub_s (jsub_s (jsub_n (jsub_s (jsub_n (jsub_nil _)))))) ?_
  exact wbX9_isStale_76 hst _ hq4 hf
theorem wbX9_isStale_34 {g : JG} (hst : (jl g).stackTraces = false) (q4 : Nat → Int32 → Int32 → Int32 → Nat → AH → Option (Int32 × Nat × AH)) (hq4 : ∀ (a0 : Nat) (x1 : Int32) (x2 : Int32) (x3 : Int32) (z : Nat) (h : AH) (o : Int32 × Nat × AH), q4 a0 x1 x2 x3 z h = some o → J g MX9_isStale (jN g (some (.int o.1), o.2.1, o.2.2) rmX9_isStale.cells rmX9_isStale.slots) 4 [some (.ref a0), some (.int x1), some (.int x2), some (.int x3), none] [] z h 0 0) {a0 : Nat} {x1 : Int32} {x2 : Int32} {x3 : Int32} {s0 : Int32} {z : Nat} {h : AH} {o : Int32 × Nat × AH} (hf : bX9_isStale_34 q4 a0 x1 x2 x3 s0 z h = some o) : J g MX9_isStale (jN g (some (.int o.1), o.2.1, o.2.2) rmX9_isStale.cells rmX9_isStale.slots) 34 [some (.ref a0), some (.int x1), some (.int x2), some (.int x3), none] [.int s0] z h 0 0 := by
  unfold bX9_isStale_34 at hf
  refine S_istore_4 dX9_isStale_34 rfl (by decide) ?_
  refine J_iload_n dX9_isStale_36 rfl rfl ?_
  rcases br hf with ⟨c1, hf⟩ | ⟨c1, hf⟩
  · refine J_if_ne (tgt := 71) dX9_isStale_37 (by decide) (fun w => absurd c1 w) (fun _ => ?_)
    refine J_aload_n dX9_isStale_40 rfl rfl ?_
    refine J_aload_n dX9_isStale_41 rfl rfl ?_
    obtain ⟨k2, hf⟩ := gds hf
    obtain ⟨b3, rb3, hf⟩ := rfs hf
    refine G_9_11 dX9_isStale_42 tk_930 k2 rb3 ?_
    refine J_iload_n dX9_isStale_45 rfl rfl ?_
    obtain ⟨k4, hf⟩ := gds hf
    obtain ⟨n5, hf⟩ := gds hf
    refine J_iaload dX9_isStale_46 k4 n5 ?_
    obtain ⟨vo6, zo6, ho6h, ho6, hf⟩ := rfs3 hf
    refine CV1i dX9_isStale_47 (mX9_isWaiting hst ho6) tk_1103 iX9_isWaiting k2 (by decide) rfl ⟨by decide, by decide⟩ ⟨by decide, by decide⟩ (Nat.le_of_ble_eq_true rfl) ?_
    rcases br hf with ⟨c7, hf⟩ | ⟨c7, hf⟩
    · refine J_if_eq (tgt := 71) dX9_isStale_50 (by decide) (fun _ => ?_) (fun w => absurd c7 w)
      refine J.sub (jsub_s (jsub_s (jsub_n (jsub_s (jsub_n (jsub_nil _)))))) ?_
      exact wbX9_isStale_71 hst _ hq4 hf
    · refine J_if_eq (tgt := 71) dX9_isStale_50 (by decide) (fun w => absurd w c7) (fun _ => ?_)
      refine J_aload_n dX9_isStale_53 rfl rfl ?_
      refine J_aload_n dX9_isStale_54 rfl rfl ?_
      obtain ⟨k8, hf⟩ := gds hf
      obtain ⟨b9, rb9, hf⟩ := rfs hf
      refine G_9_11 dX9_isStale_55 tk_930 k8 rb9 ?_
      refine J_iload_n dX9_isStale_58 rfl rfl ?_
      obtain ⟨k10, hf⟩ := gds hf
      obtain ⟨n11, hf⟩ := gds hf
      refine J_iaload dX9_isStale_59 k10 n11 ?_
      obtain ⟨vo12, zo12, ho12h, ho12, hf⟩ := rfs3 hf
      refine CV1i dX9_isStale_60 (mX9_waitsFor hst ho12) tk_1099 iX9_waitsFor k8 (by decide) rfl ⟨by decide, by decide⟩ ⟨by decide, by decide⟩ (Nat.le_of_ble_eq_true rfl) ?_
      refine J_iload dX9_isStale_63 rfl ?_
      refine J_ishr dX9_isStale_65 ?_
      refine J_iconst (v := 1) dX9_isStale_66 (by decide) ?_
      refine J_iand dX9_isStale_67 ?_
      rcases br hf with ⟨c13, hf⟩ | ⟨c13, hf⟩
      · refine J_if_ne (tgt := 75) dX9_isStale_68 (by decide) (fun w => absurd c13 w) (fun _ => ?_)
        refine J.sub (jsub_s (jsub_s (jsub_n (jsub_s (jsub_n (jsub_nil _)))))) ?_
        exact wbX9_isStale_71 hst _ hq4 hf
      · refine J_if_ne (tgt := 75) dX9_isStale_68 (by decide) (fun _ => ?_) (fun w => absurd w c13)
        refine J_iconst (v := 0) dX9_isStale_75 (by decide) ?_
        refine J.sub (jsub_s (jsub_s (jsub_n (jsub_s (jsub_n (jsub_nil _)))))) ?_
        exact wbX9_isStale_76 hst _ hq4 hf
  · refine J_if_ne (tgt := 71) dX9_isStale_37 (by decide) (fun _ => ?_) (fun w => absurd w c1)
    refine J.sub (jsub_s (jsub_s (jsub_n (jsub_s (jsub_n (jsub_nil _)))))) ?_
    exact wbX9_isStale_71 hst _ hq4 hf
theorem wlX9_isStale_4 {g : JG} (hst : (jl g).stackTraces = false)   : ∀ (fuel : Nat) (a0 : Nat) (x1 : Int32) (x2 : Int32) (x3 : Int32) (z : Nat) (h : AH) (o : Int32 × Nat × AH), lX9_isStale_4  fuel a0 x1 x2 x3 z h = some o → J g MX9_isStale (jN g (some (.int o.1), o.2.1, o.2.2) rmX9_isStale.cells rmX9_isStale.slots) 4 [some (.ref a0), some (.int x1), some (.int x2), some (.int x3), none] [] z h 0 0 := by
  intro fuel
  induction fuel with
  | zero => intro a0 x1 x2 x3 z h o hf; cases hf
  | succ fuel ih =>
    intro a0 x1 x2 x3 z h o hf
    have hq4 := ih
    have hf : lX9_isStale_4B  (lX9_isStale_4  fuel) a0 x1 x2 x3 z h = some o := hf
    generalize lX9_isStale_4  fuel = q4 at hf hq4
    unfold lX9_isStale_4B at hf
    refine J_iload_n dX9_isStale_4 rfl rfl ?_
    refine J_aload_n dX9_isStale_5 rfl rfl ?_
    obtain ⟨k1, hf⟩ := gds hf
    refine G_9_12 dX9_isStale_6 tk_931 k1 ?_
    rcases br hf with ⟨c2, hf⟩ | ⟨c2, hf⟩
    · refine J_icmp_ge (tgt := 83) dX9_isStale_9 (by decide) (fun _ => ?_) (fun w => absurd c2 w)
      refine J_iload_n dX9_isStale_83 rfl rfl ?_
      obtain ⟨z9, hf⟩ := gds hf
      cases hf
      exact J_zretN dX9_isStale_84 rfl z9 (by decide) (by decide)
    · refine J_icmp_ge (tgt := 83) dX9_isStale_9 (by decide) (fun w => absurd w c2) (fun _ => ?_)
      refine J_iload_n dX9_isStale_12 rfl rfl ?_
      refine J_iconst (v := 1) dX9_isStale_13 (by decide) ?_
      refine J_iadd dX9_isStale_14 ?_
      refine J_aload_n dX9_isStale_15 rfl rfl ?_
      refine G_9_12 dX9_isStale_16 tk_931 k1 ?_
      rcases br hf with ⟨c3, hf⟩ | ⟨c3, hf⟩
      · refine J_icmp_ge (tgt := 33) dX9_isStale_19 (by decide) (fun _ => ?_) (fun w => absurd c3 w)
        refine J_iload_n dX9_isStale_33 rfl rfl ?_
        refine J.sub (jsub_s (jsub_s (jsub_s (jsub_s (jsub_n (jsub_nil _)))))) ?_
        exact wbX9_isStale_34 hst _ hq4 hf
      · refine J_icmp_ge (tgt := 33) dX9_isStale_19 (by decide) (fun w => absurd w c3) (fun _ => ?_)
        refine J_aload_n dX9_isStale_22 rfl rfl ?_
        obtain ⟨b4, rb4, hf⟩ := rfs hf
        refine G_9_11 dX9_isStale_23 tk_930 k1 rb4 ?_
        refine J_iload_n dX9_isStale_26 rfl rfl ?_
        refine J_iconst (v := 1) dX9_isStale_27 (by decide) ?_
        refine J_iadd dX9_isStale_28 ?_
        obtain ⟨k5, hf⟩ := gds hf
        obtain ⟨n6, hf⟩ := gds hf
        refine J_iaload dX9_isStale_29 k5 n6 ?_
        refine J_goto (tgt := 34) dX9_isStale_30 (by decide) ?_
        refine J.sub (jsub_s (jsub_s (jsub_s (jsub_s (jsub_n (jsub_nil _)))))) ?_
        exact wbX9_isStale_34 hst _ hq4 hf
theorem wfX9_isStale {g : JG} (hst : (jl g).stackTraces = false)   {a0 : Nat} {x1 : Int32} {z : Nat} {h : AH} {o : Int32 × Nat × AH} (hf : fX9_isStale  a0 x1 z h = some o) : J g MX9_isStale (jN g (some (.int o.1), o.2.1, o.2.2) rmX9_isStale.cells rmX9_isStale.slots) 0 [some (.ref a0), some (.int x1), none, none, none] [] z h 0 0 := by
  unfold fX9_isStale at hf
  refine J_iconst (v := 0) dX9_isStale_0 (by decide) ?_
  refine S_istore_n_2 dX9_isStale_1 rfl (by decide) ?_
  refine J_iconst (v := 0) dX9_isStale_2 (by decide) ?_
  refine S_istore_n_3 dX9_isStale_3 rfl (by decide) ?_
  refine J.sub (jsub_s (jsub_s (jsub_s (jsub_s (jsub_n (jsub_nil _)))))) ?_
  exact wlX9_isStale_4 hst   _ _ _ _ _ _ _ _ hf
theorem mX9_isStale {g : JG} (hst : (jl g).stackTraces = false) {a0 : Nat} {x1 : Int32} {z : Nat} {h : AH} {o : Int32 × Nat × AH} (hf : fX9_isStale a0 x1 z h = some o) : jMet g yX9_isStale (wj yX9_isStale cX9_isStale 5 (some .boolean)) rmX9_isStale [.ref a0, .int x1] z h (some (.int o.1), o.2.1, o.2.2) :=
  jMet_mk (by decide) (Nat.le_of_ble_eq_true rfl) [some (.ref a0), some (.int x1), none, none, none] rfl (wfX9_isStale hst hf)
def bX9_isBefore_87  (a0 : Nat) (x1 : Int32) (x2 : Int32) (x3 : Int32) (s0 : Int32) (z : Nat) (h : AH) : Option (Int32 × Nat × AH) :=
  (if x3 < s0 then (some (1, z, h)) else ((if x3 = s0 then (gd (kd h a0 = 10) (bd3 (fX9_of a0 x1 2 z h) (fun vo4 zo4 ho4h => gd (kd ho4h a0 = 10) (bd3 (fX9_of a0 x2 2 zo4 ho4h) (fun vo6 zo6 ho6h => (if vo4 ≤ vo6 then (some (0, zo6, ho6h)) else (some (1, zo6, ho6h)))))))) else (some (0, z, h)))))
def bX9_isBefore_43  (a0 : Nat) (x1 : Int32) (x2 : Int32) (s0 : Int32) (z : Nat) (h : AH) : Option (Int32 × Nat × AH) :=
  gd (kd h a0 = 10) (Option.bind (rv h a0 0) (fun b2 => gd (kd h b2 = 13) (gd (¬ ((18 : Int32) < 0 ∨ ln h b2 ≤ Int32.toNatClampNeg 18)) ((if (iv h b2 (Int32.toNatClampNeg 18)) = 0 then (bd3 (fX9_of a0 x2 1 z h) (fun vo12 zo12 ho12h => bX9_isBefore_87  a0 x1 x2 s0 vo12 zo12 ho12h)) else (Option.bind (rv h a0 0) (fun b6 => gd (kd h b6 = 13) (gd (¬ ((18 : Int32) < 0 ∨ ln h b6 ≤ Int32.toNatClampNeg 18)) ((if (iv h b6 (Int32.toNatClampNeg 18)) = 1 then (bX9_isBefore_87  a0 x1 x2 s0 0 z h) else (bd3 (fX9_of a0 x2 3 z h) (fun vo10 zo10 ho10h => bd3 (fX9_bits vo10 zo10 ho10h) (fun vo11 zo11 ho11h => bX9_isBefore_87  a0 x1 x2 s0 vo11 zo11 ho11h)))))))))))))
def fX9_isBefore  (a0 : Nat) (x1 : Int32) (x2 : Int32) (z : Nat) (h : AH) : Option (Int32 × Nat × AH) :=
  gd (kd h a0 = 10) (Option.bind (rv h a0 0) (fun b2 => gd (kd h b2 = 13) (gd (¬ ((18 : Int32) < 0 ∨ ln h b2 ≤ Int32.toNatClampNeg 18)) ((if (iv h b2 (Int32.toNatClampNeg 18)) = 0 then (bd3 (fX9_of a0 x1 1 z h) (fun vo12 zo12 ho12h => bX9_isBefore_43  a0 x1 x2 vo12 zo12 ho12h)) else (Option.bind (rv h a0 0) (fun b6 => gd (kd h b6 = 13) (gd (¬ ((18 : Int32) < 0 ∨ ln h b6 ≤ Int32.toNatClampNeg 18)) ((if (iv h b6 (Int32.toNatClampNeg 18)) = 1 then (bX9_isBefore_43  a0 x1 x2 0 z h) else (bd3 (fX9_of a0 x1 3 z h) (fun vo10 zo10 ho10h => bd3 (fX9_bits vo10 zo10 ho10h) (fun vo11 zo11 ho11h => bX9_isBefore_43  a0 x1 x2 vo11 zo11 ho11h)))))))))))))
theorem wbX9_isBefore_87 {g : JG} (hst : (jl g).stackTraces = false)   {a0 : Nat} {x1 : Int32} {x2 : Int32} {x3 : Int32} {s0 : Int32} {z : Nat} {h : AH} {o : Int32 × Nat × AH} (hf : bX9_isBefore_87  a0 x1 x2 x3 s0 z h = some o) : J g MX9_isBefore (jN g (some (.int o.1), o.2.1, o.2.2) rmX9_isBefore.cells rmX9_isBefore.slots) 87 [some (.ref a0), some (.int x1), some (.int x2), some (.int x3), none] [.int s0] z h 0 0 := by
  unfold bX9_isBefore_87 at hf
  refine S_istore_4 dX9_isBefore_87 rfl (by decide) ?_
  refine J_iload_n dX9_isBefore_89 rfl rfl ?_
  refine J_iload dX9_isBefore_90 rfl ?_
  rcases br hf with ⟨c1, hf⟩ | ⟨c1, hf⟩
  · refine J_icmp_lt (tgt := 116) dX9_isBefore_92 (by decide) (fun _ => ?_) (fun w => absurd c1 w)
    refine J_iconst (v := 1) dX9_isBefore_116 (by decide) ?_
    refine J_goto (tgt := 121) dX9_isBefore_117 (by decide) ?_
    cases hf
    exact J_zretN dX9_isBefore_121 rfl (Or.inr rfl) (by decide) (by decide)
  · refine J_icmp_lt (tgt := 116) dX9_isBefore_92 (by decide) (fun w => absurd w c1) (fun _ => ?_)
    refine J_iload_n dX9_isBefore_95 rfl rfl ?_
    refine J_iload dX9_isBefore_96 rfl ?_
    rcases br hf with ⟨c2, hf⟩ | ⟨c2, hf⟩
    · refine J_icmp_ne (tgt := 120) dX9_isBefore_98 (by decide) (fun w => absurd c2 w) (fun _ => ?_)
      refine J_aload_n dX9_isBefore_101 rfl rfl ?_
      refine J_iload_n dX9_isBefore_102 rfl rfl ?_
      refine J_iconst (v := 2) dX9_isBefore_103 (by decide) ?_
      obtain ⟨k3, hf⟩ := gds hf
      obtain ⟨vo4, zo4, ho4h, ho4, hf⟩ := rfs3 hf
      refine CV2i dX9_isBefore_104 (mX9_of hst ho4) tk_1023 iX9_of k3 (by decide) rfl ⟨by decide, by decide⟩ ⟨by decide, by decide⟩ (Nat.le_of_ble_eq_true rfl) ?_
      refine J_aload_n dX9_isBefore_107 rfl rfl ?_
      refine J_iload_n dX9_isBefore_108 rfl rfl ?_
      refine J_iconst (v := 2) dX9_isBefore_109 (by decide) ?_
      obtain ⟨k5, hf⟩ := gds hf
      obtain ⟨vo6, zo6, ho6h, ho6, hf⟩ := rfs3 hf
      refine CV2i dX9_isBefore_110 (mX9_of hst ho6) tk_1023 iX9_of k5 (by decide) rfl ⟨by decide, by decide⟩ ⟨by decide, by decide⟩ (Nat.le_of_ble_eq_true rfl) ?_
      rcases br hf with ⟨c7, hf⟩ | ⟨c7, hf⟩
      · refine J_icmp_le (tgt := 120) dX9_isBefore_113 (by decide) (fun _ => ?_) (fun w => absurd c7 w)
        refine J_iconst (v := 0) dX9_isBefore_120 (by decide) ?_
        cases hf
        exact J_zretN dX9_isBefore_121 rfl (Or.inl rfl) (by decide) (by decide)
      · refine J_icmp_le (tgt := 120) dX9_isBefore_113 (by decide) (fun w => absurd w c7) (fun _ => ?_)
        refine J_iconst (v := 1) dX9_isBefore_116 (by decide) ?_
        refine J_goto (tgt := 121) dX9_isBefore_117 (by decide) ?_
        cases hf
        exact J_zretN dX9_isBefore_121 rfl (Or.inr rfl) (by decide) (by decide)
    · refine J_icmp_ne (tgt := 120) dX9_isBefore_98 (by decide) (fun _ => ?_) (fun w => absurd w c2)
      refine J_iconst (v := 0) dX9_isBefore_120 (by decide) ?_
      cases hf
      exact J_zretN dX9_isBefore_121 rfl (Or.inl rfl) (by decide) (by decide)
theorem wbX9_isBefore_43 {g : JG} (hst : (jl g).stackTraces = false)   {a0 : Nat} {x1 : Int32} {x2 : Int32} {s0 : Int32} {z : Nat} {h : AH} {o : Int32 × Nat × AH} (hf : bX9_isBefore_43  a0 x1 x2 s0 z h = some o) : J g MX9_isBefore (jN g (some (.int o.1), o.2.1, o.2.2) rmX9_isBefore.cells rmX9_isBefore.slots) 43 [some (.ref a0), some (.int x1), some (.int x2), none, none] [.int s0] z h 0 0 := by
  unfold bX9_isBefore_43 at hf
  refine S_istore_n_3 dX9_isBefore_43 rfl (by decide) ?_
  refine J_aload_n dX9_isBefore_44 rfl rfl ?_
  obtain ⟨k1, hf⟩ := gds hf
  obtain ⟨b2, rb2, hf⟩ := rfs hf
  refine G_9_0 dX9_isBefore_45 tk_919 k1 rb2 ?_
  refine J_bipush (v := 18) dX9_isBefore_48 (by decide) ?_
  obtain ⟨k3, hf⟩ := gds hf
  obtain ⟨n4, hf⟩ := gds hf
  refine J_iaload dX9_isBefore_50 k3 n4 ?_
  rcases br hf with ⟨c5, hf⟩ | ⟨c5, hf⟩
  · refine J_if_ne (tgt := 63) dX9_isBefore_51 (by decide) (fun w => absurd c5 w) (fun _ => ?_)
    refine J_aload_n dX9_isBefore_54 rfl rfl ?_
    refine J_iload_n dX9_isBefore_55 rfl rfl ?_
    refine J_iconst (v := 1) dX9_isBefore_56 (by decide) ?_
    obtain ⟨vo12, zo12, ho12h, ho12, hf⟩ := rfs3 hf
    refine CV2i dX9_isBefore_57 (mX9_of hst ho12) tk_1023 iX9_of k1 (by decide) rfl ⟨by decide, by decide⟩ ⟨by decide, by decide⟩ (Nat.le_of_ble_eq_true rfl) ?_
    refine J_goto (tgt := 87) dX9_isBefore_60 (by decide) ?_
    refine J.sub (jsub_s (jsub_s (jsub_s (jsub_s (jsub_n (jsub_nil _)))))) ?_
    exact wbX9_isBefore_87 hst   hf
  · refine J_if_ne (tgt := 63) dX9_isBefore_51 (by decide) (fun _ => ?_) (fun w => absurd w c5)
    refine J_aload_n dX9_isBefore_63 rfl rfl ?_
    obtain ⟨b6, rb6, hf⟩ := rfs hf
    refine G_9_0 dX9_isBefore_64 tk_919 k1 rb6 ?_
    refine J_bipush (v := 18) dX9_isBefore_67 (by decide) ?_
    obtain ⟨k7, hf⟩ := gds hf
    obtain ⟨n8, hf⟩ := gds hf
    refine J_iaload dX9_isBefore_69 k7 n8 ?_
    refine J_iconst (v := 1) dX9_isBefore_70 (by decide) ?_
    rcases br hf with ⟨c9, hf⟩ | ⟨c9, hf⟩
    · refine J_icmp_ne (tgt := 78) dX9_isBefore_71 (by decide) (fun w => absurd c9 w) (fun _ => ?_)
      refine J_iconst (v := 0) dX9_isBefore_74 (by decide) ?_
      refine J_goto (tgt := 87) dX9_isBefore_75 (by decide) ?_
      refine J.sub (jsub_s (jsub_s (jsub_s (jsub_s (jsub_n (jsub_nil _)))))) ?_
      exact wbX9_isBefore_87 hst   hf
    · refine J_icmp_ne (tgt := 78) dX9_isBefore_71 (by decide) (fun _ => ?_) (fun w => absurd w c9)
      refine J_aload_n dX9_isBefore_78 rfl rfl ?_
      refine J_iload_n dX9_isBefore_79 rfl rfl ?_
      refine J_iconst (v := 3) dX9_isBefore_80 (by decide) ?_
      obtain ⟨vo10, zo10, ho10h, ho10, hf⟩ := rfs3 hf
      refine CV2i dX9_isBefore_81 (mX9_of hst ho10) tk_1023 iX9_of k1 (by decide) rfl ⟨by decide, by decide⟩ ⟨by decide, by decide⟩ (Nat.le_of_ble_eq_true rfl) ?_
      obtain ⟨vo11, zo11, ho11h, ho11, hf⟩ := rfs3 hf
      refine CS1i (host := "") dX9_isBefore_84 (mX9_bits hst ho11) tk_1123 iX9_bits ⟨by decide, by decide⟩ ⟨by decide, by decide⟩ (Nat.le_of_ble_eq_true rfl) ?_
      refine J.sub (jsub_s (jsub_s (jsub_s (jsub_s (jsub_n (jsub_nil _)))))) ?_
      exact wbX9_isBefore_87 hst   hf
theorem wfX9_isBefore {g : JG} (hst : (jl g).stackTraces = false)   {a0 : Nat} {x1 : Int32} {x2 : Int32} {z : Nat} {h : AH} {o : Int32 × Nat × AH} (hf : fX9_isBefore  a0 x1 x2 z h = some o) : J g MX9_isBefore (jN g (some (.int o.1), o.2.1, o.2.2) rmX9_isBefore.cells rmX9_isBefore.slots) 0 [some (.ref a0), some (.int x1), some (.int x2), none, none] [] z h 0 0 := by
  unfold fX9_isBefore at hf
  refine J_aload_n dX9_isBefore_0 rfl rfl ?_
  obtain ⟨k1, hf⟩ := gds hf
  obtain ⟨b2, rb2, hf⟩ := rfs hf
  refine G_9_0 dX9_isBefore_1 tk_919 k1 rb2 ?_
  refine J_bipush (v := 18) dX9_isBefore_4 (by decide) ?_
  obtain ⟨k3, hf⟩ := gds hf
  obtain ⟨n4, hf⟩ := gds hf
  refine J_iaload dX9_isBefore_6 k3 n4 ?_
  rcases br hf with ⟨c5, hf⟩ | ⟨c5, hf⟩
  · refine J_if_ne (tgt := 19) dX9_isBefore_7 (by decide) (fun w => absurd c5 w) (fun _ => ?_)
    refine J_aload_n dX9_isBefore_10 rfl rfl ?_
    refine J_iload_n dX9_isBefore_11 rfl rfl ?_
    refine J_iconst (v := 1) dX9_isBefore_12 (by decide) ?_
    obtain ⟨vo12, zo12, ho12h, ho12, hf⟩ := rfs3 hf
    refine CV2i dX9_isBefore_13 (mX9_of hst ho12) tk_1023 iX9_of k1 (by decide) rfl ⟨by decide, by decide⟩ ⟨by decide, by decide⟩ (Nat.le_of_ble_eq_true rfl) ?_
    refine J_goto (tgt := 43) dX9_isBefore_16 (by decide) ?_
    refine J.sub (jsub_s (jsub_s (jsub_s (jsub_n (jsub_n (jsub_nil _)))))) ?_
    exact wbX9_isBefore_43 hst   hf
  · refine J_if_ne (tgt := 19) dX9_isBefore_7 (by decide) (fun _ => ?_) (fun w => absurd w c5)
    refine J_aload_n dX9_isBefore_19 rfl rfl ?_
    obtain ⟨b6, rb6, hf⟩ := rfs hf
    refine G_9_0 dX9_isBefore_20 tk_919 k1 rb6 ?_
    refine J_bipush (v := 18) dX9_isBefore_23 (by decide) ?_
    obtain ⟨k7, hf⟩ := gds hf
    obtain ⟨n8, hf⟩ := gds hf
    refine J_iaload dX9_isBefore_25 k7 n8 ?_
    refine J_iconst (v := 1) dX9_isBefore_26 (by decide) ?_
    rcases br hf with ⟨c9, hf⟩ | ⟨c9, hf⟩
    · refine J_icmp_ne (tgt := 34) dX9_isBefore_27 (by decide) (fun w => absurd c9 w) (fun _ => ?_)
      refine J_iconst (v := 0) dX9_isBefore_30 (by decide) ?_
      refine J_goto (tgt := 43) dX9_isBefore_31 (by decide) ?_
      refine J.sub (jsub_s (jsub_s (jsub_s (jsub_n (jsub_n (jsub_nil _)))))) ?_
      exact wbX9_isBefore_43 hst   hf
    · refine J_icmp_ne (tgt := 34) dX9_isBefore_27 (by decide) (fun _ => ?_) (fun w => absurd w c9)
      refine J_aload_n dX9_isBefore_34 rfl rfl ?_
      refine J_iload_n dX9_isBefore_35 rfl rfl ?_
      refine J_iconst (v := 3) dX9_isBefore_36 (by decide) ?_
      obtain ⟨vo10, zo10, ho10h, ho10, hf⟩ := rfs3 hf
      refine CV2i dX9_isBefore_37 (mX9_of hst ho10) tk_1023 iX9_of k1 (by decide) rfl ⟨by decide, by decide⟩ ⟨by decide, by decide⟩ (Nat.le_of_ble_eq_true rfl) ?_
      obtain ⟨vo11, zo11, ho11h, ho11, hf⟩ := rfs3 hf
      refine CS1i (host := "") dX9_isBefore_40 (mX9_bits hst ho11) tk_1123 iX9_bits ⟨by decide, by decide⟩ ⟨by decide, by decide⟩ (Nat.le_of_ble_eq_true rfl) ?_
      refine J.sub (jsub_s (jsub_s (jsub_s (jsub_n (jsub_n (jsub_nil _)))))) ?_
      exact wbX9_isBefore_43 hst   hf
theorem mX9_isBefore {g : JG} (hst : (jl g).stackTraces = false) {a0 : Nat} {x1 : Int32} {x2 : Int32} {z : Nat} {h : AH} {o : Int32 × Nat × AH} (hf : fX9_isBefore a0 x1 x2 z h = some o) : jMet g yX9_isBefore (wj yX9_isBefore cX9_isBefore 5 (some .boolean)) rmX9_isBefore [.ref a0, .int x1, .int x2] z h (some (.int o.1), o.2.1, o.2.2) :=
  jMet_mk (by decide) (Nat.le_of_ble_eq_true rfl) [some (.ref a0), some (.int x1), some (.int x2), none, none] rfl (wfX9_isBefore hst hf)
def bX9_finds_93 (q37 : Nat → Int32 → Nat → AH → Option (Nat × AH)) (a0 : Nat) (x1 : Int32) (u0 : Nat) (s1 : Int32) (z : Nat) (h : AH) : Option (Nat × AH) :=
  gd (kd h u0 = 10) (bl (wI h u0 8 s1) (fun h2 => q37 a0 (x1 + 1) z h2))
def lX9_finds_37B  (q37 : Nat → Int32 → Nat → AH → Option (Nat × AH)) (a0 : Nat) (x1 : Int32) (z : Nat) (h : AH) : Option (Nat × AH) :=
  gd (kd h a0 = 10) ((if (iv h a0 12) ≤ x1 then (bd2 (fX9_aborts a0 (iv h a0 8) z h) (fun zo3 ho3h => some (zo3, ho3h))) else (Option.bind (rv h a0 11) (fun b4 => gd (kd h b4 = 13) (gd (¬ ((x1 : Int32) < 0 ∨ ln h b4 ≤ Int32.toNatClampNeg x1)) (bl (wI h a0 7 ((iv h a0 7) ||| (1 <<< ((iv h b4 (Int32.toNatClampNeg x1)) &&& 31)))) (fun h7 => Option.bind (rv h7 a0 11) (fun b9 => gd (kd h7 b9 = 13) (gd (¬ ((x1 : Int32) < 0 ∨ ln h7 b9 ≤ Int32.toNatClampNeg x1)) (bd3 (fX9_isBefore a0 (iv h7 b9 (Int32.toNatClampNeg x1)) (iv h7 a0 8) z h7) (fun vo12 zo12 ho12h => (if vo12 = 0 then (gd (kd ho12h a0 = 10) (bX9_finds_93 q37 a0 x1 a0 (iv ho12h a0 8) zo12 ho12h)) else (gd (kd ho12h a0 = 10) (Option.bind (rv ho12h a0 11) (fun b16 => gd (kd ho12h b16 = 13) (gd (¬ ((x1 : Int32) < 0 ∨ ln ho12h b16 ≤ Int32.toNatClampNeg x1)) (bX9_finds_93 q37 a0 x1 a0 (iv ho12h b16 (Int32.toNatClampNeg x1)) zo12 ho12h)))))))))))))))))
def lX9_finds_37  : Nat → Nat → Int32 → Nat → AH → Option (Nat × AH)
  | 0 => fun _ _ _ _ => none
  | fuel + 1 => lX9_finds_37B  (lX9_finds_37  fuel)
def fX9_finds  (a0 : Nat) (z : Nat) (h : AH) : Option (Nat × AH) :=
  gd (kd h a0 = 10) (Option.bind (rv h a0 3) (fun b2 => gd (kd h b2 = 13) (gd (¬ ((4 : Int32) < 0 ∨ ln h b2 ≤ Int32.toNatClampNeg 4)) (gd (¬ ((4 : Int32) < 0 ∨ ln h b2 ≤ Int32.toNatClampNeg 4)) (bl (wI h b2 (Int32.toNatClampNeg 4) ((iv h b2 (Int32.toNatClampNeg 4)) + 1)) (fun h6 => bl (wI h6 a0 7 0) (fun h8 => Option.bind (rv h8 a0 11) (fun b10 => gd (kd h8 b10 = 13) (gd (¬ ((0 : Int32) < 0 ∨ ln h8 b10 ≤ Int32.toNatClampNeg 0)) (bl (wI h8 a0 9 (iv h8 b10 (Int32.toNatClampNeg 0))) (fun h13 => Option.bind (rv h13 a0 11) (fun b15 => gd (kd h13 b15 = 13) (gd (¬ ((0 : Int32) < 0 ∨ ln h13 b15 ≤ Int32.toNatClampNeg 0)) (bl (wI h13 a0 8 (iv h13 b15 (Int32.toNatClampNeg 0))) (fun h18 => lX9_finds_37  fu a0 0 z h18)))))))))))))))
theorem wbX9_finds_93 {g : JG} (hst : (jl g).stackTraces = false) (q37 : Nat → Int32 → Nat → AH → Option (Nat × AH)) (hq37 : ∀ (a0 : Nat) (x1 : Int32) (z : Nat) (h : AH) (o : Nat × AH), q37 a0 x1 z h = some o → J g MX9_finds (jN g (none, o.1, o.2) rmX9_finds.cells rmX9_finds.slots) 37 [some (.ref a0), some (.int x1)] [] z h 0 0) {a0 : Nat} {x1 : Int32} {u0 : Nat} {s1 : Int32} {z : Nat} {h : AH} {o : Nat × AH} (hf : bX9_finds_93 q37 a0 x1 u0 s1 z h = some o) : J g MX9_finds (jN g (none, o.1, o.2) rmX9_finds.cells rmX9_finds.slots) 93 [some (.ref a0), some (.int x1)] [.int s1, .ref u0] z h 0 0 := by
  unfold bX9_finds_93 at hf
  obtain ⟨k1, hf⟩ := gds hf
  refine P_9_8 dX9_finds_93 tk_927 k1 ?_
  obtain ⟨h2, eh2, hf⟩ := bls hf
  refine J_h eh2 ?_
  refine S_iinc_1 (v := x1 + 1) dX9_finds_96 (congrArg (fun w => x1 + w) (by decide)) rfl (by decide) ?_
  refine J_goto (tgt := 37) dX9_finds_99 (by decide) ?_
  refine J.sub (jsub_s (jsub_s (jsub_nil _))) ?_
  exact hq37 _ _ _ _ _ hf
theorem wlX9_finds_37 {g : JG} (hst : (jl g).stackTraces = false)   : ∀ (fuel : Nat) (a0 : Nat) (x1 : Int32) (z : Nat) (h : AH) (o : Nat × AH), lX9_finds_37  fuel a0 x1 z h = some o → J g MX9_finds (jN g (none, o.1, o.2) rmX9_finds.cells rmX9_finds.slots) 37 [some (.ref a0), some (.int x1)] [] z h 0 0 := by
  intro fuel
  induction fuel with
  | zero => intro a0 x1 z h o hf; cases hf
  | succ fuel ih =>
    intro a0 x1 z h o hf
    have hq37 := ih
    have hf : lX9_finds_37B  (lX9_finds_37  fuel) a0 x1 z h = some o := hf
    generalize lX9_finds_37  fuel = q37 at hf hq37
    unfold lX9_finds_37B at hf
    refine J_iload_n dX9_finds_37 rfl rfl ?_
    refine J_aload_n dX9_finds_38 rfl rfl ?_
    obtain ⟨k1, hf⟩ := gds hf
    refine G_9_12 dX9_finds_39 tk_931 k1 ?_
    rcases br hf with ⟨c2, hf⟩ | ⟨c2, hf⟩
    · refine J_icmp_ge (tgt := 102) dX9_finds_42 (by decide) (fun _ => ?_) (fun w => absurd c2 w)
      refine J_aload_n dX9_finds_102 rfl rfl ?_
      refine J_aload_n dX9_finds_103 rfl rfl ?_
      refine G_9_8 dX9_finds_104 tk_927 k1 ?_
      obtain ⟨zo3, ho3h, ho3, hf⟩ := rfs2 hf
      refine CV1v dX9_finds_107 (mX9_aborts hst ho3) tk_1146 iX9_aborts k1 (by decide) rfl ⟨by decide, by decide⟩ ⟨by decide, by decide⟩ (Nat.le_of_ble_eq_true rfl) ?_
      cases hf
      exact J_vretN dX9_finds_110 rfl (by decide) (by decide)
    · refine J_icmp_ge (tgt := 102) dX9_finds_42 (by decide) (fun w => absurd w c2) (fun _ => ?_)
      refine J_aload_n dX9_finds_45 rfl rfl ?_
      refine J_dup dX9_finds_46 rfl ?_
      refine G_9_7 dX9_finds_47 tk_926 k1 ?_
      refine J_iconst (v := 1) dX9_finds_50 (by decide) ?_
      refine J_aload_n dX9_finds_51 rfl rfl ?_
      obtain ⟨b4, rb4, hf⟩ := rfs hf
      refine G_9_11 dX9_finds_52 tk_930 k1 rb4 ?_
      refine J_iload_n dX9_finds_55 rfl rfl ?_
      obtain ⟨k5, hf⟩ := gds hf
      obtain ⟨n6, hf⟩ := gds hf
      refine J_iaload dX9_finds_56 k5 n6 ?_
      refine J_ishl dX9_finds_57 ?_
      refine J_ior dX9_finds_58 ?_
      refine P_9_7 dX9_finds_59 tk_926 k1 ?_
      obtain ⟨h7, eh7, hf⟩ := bls hf
      refine J_h eh7 ?_
      refine J_aload_n dX9_finds_62 rfl rfl ?_
      refine J_aload_n dX9_finds_63 rfl rfl ?_
      refine J_aload_n dX9_finds_64 rfl rfl ?_
      have k8 : kd h7 a0 = 10 := by rw [eh7]; exact k1
      obtain ⟨b9, rb9, hf⟩ := rfs hf
      refine G_9_11 dX9_finds_65 tk_930 k8 rb9 ?_
      refine J_iload_n dX9_finds_68 rfl rfl ?_
      obtain ⟨k10, hf⟩ := gds hf
      obtain ⟨n11, hf⟩ := gds hf
      refine J_iaload dX9_finds_69 k10 n11 ?_
      refine J_aload_n dX9_finds_70 rfl rfl ?_
      refine G_9_8 dX9_finds_71 tk_927 k8 ?_
      obtain ⟨vo12, zo12, ho12h, ho12, hf⟩ := rfs3 hf
      refine CV2i dX9_finds_74 (mX9_isBefore hst ho12) tk_1234 iX9_isBefore k8 (by decide) rfl ⟨by decide, by decide⟩ ⟨by decide, by decide⟩ (Nat.le_of_ble_eq_true rfl) ?_
      rcases br hf with ⟨c13, hf⟩ | ⟨c13, hf⟩
      · refine J_if_eq (tgt := 89) dX9_finds_77 (by decide) (fun _ => ?_) (fun w => absurd c13 w)
        refine J_aload_n dX9_finds_89 rfl rfl ?_
        obtain ⟨k14, hf⟩ := gds hf
        refine G_9_8 dX9_finds_90 tk_927 k14 ?_
        refine J.sub (jsub_s (jsub_s (jsub_nil _))) ?_
        exact wbX9_finds_93 hst _ hq37 hf
      · refine J_if_eq (tgt := 89) dX9_finds_77 (by decide) (fun w => absurd w c13) (fun _ => ?_)
        refine J_aload_n dX9_finds_80 rfl rfl ?_
        obtain ⟨k15, hf⟩ := gds hf
        obtain ⟨b16, rb16, hf⟩ := rfs hf
        refine G_9_11 dX9_finds_81 tk_930 k15 rb16 ?_
        refine J_iload_n dX9_finds_84 rfl rfl ?_
        obtain ⟨k17, hf⟩ := gds hf
        obtain ⟨n18, hf⟩ := gds hf
        refine J_iaload dX9_finds_85 k17 n18 ?_
        refine J_goto (tgt := 93) dX9_finds_86 (by decide) ?_
        refine J.sub (jsub_s (jsub_s (jsub_nil _))) ?_
        exact wbX9_finds_93 hst _ hq37 hf
theorem wfX9_finds {g : JG} (hst : (jl g).stackTraces = false)   {a0 : Nat} {z : Nat} {h : AH} {o : Nat × AH} (hf : fX9_finds  a0 z h = some o) : J g MX9_finds (jN g (none, o.1, o.2) rmX9_finds.cells rmX9_finds.slots) 0 [some (.ref a0), none] [] z h 0 0 := by
  unfold fX9_finds at hf
  refine J_aload_n dX9_finds_0 rfl rfl ?_
  obtain ⟨k1, hf⟩ := gds hf
  obtain ⟨b2, rb2, hf⟩ := rfs hf
  refine G_9_3 dX9_finds_1 tk_922 k1 rb2 ?_
  refine J_iconst (v := 4) dX9_finds_4 (by decide) ?_
  refine J_dup2 dX9_finds_5 rfl rfl ?_
  obtain ⟨k3, hf⟩ := gds hf
  obtain ⟨n4, hf⟩ := gds hf
  refine J_iaload dX9_finds_6 k3 n4 ?_
  refine J_iconst (v := 1) dX9_finds_7 (by decide) ?_
  refine J_iadd dX9_finds_8 ?_
  obtain ⟨n5, hf⟩ := gds hf
  refine J_iastore dX9_finds_9 k3 n5 ?_
  obtain ⟨h6, eh6, hf⟩ := bls hf
  refine J_h eh6 ?_
  refine J_aload_n dX9_finds_10 rfl rfl ?_
  refine J_iconst (v := 0) dX9_finds_11 (by decide) ?_
  have k7 : kd h6 a0 = 10 := by rw [eh6]; exact k1
  refine P_9_7 dX9_finds_12 tk_926 k7 ?_
  obtain ⟨h8, eh8, hf⟩ := bls hf
  refine J_h eh8 ?_
  refine J_aload_n dX9_finds_15 rfl rfl ?_
  refine J_aload_n dX9_finds_16 rfl rfl ?_
  have k9 : kd h8 a0 = 10 := by rw [eh8]; exact k7
  obtain ⟨b10, rb10, hf⟩ := rfs hf
  refine G_9_11 dX9_finds_17 tk_930 k9 rb10 ?_
  refine J_iconst (v := 0) dX9_finds_20 (by decide) ?_
  obtain ⟨k11, hf⟩ := gds hf
  obtain ⟨n12, hf⟩ := gds hf
  refine J_iaload dX9_finds_21 k11 n12 ?_
  refine P_9_9 dX9_finds_22 tk_928 k9 ?_
  obtain ⟨h13, eh13, hf⟩ := bls hf
  refine J_h eh13 ?_
  refine J_aload_n dX9_finds_25 rfl rfl ?_
  refine J_aload_n dX9_finds_26 rfl rfl ?_
  have k14 : kd h13 a0 = 10 := by rw [eh13]; exact k9
  obtain ⟨b15, rb15, hf⟩ := rfs hf
  refine G_9_11 dX9_finds_27 tk_930 k14 rb15 ?_
  refine J_iconst (v := 0) dX9_finds_30 (by decide) ?_
  obtain ⟨k16, hf⟩ := gds hf
  obtain ⟨n17, hf⟩ := gds hf
  refine J_iaload dX9_finds_31 k16 n17 ?_
  refine P_9_8 dX9_finds_32 tk_927 k14 ?_
  obtain ⟨h18, eh18, hf⟩ := bls hf
  refine J_h eh18 ?_
  refine J_iconst (v := 0) dX9_finds_35 (by decide) ?_
  refine S_istore_n_1 dX9_finds_36 rfl (by decide) ?_
  refine J.sub (jsub_s (jsub_s (jsub_nil _))) ?_
  exact wlX9_finds_37 hst   _ _ _ _ _ _ hf
theorem mX9_finds {g : JG} (hst : (jl g).stackTraces = false) {a0 : Nat} {z : Nat} {h : AH} {o : Nat × AH} (hf : fX9_finds a0 z h = some o) : jMet g yX9_finds (wj yX9_finds cX9_finds 2 none) rmX9_finds [.ref a0] z h (none, o.1, o.2) :=
  jMet_mk (by decide) (Nat.le_of_ble_eq_true rfl) [some (.ref a0), none] rfl (wfX9_finds hst hf)
def bX9_isOnPath_31 (q4 : Nat → Int32 → Int32 → Int32 → Nat → AH → Option (Int32 × Nat × AH)) (a0 : Nat) (x1 : Int32) (x3 : Int32) (s0 : Int32) (z : Nat) (h : AH) : Option (Int32 × Nat × AH) :=
  q4 a0 x1 s0 (x3 + 1) z h
def bX9_isOnPath_26 (q4 : Nat → Int32 → Int32 → Int32 → Nat → AH → Option (Int32 × Nat × AH)) (a0 : Nat) (x1 : Int32) (x3 : Int32) (z : Nat) (h : AH) : Option (Int32 × Nat × AH) :=
  bX9_isOnPath_31 q4 a0 x1 x3 1 z h
def lX9_isOnPath_4B  (q4 : Nat → Int32 → Int32 → Int32 → Nat → AH → Option (Int32 × Nat × AH)) (a0 : Nat) (x1 : Int32) (x2 : Int32) (x3 : Int32) (z : Nat) (h : AH) : Option (Int32 × Nat × AH) :=
  gd (kd h a0 = 10) ((if (iv h a0 12) ≤ x3 then (gd (x2 = 0 ∨ x2 = 1) (some (x2, z, h))) else ((if x2 = 0 then (Option.bind (rv h a0 11) (fun b4 => gd (kd h b4 = 13) (gd (¬ ((x3 : Int32) < 0 ∨ ln h b4 ≤ Int32.toNatClampNeg x3)) ((if (iv h b4 (Int32.toNatClampNeg x3)) = x1 then (bX9_isOnPath_26 q4 a0 x1 x3 z h) else (bX9_isOnPath_31 q4 a0 x1 x3 0 z h)))))) else (bX9_isOnPath_26 q4 a0 x1 x3 z h)))))
def lX9_isOnPath_4  : Nat → Nat → Int32 → Int32 → Int32 → Nat → AH → Option (Int32 × Nat × AH)
  | 0 => fun _ _ _ _ _ _ => none
  | fuel + 1 => lX9_isOnPath_4B  (lX9_isOnPath_4  fuel)
def fX9_isOnPath  (a0 : Nat) (x1 : Int32) (z : Nat) (h : AH) : Option (Int32 × Nat × AH) :=
  lX9_isOnPath_4  fu a0 x1 0 0 z h
theorem wbX9_isOnPath_31 {g : JG} (hst : (jl g).stackTraces = false) (q4 : Nat → Int32 → Int32 → Int32 → Nat → AH → Option (Int32 × Nat × AH)) (hq4 : ∀ (a0 : Nat) (x1 : Int32) (x2 : Int32) (x3 : Int32) (z : Nat) (h : AH) (o : Int32 × Nat × AH), q4 a0 x1 x2 x3 z h = some o → J g MX9_isOnPath (jN g (some (.int o.1), o.2.1, o.2.2) rmX9_isOnPath.cells rmX9_isOnPath.slots) 4 [some (.ref a0), some (.int x1), some (.int x2), some (.int x3)] [] z h 0 0) {a0 : Nat} {x1 : Int32} {x3 : Int32} {s0 : Int32} {z : Nat} {h : AH} {o : Int32 × Nat × AH} (hf : bX9_isOnPath_31 q4 a0 x1 x3 s0 z h = some o) : J g MX9_isOnPath (jN g (some (.int o.1), o.2.1, o.2.2) rmX9_isOnPath.cells rmX9_isOnPath.slots) 31 [some (.ref a0), some (.int x1), none, some (.int x3)] [.int s0] z h 0 0 := by
  unfold bX9_isOnPath_31 at hf
  refine S_istore_n_2 dX9_isOnPath_31 rfl (by decide) ?_
  refine S_iinc_3 (v := x3 + 1) dX9_isOnPath_32 (congrArg (fun w => x3 + w) (by decide)) rfl (by decide) ?_
  refine J_goto (tgt := 4) dX9_isOnPath_35 (by decide) ?_
  refine J.sub (jsub_s (jsub_s (jsub_s (jsub_s (jsub_nil _))))) ?_
  exact hq4 _ _ _ _ _ _ _ hf
theorem wbX9_isOnPath_26 {g : JG} (hst : (jl g).stackTraces = false) (q4 : Nat → Int32 → Int32 → Int32 → Nat → AH → Option (Int32 × Nat × AH)) (hq4 : ∀ (a0 : Nat) (x1 : Int32) (x2 : Int32) (x3 : Int32) (z : Nat) (h : AH) (o : Int32 × Nat × AH), q4 a0 x1 x2 x3 z h = some o → J g MX9_isOnPath (jN g (some (.int o.1), o.2.1, o.2.2) rmX9_isOnPath.cells rmX9_isOnPath.slots) 4 [some (.ref a0), some (.int x1), some (.int x2), some (.int x3)] [] z h 0 0) {a0 : Nat} {x1 : Int32} {x3 : Int32} {z : Nat} {h : AH} {o : Int32 × Nat × AH} (hf : bX9_isOnPath_26 q4 a0 x1 x3 z h = some o) : J g MX9_isOnPath (jN g (some (.int o.1), o.2.1, o.2.2) rmX9_isOnPath.cells rmX9_isOnPath.slots) 26 [some (.ref a0), some (.int x1), none, some (.int x3)] [] z h 0 0 := by
  unfold bX9_isOnPath_26 at hf
  refine J_iconst (v := 1) dX9_isOnPath_26 (by decide) ?_
  refine J_goto (tgt := 31) dX9_isOnPath_27 (by decide) ?_
  refine J.sub (jsub_s (jsub_s (jsub_n (jsub_s (jsub_nil _))))) ?_
  exact wbX9_isOnPath_31 hst _ hq4 hf
theorem wlX9_isOnPath_4 {g : JG} (hst : (jl g).stackTraces = false)   : ∀ (fuel : Nat) (a0 : Nat) (x1 : Int32) (x2 : Int32) (x3 : Int32) (z : Nat) (h : AH) (o : Int32 × Nat × AH), lX9_isOnPath_4  fuel a0 x1 x2 x3 z h = some o → J g MX9_isOnPath (jN g (some (.int o.1), o.2.1, o.2.2) rmX9_isOnPath.cells rmX9_isOnPath.slots) 4 [some (.ref a0), some (.int x1), some (.int x2), some (.int x3)] [] z h 0 0 := by
  intro fuel
  induction fuel with
  | zero => intro a0 x1 x2 x3 z h o hf; cases hf
  | succ fuel ih =>
    intro a0 x1 x2 x3 z h o hf
    have hq4 := ih
    have hf : lX9_isOnPath_4B  (lX9_isOnPath_4  fuel) a0 x1 x2 x3 z h = some o := hf
    generalize lX9_isOnPath_4  fuel = q4 at hf hq4
    unfold lX9_isOnPath_4B at hf
    refine J_iload_n dX9_isOnPath_4 rfl rfl ?_
    refine J_aload_n dX9_isOnPath_5 rfl rfl ?_
    obtain ⟨k1, hf⟩ := gds hf
    refine G_9_12 dX9_isOnPath_6 tk_931 k1 ?_
    rcases br hf with ⟨c2, hf⟩ | ⟨c2, hf⟩
    · refine J_icmp_ge (tgt := 38) dX9_isOnPath_9 (by decide) (fun _ => ?_) (fun w => absurd c2 w)
      refine J_iload_n dX9_isOnPath_38 rfl rfl ?_
      obtain ⟨z9, hf⟩ := gds hf
      cases hf
      exact J_zretN dX9_isOnPath_39 rfl z9 (by decide) (by decide)
    · refine J_icmp_ge (tgt := 38) dX9_isOnPath_9 (by decide) (fun w => absurd w c2) (fun _ => ?_)
      refine J_iload_n dX9_isOnPath_12 rfl rfl ?_
      rcases br hf with ⟨c3, hf⟩ | ⟨c3, hf⟩
      · refine J_if_ne (tgt := 26) dX9_isOnPath_13 (by decide) (fun w => absurd c3 w) (fun _ => ?_)
        refine J_aload_n dX9_isOnPath_16 rfl rfl ?_
        obtain ⟨b4, rb4, hf⟩ := rfs hf
        refine G_9_11 dX9_isOnPath_17 tk_930 k1 rb4 ?_
        refine J_iload_n dX9_isOnPath_20 rfl rfl ?_
        obtain ⟨k5, hf⟩ := gds hf
        obtain ⟨n6, hf⟩ := gds hf
        refine J_iaload dX9_isOnPath_21 k5 n6 ?_
        refine J_iload_n dX9_isOnPath_22 rfl rfl ?_
        rcases br hf with ⟨c7, hf⟩ | ⟨c7, hf⟩
        · refine J_icmp_ne (tgt := 30) dX9_isOnPath_23 (by decide) (fun w => absurd c7 w) (fun _ => ?_)
          refine J.sub (jsub_s (jsub_s (jsub_n (jsub_s (jsub_nil _))))) ?_
          exact wbX9_isOnPath_26 hst _ hq4 hf
        · refine J_icmp_ne (tgt := 30) dX9_isOnPath_23 (by decide) (fun _ => ?_) (fun w => absurd w c7)
          refine J_iconst (v := 0) dX9_isOnPath_30 (by decide) ?_
          refine J.sub (jsub_s (jsub_s (jsub_n (jsub_s (jsub_nil _))))) ?_
          exact wbX9_isOnPath_31 hst _ hq4 hf
      · refine J_if_ne (tgt := 26) dX9_isOnPath_13 (by decide) (fun _ => ?_) (fun w => absurd w c3)
        refine J.sub (jsub_s (jsub_s (jsub_n (jsub_s (jsub_nil _))))) ?_
        exact wbX9_isOnPath_26 hst _ hq4 hf
theorem wfX9_isOnPath {g : JG} (hst : (jl g).stackTraces = false)   {a0 : Nat} {x1 : Int32} {z : Nat} {h : AH} {o : Int32 × Nat × AH} (hf : fX9_isOnPath  a0 x1 z h = some o) : J g MX9_isOnPath (jN g (some (.int o.1), o.2.1, o.2.2) rmX9_isOnPath.cells rmX9_isOnPath.slots) 0 [some (.ref a0), some (.int x1), none, none] [] z h 0 0 := by
  unfold fX9_isOnPath at hf
  refine J_iconst (v := 0) dX9_isOnPath_0 (by decide) ?_
  refine S_istore_n_2 dX9_isOnPath_1 rfl (by decide) ?_
  refine J_iconst (v := 0) dX9_isOnPath_2 (by decide) ?_
  refine S_istore_n_3 dX9_isOnPath_3 rfl (by decide) ?_
  refine J.sub (jsub_s (jsub_s (jsub_s (jsub_s (jsub_nil _))))) ?_
  exact wlX9_isOnPath_4 hst   _ _ _ _ _ _ _ _ hf
theorem mX9_isOnPath {g : JG} (hst : (jl g).stackTraces = false) {a0 : Nat} {x1 : Int32} {z : Nat} {h : AH} {o : Int32 × Nat × AH} (hf : fX9_isOnPath a0 x1 z h = some o) : jMet g yX9_isOnPath (wj yX9_isOnPath cX9_isOnPath 4 (some .boolean)) rmX9_isOnPath [.ref a0, .int x1] z h (some (.int o.1), o.2.1, o.2.2) :=
  jMet_mk (by decide) (Nat.le_of_ble_eq_true rfl) [some (.ref a0), some (.int x1), none, none] rfl (wfX9_isOnPath hst hf)
def bX9_lays_99 (q62 : Nat → Int32 → Int32 → Nat → AH → Option (Nat × AH)) (a0 : Nat) (x2 : Int32) (x3 : Int32) (u0 : Nat) (s1 : Int32) (s2 : Int32) (s3 : Int32) (z : Nat) (h : AH) : Option (Nat × AH) :=
  gd (kd h u0 = 13) (gd (¬ ((s1 : Int32) < 0 ∨ ln h u0 ≤ Int32.toNatClampNeg s1)) (bl (wI h u0 (Int32.toNatClampNeg s1) (s2 ||| s3)) (fun h3 => q62 a0 x2 (x3 + 1) z h3)))
def lX9_lays_62B (q54 : Nat → Int32 → Nat → AH → Option (Nat × AH)) (q62 : Nat → Int32 → Int32 → Nat → AH → Option (Nat × AH)) (a0 : Nat) (x2 : Int32) (x3 : Int32) (z : Nat) (h : AH) : Option (Nat × AH) :=
  (if 10 ≤ x3 then (q54 a0 (x2 + 1) z h) else (gd (kd h a0 = 10) (Option.bind (rv h a0 14) (fun b3 => gd (kd h b3 = 13) (gd (¬ ((x3 : Int32) < 0 ∨ ln h b3 ≤ Int32.toNatClampNeg x3)) (Option.bind (rv h a0 14) (fun b6 => gd (kd h b6 = 13) (gd (¬ ((x3 : Int32) < 0 ∨ ln h b6 ≤ Int32.toNatClampNeg x3)) ((if (((iv h b6 (Int32.toNatClampNeg x3)) >>> (x2 &&& 31)) &&& 1) = 1 then (Option.bind (rv h a0 14) (fun b10 => gd (kd h b10 = 13) (gd (¬ ((x2 : Int32) < 0 ∨ ln h b10 ≤ Int32.toNatClampNeg x2)) (bX9_lays_99 q62 a0 x2 x3 b3 x3 (iv h b3 (Int32.toNatClampNeg x3)) (iv h b10 (Int32.toNatClampNeg x2)) z h)))) else (bX9_lays_99 q62 a0 x2 x3 b3 x3 (iv h b3 (Int32.toNatClampNeg x3)) 0 z h)))))))))))
def lX9_lays_62 (q54 : Nat → Int32 → Nat → AH → Option (Nat × AH)) : Nat → Nat → Int32 → Int32 → Nat → AH → Option (Nat × AH)
  | 0 => fun _ _ _ _ _ => none
  | fuel + 1 => lX9_lays_62B q54 (lX9_lays_62 q54 fuel)
def lX9_lays_54B  (q54 : Nat → Int32 → Nat → AH → Option (Nat × AH)) (a0 : Nat) (x2 : Int32) (z : Nat) (h : AH) : Option (Nat × AH) :=
  (if 10 ≤ x2 then (some (z, h)) else (lX9_lays_62 q54 fu a0 x2 0 z h))
def lX9_lays_54  : Nat → Nat → Int32 → Nat → AH → Option (Nat × AH)
  | 0 => fun _ _ _ _ => none
  | fuel + 1 => lX9_lays_54B  (lX9_lays_54  fuel)
def bX9_lays_33 (q2 : Nat → Int32 → Int32 → Nat → AH → Option (Nat × AH)) (a0 : Nat) (x1 : Int32) (x2 : Int32) (u0 : Nat) (s1 : Int32) (s2 : Int32) (z : Nat) (h : AH) : Option (Nat × AH) :=
  gd (kd h u0 = 13) (gd (¬ ((s1 : Int32) < 0 ∨ ln h u0 ≤ Int32.toNatClampNeg s1)) (bl (wI h u0 (Int32.toNatClampNeg s1) s2) (fun h3 => gd (kd h3 a0 = 10) (Option.bind (rv h3 a0 14) (fun b5 => Option.bind (rv h3 a0 13) (fun b6 => gd (kd h3 b6 = 13) (gd (¬ ((x2 : Int32) < 0 ∨ ln h3 b6 ≤ Int32.toNatClampNeg x2)) (gd (kd h3 b5 = 13) (gd (¬ ((x2 : Int32) < 0 ∨ ln h3 b5 ≤ Int32.toNatClampNeg x2)) (bl (wI h3 b5 (Int32.toNatClampNeg x2) (iv h3 b6 (Int32.toNatClampNeg x2))) (fun h11 => q2 a0 x1 (x2 + 1) z h11)))))))))))
def lX9_lays_2B  (q2 : Nat → Int32 → Int32 → Nat → AH → Option (Nat × AH)) (a0 : Nat) (x1 : Int32) (x2 : Int32) (z : Nat) (h : AH) : Option (Nat × AH) :=
  (if 10 ≤ x2 then (lX9_lays_54  fu a0 0 z h) else (gd (kd h a0 = 10) (Option.bind (rv h a0 13) (fun b3 => (if ((x1 >>> (x2 &&& 31)) &&& 1) = 1 then (bd3 (fX9_waitsFor a0 x2 z h) (fun vo5 zo5 ho5h => bX9_lays_33 q2 a0 x1 x2 b3 x2 (vo5 &&& x1) zo5 ho5h)) else (bX9_lays_33 q2 a0 x1 x2 b3 x2 0 z h))))))
def lX9_lays_2  : Nat → Nat → Int32 → Int32 → Nat → AH → Option (Nat × AH)
  | 0 => fun _ _ _ _ _ => none
  | fuel + 1 => lX9_lays_2B  (lX9_lays_2  fuel)
def fX9_lays  (a0 : Nat) (x1 : Int32) (z : Nat) (h : AH) : Option (Nat × AH) :=
  lX9_lays_2  fu a0 x1 0 z h
theorem wbX9_lays_99 {g : JG} (hst : (jl g).stackTraces = false) (q62 : Nat → Int32 → Int32 → Nat → AH → Option (Nat × AH)) (hq62 : ∀ (a0 : Nat) (x2 : Int32) (x3 : Int32) (z : Nat) (h : AH) (o : Nat × AH), q62 a0 x2 x3 z h = some o → J g MX9_lays (jN g (none, o.1, o.2) rmX9_lays.cells rmX9_lays.slots) 62 [some (.ref a0), none, some (.int x2), some (.int x3)] [] z h 0 0) {a0 : Nat} {x2 : Int32} {x3 : Int32} {u0 : Nat} {s1 : Int32} {s2 : Int32} {s3 : Int32} {z : Nat} {h : AH} {o : Nat × AH} (hf : bX9_lays_99 q62 a0 x2 x3 u0 s1 s2 s3 z h = some o) : J g MX9_lays (jN g (none, o.1, o.2) rmX9_lays.cells rmX9_lays.slots) 99 [some (.ref a0), none, some (.int x2), some (.int x3)] [.int s3, .int s2, .int s1, .ref u0] z h 0 0 := by
  unfold bX9_lays_99 at hf
  refine J_ior dX9_lays_99 ?_
  obtain ⟨k1, hf⟩ := gds hf
  obtain ⟨n2, hf⟩ := gds hf
  refine J_iastore dX9_lays_100 k1 n2 ?_
  obtain ⟨h3, eh3, hf⟩ := bls hf
  refine J_h eh3 ?_
  refine S_iinc_3 (v := x3 + 1) dX9_lays_101 (congrArg (fun w => x3 + w) (by decide)) rfl (by decide) ?_
  refine J_goto (tgt := 62) dX9_lays_104 (by decide) ?_
  refine J.sub (jsub_s (jsub_n (jsub_s (jsub_s (jsub_nil _))))) ?_
  exact hq62 _ _ _ _ _ _ hf
theorem wlX9_lays_62 {g : JG} (hst : (jl g).stackTraces = false) (q54 : Nat → Int32 → Nat → AH → Option (Nat × AH)) (hq54 : ∀ (a0 : Nat) (x2 : Int32) (z : Nat) (h : AH) (o : Nat × AH), q54 a0 x2 z h = some o → J g MX9_lays (jN g (none, o.1, o.2) rmX9_lays.cells rmX9_lays.slots) 54 [some (.ref a0), none, some (.int x2), none] [] z h 0 0) : ∀ (fuel : Nat) (a0 : Nat) (x2 : Int32) (x3 : Int32) (z : Nat) (h : AH) (o : Nat × AH), lX9_lays_62 q54 fuel a0 x2 x3 z h = some o → J g MX9_lays (jN g (none, o.1, o.2) rmX9_lays.cells rmX9_lays.slots) 62 [some (.ref a0), none, some (.int x2), some (.int x3)] [] z h 0 0 := by
  intro fuel
  induction fuel with
  | zero => intro a0 x2 x3 z h o hf; cases hf
  | succ fuel ih =>
    intro a0 x2 x3 z h o hf
    have hq62 := ih
    have hf : lX9_lays_62B q54 (lX9_lays_62 q54 fuel) a0 x2 x3 z h = some o := hf
    generalize lX9_lays_62 q54 fuel = q62 at hf hq62
    unfold lX9_lays_62B at hf
    refine J_iload_n dX9_lays_62 rfl rfl ?_
    refine J_bipush (v := 10) dX9_lays_63 (by decide) ?_
    rcases br hf with ⟨c1, hf⟩ | ⟨c1, hf⟩
    · refine J_icmp_ge (tgt := 107) dX9_lays_65 (by decide) (fun _ => ?_) (fun w => absurd c1 w)
      refine S_iinc_2 (v := x2 + 1) dX9_lays_107 (congrArg (fun w => x2 + w) (by decide)) rfl (by decide) ?_
      refine J_goto (tgt := 54) dX9_lays_110 (by decide) ?_
      refine J.sub (jsub_s (jsub_n (jsub_s (jsub_n (jsub_nil _))))) ?_
      exact hq54 _ _ _ _ _ hf
    · refine J_icmp_ge (tgt := 107) dX9_lays_65 (by decide) (fun w => absurd w c1) (fun _ => ?_)
      refine J_aload_n dX9_lays_68 rfl rfl ?_
      obtain ⟨k2, hf⟩ := gds hf
      obtain ⟨b3, rb3, hf⟩ := rfs hf
      refine G_9_14 dX9_lays_69 tk_933 k2 rb3 ?_
      refine J_iload_n dX9_lays_72 rfl rfl ?_
      refine J_dup2 dX9_lays_73 rfl rfl ?_
      obtain ⟨k4, hf⟩ := gds hf
      obtain ⟨n5, hf⟩ := gds hf
      refine J_iaload dX9_lays_74 k4 n5 ?_
      refine J_aload_n dX9_lays_75 rfl rfl ?_
      obtain ⟨b6, rb6, hf⟩ := rfs hf
      refine G_9_14 dX9_lays_76 tk_933 k2 rb6 ?_
      refine J_iload_n dX9_lays_79 rfl rfl ?_
      obtain ⟨k7, hf⟩ := gds hf
      obtain ⟨n8, hf⟩ := gds hf
      refine J_iaload dX9_lays_80 k7 n8 ?_
      refine J_iload_n dX9_lays_81 rfl rfl ?_
      refine J_ishr dX9_lays_82 ?_
      refine J_iconst (v := 1) dX9_lays_83 (by decide) ?_
      refine J_iand dX9_lays_84 ?_
      refine J_iconst (v := 1) dX9_lays_85 (by decide) ?_
      rcases br hf with ⟨c9, hf⟩ | ⟨c9, hf⟩
      · refine J_icmp_ne (tgt := 98) dX9_lays_86 (by decide) (fun w => absurd c9 w) (fun _ => ?_)
        refine J_aload_n dX9_lays_89 rfl rfl ?_
        obtain ⟨b10, rb10, hf⟩ := rfs hf
        refine G_9_14 dX9_lays_90 tk_933 k2 rb10 ?_
        refine J_iload_n dX9_lays_93 rfl rfl ?_
        obtain ⟨k11, hf⟩ := gds hf
        obtain ⟨n12, hf⟩ := gds hf
        refine J_iaload dX9_lays_94 k11 n12 ?_
        refine J_goto (tgt := 99) dX9_lays_95 (by decide) ?_
        refine J.sub (jsub_s (jsub_n (jsub_s (jsub_s (jsub_nil _))))) ?_
        exact wbX9_lays_99 hst _ hq62 hf
      · refine J_icmp_ne (tgt := 98) dX9_lays_86 (by decide) (fun _ => ?_) (fun w => absurd w c9)
        refine J_iconst (v := 0) dX9_lays_98 (by decide) ?_
        refine J.sub (jsub_s (jsub_n (jsub_s (jsub_s (jsub_nil _))))) ?_
        exact wbX9_lays_99 hst _ hq62 hf
theorem wlX9_lays_54 {g : JG} (hst : (jl g).stackTraces = false)   : ∀ (fuel : Nat) (a0 : Nat) (x2 : Int32) (z : Nat) (h : AH) (o : Nat × AH), lX9_lays_54  fuel a0 x2 z h = some o → J g MX9_lays (jN g (none, o.1, o.2) rmX9_lays.cells rmX9_lays.slots) 54 [some (.ref a0), none, some (.int x2), none] [] z h 0 0 := by
  intro fuel
  induction fuel with
  | zero => intro a0 x2 z h o hf; cases hf
  | succ fuel ih =>
    intro a0 x2 z h o hf
    have hq54 := ih
    have hf : lX9_lays_54B  (lX9_lays_54  fuel) a0 x2 z h = some o := hf
    generalize lX9_lays_54  fuel = q54 at hf hq54
    unfold lX9_lays_54B at hf
    refine J_iload_n dX9_lays_54 rfl rfl ?_
    refine J_bipush (v := 10) dX9_lays_55 (by decide) ?_
    rcases br hf with ⟨c1, hf⟩ | ⟨c1, hf⟩
    · refine J_icmp_ge (tgt := 113) dX9_lays_57 (by decide) (fun _ => ?_) (fun w => absurd c1 w)
      cases hf
      exact J_vretN dX9_lays_113 rfl (by decide) (by decide)
    · refine J_icmp_ge (tgt := 113) dX9_lays_57 (by decide) (fun w => absurd w c1) (fun _ => ?_)
      refine J_iconst (v := 0) dX9_lays_60 (by decide) ?_
      refine S_istore_n_3 dX9_lays_61 rfl (by decide) ?_
      refine J.sub (jsub_s (jsub_n (jsub_s (jsub_s (jsub_nil _))))) ?_
      exact wlX9_lays_62 hst _ hq54 _ _ _ _ _ _ _ hf
theorem wbX9_lays_33 {g : JG} (hst : (jl g).stackTraces = false) (q2 : Nat → Int32 → Int32 → Nat → AH → Option (Nat × AH)) (hq2 : ∀ (a0 : Nat) (x1 : Int32) (x2 : Int32) (z : Nat) (h : AH) (o : Nat × AH), q2 a0 x1 x2 z h = some o → J g MX9_lays (jN g (none, o.1, o.2) rmX9_lays.cells rmX9_lays.slots) 2 [some (.ref a0), some (.int x1), some (.int x2), none] [] z h 0 0) {a0 : Nat} {x1 : Int32} {x2 : Int32} {u0 : Nat} {s1 : Int32} {s2 : Int32} {z : Nat} {h : AH} {o : Nat × AH} (hf : bX9_lays_33 q2 a0 x1 x2 u0 s1 s2 z h = some o) : J g MX9_lays (jN g (none, o.1, o.2) rmX9_lays.cells rmX9_lays.slots) 33 [some (.ref a0), some (.int x1), some (.int x2), none] [.int s2, .int s1, .ref u0] z h 0 0 := by
  unfold bX9_lays_33 at hf
  obtain ⟨k1, hf⟩ := gds hf
  obtain ⟨n2, hf⟩ := gds hf
  refine J_iastore dX9_lays_33 k1 n2 ?_
  obtain ⟨h3, eh3, hf⟩ := bls hf
  refine J_h eh3 ?_
  refine J_aload_n dX9_lays_34 rfl rfl ?_
  obtain ⟨k4, hf⟩ := gds hf
  obtain ⟨b5, rb5, hf⟩ := rfs hf
  refine G_9_14 dX9_lays_35 tk_933 k4 rb5 ?_
  refine J_iload_n dX9_lays_38 rfl rfl ?_
  refine J_aload_n dX9_lays_39 rfl rfl ?_
  obtain ⟨b6, rb6, hf⟩ := rfs hf
  refine G_9_13 dX9_lays_40 tk_932 k4 rb6 ?_
  refine J_iload_n dX9_lays_43 rfl rfl ?_
  obtain ⟨k7, hf⟩ := gds hf
  obtain ⟨n8, hf⟩ := gds hf
  refine J_iaload dX9_lays_44 k7 n8 ?_
  obtain ⟨k9, hf⟩ := gds hf
  obtain ⟨n10, hf⟩ := gds hf
  refine J_iastore dX9_lays_45 k9 n10 ?_
  obtain ⟨h11, eh11, hf⟩ := bls hf
  refine J_h eh11 ?_
  refine S_iinc_2 (v := x2 + 1) dX9_lays_46 (congrArg (fun w => x2 + w) (by decide)) rfl (by decide) ?_
  refine J_goto (tgt := 2) dX9_lays_49 (by decide) ?_
  refine J.sub (jsub_s (jsub_s (jsub_s (jsub_n (jsub_nil _))))) ?_
  exact hq2 _ _ _ _ _ _ hf
theorem wlX9_lays_2 {g : JG} (hst : (jl g).stackTraces = false)   : ∀ (fuel : Nat) (a0 : Nat) (x1 : Int32) (x2 : Int32) (z : Nat) (h : AH) (o : Nat × AH), lX9_lays_2  fuel a0 x1 x2 z h = some o → J g MX9_lays (jN g (none, o.1, o.2) rmX9_lays.cells rmX9_lays.slots) 2 [some (.ref a0), some (.int x1), some (.int x2), none] [] z h 0 0 := by
  intro fuel
  induction fuel with
  | zero => intro a0 x1 x2 z h o hf; cases hf
  | succ fuel ih =>
    intro a0 x1 x2 z h o hf
    have hq2 := ih
    have hf : lX9_lays_2B  (lX9_lays_2  fuel) a0 x1 x2 z h = some o := hf
    generalize lX9_lays_2  fuel = q2 at hf hq2
    unfold lX9_lays_2B at hf
    refine J_iload_n dX9_lays_2 rfl rfl ?_
    refine J_bipush (v := 10) dX9_lays_3 (by decide) ?_
    rcases br hf with ⟨c1, hf⟩ | ⟨c1, hf⟩
    · refine J_icmp_ge (tgt := 52) dX9_lays_5 (by decide) (fun _ => ?_) (fun w => absurd c1 w)
      refine J_iconst (v := 0) dX9_lays_52 (by decide) ?_
      refine S_istore_n_2 dX9_lays_53 rfl (by decide) ?_
      refine J.sub (jsub_s (jsub_n (jsub_s (jsub_n (jsub_nil _))))) ?_
      exact wlX9_lays_54 hst   _ _ _ _ _ _ hf
    · refine J_icmp_ge (tgt := 52) dX9_lays_5 (by decide) (fun w => absurd w c1) (fun _ => ?_)
      refine J_aload_n dX9_lays_8 rfl rfl ?_
      obtain ⟨k2, hf⟩ := gds hf
      obtain ⟨b3, rb3, hf⟩ := rfs hf
      refine G_9_13 dX9_lays_9 tk_932 k2 rb3 ?_
      refine J_iload_n dX9_lays_12 rfl rfl ?_
      refine J_iload_n dX9_lays_13 rfl rfl ?_
      refine J_iload_n dX9_lays_14 rfl rfl ?_
      refine J_ishr dX9_lays_15 ?_
      refine J_iconst (v := 1) dX9_lays_16 (by decide) ?_
      refine J_iand dX9_lays_17 ?_
      refine J_iconst (v := 1) dX9_lays_18 (by decide) ?_
      rcases br hf with ⟨c4, hf⟩ | ⟨c4, hf⟩
      · refine J_icmp_ne (tgt := 32) dX9_lays_19 (by decide) (fun w => absurd c4 w) (fun _ => ?_)
        refine J_aload_n dX9_lays_22 rfl rfl ?_
        refine J_iload_n dX9_lays_23 rfl rfl ?_
        obtain ⟨vo5, zo5, ho5h, ho5, hf⟩ := rfs3 hf
        refine CV1i dX9_lays_24 (mX9_waitsFor hst ho5) tk_1099 iX9_waitsFor k2 (by decide) rfl ⟨by decide, by decide⟩ ⟨by decide, by decide⟩ (Nat.le_of_ble_eq_true rfl) ?_
        refine J_iload_n dX9_lays_27 rfl rfl ?_
        refine J_iand dX9_lays_28 ?_
        refine J_goto (tgt := 33) dX9_lays_29 (by decide) ?_
        refine J.sub (jsub_s (jsub_s (jsub_s (jsub_n (jsub_nil _))))) ?_
        exact wbX9_lays_33 hst _ hq2 hf
      · refine J_icmp_ne (tgt := 32) dX9_lays_19 (by decide) (fun _ => ?_) (fun w => absurd w c4)
        refine J_iconst (v := 0) dX9_lays_32 (by decide) ?_
        refine J.sub (jsub_s (jsub_s (jsub_s (jsub_n (jsub_nil _))))) ?_
        exact wbX9_lays_33 hst _ hq2 hf
theorem wfX9_lays {g : JG} (hst : (jl g).stackTraces = false)   {a0 : Nat} {x1 : Int32} {z : Nat} {h : AH} {o : Nat × AH} (hf : fX9_lays  a0 x1 z h = some o) : J g MX9_lays (jN g (none, o.1, o.2) rmX9_lays.cells rmX9_lays.slots) 0 [some (.ref a0), some (.int x1), none, none] [] z h 0 0 := by
  unfold fX9_lays at hf
  refine J_iconst (v := 0) dX9_lays_0 (by decide) ?_
  refine S_istore_n_2 dX9_lays_1 rfl (by decide) ?_
  refine J.sub (jsub_s (jsub_s (jsub_s (jsub_n (jsub_nil _))))) ?_
  exact wlX9_lays_2 hst   _ _ _ _ _ _ _ hf
theorem mX9_lays {g : JG} (hst : (jl g).stackTraces = false) {a0 : Nat} {x1 : Int32} {z : Nat} {h : AH} {o : Nat × AH} (hf : fX9_lays a0 x1 z h = some o) : jMet g yX9_lays (wj yX9_lays cX9_lays 4 none) rmX9_lays [.ref a0, .int x1] z h (none, o.1, o.2) :=
  jMet_mk (by decide) (Nat.le_of_ble_eq_true rfl) [some (.ref a0), some (.int x1), none, none] rfl (wfX9_lays hst hf)
def lX9_cyclic_9B  (q9 : Nat → Int32 → Int32 → Nat → AH → Option (Int32 × Nat × AH)) (a0 : Nat) (x2 : Int32) (x3 : Int32) (z : Nat) (h : AH) : Option (Int32 × Nat × AH) :=
  (if 10 ≤ x3 then (some (x2, z, h)) else (gd (kd h a0 = 10) (Option.bind (rv h a0 14) (fun b3 => gd (kd h b3 = 13) (gd (¬ ((x3 : Int32) < 0 ∨ ln h b3 ≤ Int32.toNatClampNeg x3)) (bl ((x2 ||| ((iv h b3 (Int32.toNatClampNeg x3)) &&& (1 <<< (x3 &&& 31))))) (fun v6 => q9 a0 v6 (x3 + 1) z h)))))))
def lX9_cyclic_9  : Nat → Nat → Int32 → Int32 → Nat → AH → Option (Int32 × Nat × AH)
  | 0 => fun _ _ _ _ _ => none
  | fuel + 1 => lX9_cyclic_9B  (lX9_cyclic_9  fuel)
def fX9_cyclic  (a0 : Nat) (x1 : Int32) (z : Nat) (h : AH) : Option (Int32 × Nat × AH) :=
  gd (kd h a0 = 10) (bd2 (fX9_lays a0 x1 z h) (fun zo2 ho2h => lX9_cyclic_9  fu a0 0 0 zo2 ho2h))
theorem wlX9_cyclic_9 {g : JG} (hst : (jl g).stackTraces = false)   : ∀ (fuel : Nat) (a0 : Nat) (x2 : Int32) (x3 : Int32) (z : Nat) (h : AH) (o : Int32 × Nat × AH), lX9_cyclic_9  fuel a0 x2 x3 z h = some o → J g MX9_cyclic (jN g (some (.int o.1), o.2.1, o.2.2) rmX9_cyclic.cells rmX9_cyclic.slots) 9 [some (.ref a0), none, some (.int x2), some (.int x3)] [] z h 0 0 := by
  intro fuel
  induction fuel with
  | zero => intro a0 x2 x3 z h o hf; cases hf
  | succ fuel ih =>
    intro a0 x2 x3 z h o hf
    have hq9 := ih
    have hf : lX9_cyclic_9B  (lX9_cyclic_9  fuel) a0 x2 x3 z h = some o := hf
    generalize lX9_cyclic_9  fuel = q9 at hf hq9
    unfold lX9_cyclic_9B at hf
    refine J_iload_n dX9_cyclic_9 rfl rfl ?_
    refine J_bipush (v := 10) dX9_cyclic_10 (by decide) ?_
    rcases br hf with ⟨c1, hf⟩ | ⟨c1, hf⟩
    · refine J_icmp_ge (tgt := 34) dX9_cyclic_12 (by decide) (fun _ => ?_) (fun w => absurd c1 w)
      refine J_iload_n dX9_cyclic_34 rfl rfl ?_
      cases hf
      exact J_iretN dX9_cyclic_35 rfl (by decide) (by decide)
    · refine J_icmp_ge (tgt := 34) dX9_cyclic_12 (by decide) (fun w => absurd w c1) (fun _ => ?_)
      refine J_iload_n dX9_cyclic_15 rfl rfl ?_
      refine J_aload_n dX9_cyclic_16 rfl rfl ?_
      obtain ⟨k2, hf⟩ := gds hf
      obtain ⟨b3, rb3, hf⟩ := rfs hf
      refine G_9_14 dX9_cyclic_17 tk_933 k2 rb3 ?_
      refine J_iload_n dX9_cyclic_20 rfl rfl ?_
      obtain ⟨k4, hf⟩ := gds hf
      obtain ⟨n5, hf⟩ := gds hf
      refine J_iaload dX9_cyclic_21 k4 n5 ?_
      refine J_iconst (v := 1) dX9_cyclic_22 (by decide) ?_
      refine J_iload_n dX9_cyclic_23 rfl rfl ?_
      refine J_ishl dX9_cyclic_24 ?_
      refine J_iand dX9_cyclic_25 ?_
      refine J_ior dX9_cyclic_26 ?_
      obtain ⟨v6, ev6, hf⟩ := bls hf
      refine J_i ev6 ?_
      refine S_istore_n_2 dX9_cyclic_27 rfl (by decide) ?_
      refine S_iinc_3 (v := x3 + 1) dX9_cyclic_28 (congrArg (fun w => x3 + w) (by decide)) rfl (by decide) ?_
      refine J_goto (tgt := 9) dX9_cyclic_31 (by decide) ?_
      refine J.sub (jsub_s (jsub_n (jsub_s (jsub_s (jsub_nil _))))) ?_
      exact hq9 _ _ _ _ _ _ hf
theorem wfX9_cyclic {g : JG} (hst : (jl g).stackTraces = false)   {a0 : Nat} {x1 : Int32} {z : Nat} {h : AH} {o : Int32 × Nat × AH} (hf : fX9_cyclic  a0 x1 z h = some o) : J g MX9_cyclic (jN g (some (.int o.1), o.2.1, o.2.2) rmX9_cyclic.cells rmX9_cyclic.slots) 0 [some (.ref a0), some (.int x1), none, none] [] z h 0 0 := by
  unfold fX9_cyclic at hf
  refine J_aload_n dX9_cyclic_0 rfl rfl ?_
  refine J_iload_n dX9_cyclic_1 rfl rfl ?_
  obtain ⟨k1, hf⟩ := gds hf
  obtain ⟨zo2, ho2h, ho2, hf⟩ := rfs2 hf
  refine CV1v dX9_cyclic_2 (mX9_lays hst ho2) tk_1246 iX9_lays k1 (by decide) rfl ⟨by decide, by decide⟩ ⟨by decide, by decide⟩ (Nat.le_of_ble_eq_true rfl) ?_
  refine J_iconst (v := 0) dX9_cyclic_5 (by decide) ?_
  refine S_istore_n_2 dX9_cyclic_6 rfl (by decide) ?_
  refine J_iconst (v := 0) dX9_cyclic_7 (by decide) ?_
  refine S_istore_n_3 dX9_cyclic_8 rfl (by decide) ?_
  refine J.sub (jsub_s (jsub_n (jsub_s (jsub_s (jsub_nil _))))) ?_
  exact wlX9_cyclic_9 hst   _ _ _ _ _ _ _ hf
theorem mX9_cyclic {g : JG} (hst : (jl g).stackTraces = false) {a0 : Nat} {x1 : Int32} {z : Nat} {h : AH} {o : Int32 × Nat × AH} (hf : fX9_cyclic a0 x1 z h = some o) : jMet g yX9_cyclic (wj yX9_cyclic cX9_cyclic 4 (some .int)) rmX9_cyclic [.ref a0, .int x1] z h (some (.int o.1), o.2.1, o.2.2) :=
  jMet_mk (by decide) (Nat.le_of_ble_eq_true rfl) [some (.ref a0), some (.int x1), none, none] rfl (wfX9_cyclic hst hf)
def bX9_delivers_252  (a0 : Nat) (x1 : Int32) (x2 : Int32) (z : Nat) (h : AH) : Option (Nat × AH) :=
  gd (kd h a0 = 10) (bd3 (fX9_isWaiting a0 x1 z h) (fun vo2 zo2 ho2h => (if vo2 = 0 then (some (zo2, ho2h)) else (gd (kd ho2h a0 = 10) (bd3 (fX9_isOnPath a0 x1 zo2 ho2h) (fun vo5 zo5 ho5h => (if vo5 = 0 then (gd (kd ho5h a0 = 10) (Option.bind (rv ho5h a0 11) (fun b8 => gd (kd ho5h b8 = 13) (gd (¬ (((iv ho5h a0 12) : Int32) < 0 ∨ ln ho5h b8 ≤ Int32.toNatClampNeg (iv ho5h a0 12))) (bl (wI ho5h b8 (Int32.toNatClampNeg (iv ho5h a0 12)) x1) (fun h11 => bl (wI h11 a0 12 ((iv h11 a0 12) + 1)) (fun h13 => bd2 (fX9_sendsAll a0 x1 (x2 - 1) zo5 h13) (fun zo15 ho15h => some (zo15, ho15h))))))))) else (some (zo5, ho5h)))))))))
def bX9_delivers_247  (u0 : Nat) (s1 : Int32) (s2 : Int32) (s3 : Int32) (z : Nat) (h : AH) : Option (Nat × AH) :=
  gd (kd h u0 = 13) (gd (¬ ((s1 : Int32) < 0 ∨ ln h u0 ≤ Int32.toNatClampNeg s1)) (bl (wI h u0 (Int32.toNatClampNeg s1) (s2 + s3)) (fun h3 => some (z, h3))))
def lX9_delivers_114B  (q114 : Nat → Int32 → Int32 → Int32 → Nat → AH → Option (Nat × AH)) (a0 : Nat) (x1 : Int32) (x2 : Int32) (x3 : Int32) (z : Nat) (h : AH) : Option (Nat × AH) :=
  (if 13 ≤ x3 then (gd (kd h a0 = 10) (bd3 (fX9_isStale a0 x1 z h) (fun vo3 zo3 ho3h => (if vo3 = 0 then (gd (kd ho3h a0 = 10) (Option.bind (rv ho3h a0 11) (fun b6 => gd (kd ho3h b6 = 13) (gd (¬ ((0 : Int32) < 0 ∨ ln ho3h b6 ≤ Int32.toNatClampNeg 0)) ((if x1 = (iv ho3h b6 (Int32.toNatClampNeg 0)) then (bd2 (fX9_finds a0 zo3 ho3h) (fun zo32 ho32h => some (zo32, ho32h))) else (bd3 (fX9_isWaiting a0 x1 zo3 ho3h) (fun vo10 zo10 ho10h => (if vo10 = 0 then (bX9_delivers_252  a0 x1 x2 zo10 ho10h) else (gd (kd ho10h a0 = 10) (bd3 (fX9_isOnPath a0 x1 zo10 ho10h) (fun vo13 zo13 ho13h => (if vo13 = 0 then ((if x2 = 0 then (gd (kd ho13h a0 = 10) (Option.bind (rv ho13h a0 3) (fun b17 => gd (kd ho13h b17 = 13) (gd (¬ ((3 : Int32) < 0 ∨ ln ho13h b17 ≤ Int32.toNatClampNeg 3)) (gd (¬ ((3 : Int32) < 0 ∨ ln ho13h b17 ≤ Int32.toNatClampNeg 3)) (bl (wI ho13h b17 (Int32.toNatClampNeg 3) ((iv ho13h b17 (Int32.toNatClampNeg 3)) + 1)) (fun h21 => Option.bind (rv h21 a0 3) (fun b23 => gd (kd h21 b23 = 13) (gd (¬ ((5 : Int32) < 0 ∨ ln h21 b23 ≤ Int32.toNatClampNeg 5)) (bd3 (fX9_cyclic a0 1023 zo13 h21) (fun vo26 zo26 ho26h => gd (kd ho26h a0 = 10) (Option.bind (rv ho26h a0 11) (fun b28 => gd (kd ho26h b28 = 13) (gd (¬ ((0 : Int32) < 0 ∨ ln ho26h b28 ≤ Int32.toNatClampNeg 0)) ((if ((vo26 >>> ((iv ho26h b28 (Int32.toNatClampNeg 0)) &&& 31)) &&& 1) = 1 then (bX9_delivers_247  b23 5 (iv h21 b23 (Int32.toNatClampNeg 5)) 1 zo26 ho26h) else (bX9_delivers_247  b23 5 (iv h21 b23 (Int32.toNatClampNeg 5)) 0 zo26 ho26h))))))))))))))))) else (bX9_delivers_252  a0 x1 x2 zo13 ho13h))) else (bX9_delivers_252  a0 x1 x2 zo13 ho13h)))))))))))))) else (gd (kd ho3h a0 = 10) (Option.bind (rv ho3h a0 3) (fun b34 => gd (kd ho3h b34 = 13) (gd (¬ ((2 : Int32) < 0 ∨ ln ho3h b34 ≤ Int32.toNatClampNeg 2)) (gd (¬ ((2 : Int32) < 0 ∨ ln ho3h b34 ≤ Int32.toNatClampNeg 2)) (bl (wI ho3h b34 (Int32.toNatClampNeg 2) ((iv ho3h b34 (Int32.toNatClampNeg 2)) + 1)) (fun h38 => some (zo3, h38)))))))))))) else (gd (kd h a0 = 10) (Option.bind (rv h a0 0) (fun b40 => Option.bind (rv h a0 0) (fun b41 => gd (kd h b41 = 13) (gd (¬ ((92 : Int32) < 0 ∨ ln h b41 ≤ Int32.toNatClampNeg 92)) (gd (kd h b40 = 13) (gd (¬ ((((93 + (13 * (iv h b41 (Int32.toNatClampNeg 92)))) + x3) : Int32) < 0 ∨ ln h b40 ≤ Int32.toNatClampNeg ((93 + (13 * (iv h b41 (Int32.toNatClampNeg 92)))) + x3))) (bl (wI h b40 (Int32.toNatClampNeg ((93 + (13 * (iv h b41 (Int32.toNatClampNeg 92)))) + x3)) 0) (fun h46 => q114 a0 x1 x2 (x3 + 1) z h46))))))))))
def lX9_delivers_114  : Nat → Nat → Int32 → Int32 → Int32 → Nat → AH → Option (Nat × AH)
  | 0 => fun _ _ _ _ _ _ => none
  | fuel + 1 => lX9_delivers_114B  (lX9_delivers_114  fuel)
def lX9_delivers_71B  (q71 : Nat → Int32 → Int32 → Int32 → Nat → AH → Option (Nat × AH)) (a0 : Nat) (x1 : Int32) (x2 : Int32) (x3 : Int32) (z : Nat) (h : AH) : Option (Nat × AH) :=
  gd (kd h a0 = 10) (Option.bind (rv h a0 0) (fun b2 => gd (kd h b2 = 13) (gd (¬ ((92 : Int32) < 0 ∨ ln h b2 ≤ Int32.toNatClampNeg 92)) ((if (13 * (iv h b2 (Int32.toNatClampNeg 92))) ≤ x3 then (lX9_delivers_114  fu a0 x1 x2 0 z h) else (Option.bind (rv h a0 0) (fun b6 => Option.bind (rv h a0 0) (fun b7 => gd (kd h b7 = 13) (gd (¬ ((((93 + x3) + 13) : Int32) < 0 ∨ ln h b7 ≤ Int32.toNatClampNeg ((93 + x3) + 13))) (gd (kd h b6 = 13) (gd (¬ (((93 + x3) : Int32) < 0 ∨ ln h b6 ≤ Int32.toNatClampNeg (93 + x3))) (bl (wI h b6 (Int32.toNatClampNeg (93 + x3)) (iv h b7 (Int32.toNatClampNeg ((93 + x3) + 13)))) (fun h12 => q71 a0 x1 x2 (x3 + 1) z h12)))))))))))))
def lX9_delivers_71  : Nat → Nat → Int32 → Int32 → Int32 → Nat → AH → Option (Nat × AH)
  | 0 => fun _ _ _ _ _ _ => none
  | fuel + 1 => lX9_delivers_71B  (lX9_delivers_71  fuel)
def lX9_delivers_29B  (q29 : Nat → Int32 → Int32 → Int32 → Nat → AH → Option (Nat × AH)) (a0 : Nat) (x1 : Int32) (x2 : Int32) (x3 : Int32) (z : Nat) (h : AH) : Option (Nat × AH) :=
  gd (kd h a0 = 10) ((if (iv h a0 12) ≤ x3 then (Option.bind (rv h a0 0) (fun b3 => gd (kd h b3 = 13) (gd (¬ ((92 : Int32) < 0 ∨ ln h b3 ≤ Int32.toNatClampNeg 92)) (gd (¬ ((92 : Int32) < 0 ∨ ln h b3 ≤ Int32.toNatClampNeg 92)) (bl (wI h b3 (Int32.toNatClampNeg 92) ((iv h b3 (Int32.toNatClampNeg 92)) - 1)) (fun h7 => lX9_delivers_71  fu a0 x1 x2 0 z h7)))))) else (Option.bind (rv h a0 11) (fun b8 => Option.bind (rv h a0 0) (fun b9 => gd (kd h b9 = 13) (gd (¬ (((96 + x3) : Int32) < 0 ∨ ln h b9 ≤ Int32.toNatClampNeg (96 + x3))) (gd (kd h b8 = 13) (gd (¬ ((x3 : Int32) < 0 ∨ ln h b8 ≤ Int32.toNatClampNeg x3)) (bl (wI h b8 (Int32.toNatClampNeg x3) (iv h b9 (Int32.toNatClampNeg (96 + x3)))) (fun h14 => q29 a0 x1 x2 (x3 + 1) z h14))))))))))
def lX9_delivers_29  : Nat → Nat → Int32 → Int32 → Int32 → Nat → AH → Option (Nat × AH)
  | 0 => fun _ _ _ _ _ _ => none
  | fuel + 1 => lX9_delivers_29B  (lX9_delivers_29  fuel)
def fX9_delivers  (a0 : Nat) (z : Nat) (h : AH) : Option (Nat × AH) :=
  gd (kd h a0 = 10) (Option.bind (rv h a0 0) (fun b2 => gd (kd h b2 = 13) (gd (¬ ((93 : Int32) < 0 ∨ ln h b2 ≤ Int32.toNatClampNeg 93)) (bl ((iv h b2 (Int32.toNatClampNeg 93))) (fun v5 => Option.bind (rv h a0 0) (fun b6 => gd (kd h b6 = 13) (gd (¬ ((94 : Int32) < 0 ∨ ln h b6 ≤ Int32.toNatClampNeg 94)) (bl ((iv h b6 (Int32.toNatClampNeg 94))) (fun v9 => Option.bind (rv h a0 0) (fun b10 => gd (kd h b10 = 13) (gd (¬ ((95 : Int32) < 0 ∨ ln h b10 ≤ Int32.toNatClampNeg 95)) (bl (wI h a0 12 (iv h b10 (Int32.toNatClampNeg 95))) (fun h13 => lX9_delivers_29  fu a0 v5 v9 0 z h13)))))))))))))
theorem wbX9_delivers_252 {g : JG} (hst : (jl g).stackTraces = false)   {a0 : Nat} {x1 : Int32} {x2 : Int32} {z : Nat} {h : AH} {o : Nat × AH} (hf : bX9_delivers_252  a0 x1 x2 z h = some o) : J g MX9_delivers (jN g (none, o.1, o.2) rmX9_delivers.cells rmX9_delivers.slots) 252 [some (.ref a0), some (.int x1), some (.int x2), none] [] z h 0 0 := by
  unfold bX9_delivers_252 at hf
  refine J_aload_n dX9_delivers_252 rfl rfl ?_
  refine J_iload_n dX9_delivers_253 rfl rfl ?_
  obtain ⟨k1, hf⟩ := gds hf
  obtain ⟨vo2, zo2, ho2h, ho2, hf⟩ := rfs3 hf
  refine CV1i dX9_delivers_254 (mX9_isWaiting hst ho2) tk_1103 iX9_isWaiting k1 (by decide) rfl ⟨by decide, by decide⟩ ⟨by decide, by decide⟩ (Nat.le_of_ble_eq_true rfl) ?_
  rcases br hf with ⟨c3, hf⟩ | ⟨c3, hf⟩
  · refine J_if_eq (tgt := 296) dX9_delivers_257 (by decide) (fun _ => ?_) (fun w => absurd c3 w)
    cases hf
    exact J_vretN dX9_delivers_296 rfl (by decide) (by decide)
  · refine J_if_eq (tgt := 296) dX9_delivers_257 (by decide) (fun w => absurd w c3) (fun _ => ?_)
    refine J_aload_n dX9_delivers_260 rfl rfl ?_
    refine J_iload_n dX9_delivers_261 rfl rfl ?_
    obtain ⟨k4, hf⟩ := gds hf
    obtain ⟨vo5, zo5, ho5h, ho5, hf⟩ := rfs3 hf
    refine CV1i dX9_delivers_262 (mX9_isOnPath hst ho5) tk_1238 iX9_isOnPath k4 (by decide) rfl ⟨by decide, by decide⟩ ⟨by decide, by decide⟩ (Nat.le_of_ble_eq_true rfl) ?_
    rcases br hf with ⟨c6, hf⟩ | ⟨c6, hf⟩
    · refine J_if_ne (tgt := 296) dX9_delivers_265 (by decide) (fun w => absurd c6 w) (fun _ => ?_)
      refine J_aload_n dX9_delivers_268 rfl rfl ?_
      obtain ⟨k7, hf⟩ := gds hf
      obtain ⟨b8, rb8, hf⟩ := rfs hf
      refine G_9_11 dX9_delivers_269 tk_930 k7 rb8 ?_
      refine J_aload_n dX9_delivers_272 rfl rfl ?_
      refine G_9_12 dX9_delivers_273 tk_931 k7 ?_
      refine J_iload_n dX9_delivers_276 rfl rfl ?_
      obtain ⟨k9, hf⟩ := gds hf
      obtain ⟨n10, hf⟩ := gds hf
      refine J_iastore dX9_delivers_277 k9 n10 ?_
      obtain ⟨h11, eh11, hf⟩ := bls hf
      refine J_h eh11 ?_
      refine J_aload_n dX9_delivers_278 rfl rfl ?_
      refine J_dup dX9_delivers_279 rfl ?_
      have k12 : kd h11 a0 = 10 := by rw [eh11]; exact k7
      refine G_9_12 dX9_delivers_280 tk_931 k12 ?_
      refine J_iconst (v := 1) dX9_delivers_283 (by decide) ?_
      refine J_iadd dX9_delivers_284 ?_
      refine P_9_12 dX9_delivers_285 tk_931 k12 ?_
      obtain ⟨h13, eh13, hf⟩ := bls hf
      refine J_h eh13 ?_
      refine J_aload_n dX9_delivers_288 rfl rfl ?_
      refine J_iload_n dX9_delivers_289 rfl rfl ?_
      refine J_iload_n dX9_delivers_290 rfl rfl ?_
      refine J_iconst (v := 1) dX9_delivers_291 (by decide) ?_
      refine J_isub dX9_delivers_292 ?_
      have k14 : kd h13 a0 = 10 := by rw [eh13]; exact k12
      obtain ⟨zo15, ho15h, ho15, hf⟩ := rfs2 hf
      refine CV2v dX9_delivers_293 (mX9_sendsAll hst ho15) tk_1206 iX9_sendsAll k14 (by decide) rfl ⟨by decide, by decide⟩ ⟨by decide, by decide⟩ (Nat.le_of_ble_eq_true rfl) ?_
      cases hf
      exact J_vretN dX9_delivers_296 rfl (by decide) (by decide)
    · refine J_if_ne (tgt := 296) dX9_delivers_265 (by decide) (fun _ => ?_) (fun w => absurd w c6)
      cases hf
      exact J_vretN dX9_delivers_296 rfl (by decide) (by decide)
theorem wbX9_delivers_247 {g : JG} (hst : (jl g).stackTraces = false)   {u0 : Nat} {s1 : Int32} {s2 : Int32} {s3 : Int32} {z : Nat} {h : AH} {o : Nat × AH} (hf : bX9_delivers_247  u0 s1 s2 s3 z h = some o) : J g MX9_delivers (jN g (none, o.1, o.2) rmX9_delivers.cells rmX9_delivers.slots) 247 [none, none, none, none] [.int s3, .int s2, .int s1, .ref u0] z h 0 0 := by
  unfold bX9_delivers_247 at hf
  refine J_iadd dX9_delivers_247 ?_
  obtain ⟨k1, hf⟩ := gds hf
  obtain ⟨n2, hf⟩ := gds hf
  refine J_iastore dX9_delivers_248 k1 n2 ?_
  obtain ⟨h3, eh3, hf⟩ := bls hf
  refine J_h eh3 ?_
  refine J_goto (tgt := 296) dX9_delivers_249 (by decide) ?_
  cases hf
  exact J_vretN dX9_delivers_296 rfl (by decide) (by decide)
theorem wlX9_delivers_114 {g : JG} (hst : (jl g).stackTraces = false)   : ∀ (fuel : Nat) (a0 : Nat) (x1 : Int32) (x2 : Int32) (x3 : Int32) (z : Nat) (h : AH) (o : Nat × AH), lX9_delivers_114  fuel a0 x1 x2 x3 z h = some o → J g MX9_delivers (jN g (none, o.1, o.2) rmX9_delivers.cells rmX9_delivers.slots) 114 [some (.ref a0), some (.int x1), some (.int x2), some (.int x3)] [] z h 0 0 := by
  intro fuel
  induction fuel with
  | zero => intro a0 x1 x2 x3 z h o hf; cases hf
  | succ fuel ih =>
    intro a0 x1 x2 x3 z h o hf
    have hq114 := ih
    have hf : lX9_delivers_114B  (lX9_delivers_114  fuel) a0 x1 x2 x3 z h = some o := hf
    generalize lX9_delivers_114  fuel = q114 at hf hq114
    unfold lX9_delivers_114B at hf
    refine J_iload_n dX9_delivers_114 rfl rfl ?_
    refine J_bipush (v := 13) dX9_delivers_115 (by decide) ?_
    rcases br hf with ⟨c1, hf⟩ | ⟨c1, hf⟩
    · refine J_icmp_ge (tgt := 147) dX9_delivers_117 (by decide) (fun _ => ?_) (fun w => absurd c1 w)
      refine J_aload_n dX9_delivers_147 rfl rfl ?_
      refine J_iload_n dX9_delivers_148 rfl rfl ?_
      obtain ⟨k2, hf⟩ := gds hf
      obtain ⟨vo3, zo3, ho3h, ho3, hf⟩ := rfs3 hf
      refine CV1i dX9_delivers_149 (mX9_isStale hst ho3) tk_1226 iX9_isStale k2 (by decide) rfl ⟨by decide, by decide⟩ ⟨by decide, by decide⟩ (Nat.le_of_ble_eq_true rfl) ?_
      rcases br hf with ⟨c4, hf⟩ | ⟨c4, hf⟩
      · refine J_if_eq (tgt := 168) dX9_delivers_152 (by decide) (fun _ => ?_) (fun w => absurd c4 w)
        refine J_iload_n dX9_delivers_168 rfl rfl ?_
        refine J_aload_n dX9_delivers_169 rfl rfl ?_
        obtain ⟨k5, hf⟩ := gds hf
        obtain ⟨b6, rb6, hf⟩ := rfs hf
        refine G_9_11 dX9_delivers_170 tk_930 k5 rb6 ?_
        refine J_iconst (v := 0) dX9_delivers_173 (by decide) ?_
        obtain ⟨k7, hf⟩ := gds hf
        obtain ⟨n8, hf⟩ := gds hf
        refine J_iaload dX9_delivers_174 k7 n8 ?_
        rcases br hf with ⟨c9, hf⟩ | ⟨c9, hf⟩
        · refine J_icmp_ne (tgt := 185) dX9_delivers_175 (by decide) (fun w => absurd c9 w) (fun _ => ?_)
          refine J_aload_n dX9_delivers_178 rfl rfl ?_
          obtain ⟨zo32, ho32h, ho32, hf⟩ := rfs2 hf
          refine CV0v dX9_delivers_179 (mX9_finds hst ho32) tk_1230 iX9_finds k5 (by decide) rfl ⟨by decide, by decide⟩ ⟨by decide, by decide⟩ (Nat.le_of_ble_eq_true rfl) ?_
          refine J_goto (tgt := 296) dX9_delivers_182 (by decide) ?_
          cases hf
          exact J_vretN dX9_delivers_296 rfl (by decide) (by decide)
        · refine J_icmp_ne (tgt := 185) dX9_delivers_175 (by decide) (fun _ => ?_) (fun w => absurd w c9)
          refine J_aload_n dX9_delivers_185 rfl rfl ?_
          refine J_iload_n dX9_delivers_186 rfl rfl ?_
          obtain ⟨vo10, zo10, ho10h, ho10, hf⟩ := rfs3 hf
          refine CV1i dX9_delivers_187 (mX9_isWaiting hst ho10) tk_1103 iX9_isWaiting k5 (by decide) rfl ⟨by decide, by decide⟩ ⟨by decide, by decide⟩ (Nat.le_of_ble_eq_true rfl) ?_
          rcases br hf with ⟨c11, hf⟩ | ⟨c11, hf⟩
          · refine J_if_eq (tgt := 252) dX9_delivers_190 (by decide) (fun _ => ?_) (fun w => absurd c11 w)
            refine J.sub (jsub_s (jsub_s (jsub_s (jsub_n (jsub_nil _))))) ?_
            exact wbX9_delivers_252 hst   hf
          · refine J_if_eq (tgt := 252) dX9_delivers_190 (by decide) (fun w => absurd w c11) (fun _ => ?_)
            refine J_aload_n dX9_delivers_193 rfl rfl ?_
            refine J_iload_n dX9_delivers_194 rfl rfl ?_
            obtain ⟨k12, hf⟩ := gds hf
            obtain ⟨vo13, zo13, ho13h, ho13, hf⟩ := rfs3 hf
            refine CV1i dX9_delivers_195 (mX9_isOnPath hst ho13) tk_1238 iX9_isOnPath k12 (by decide) rfl ⟨by decide, by decide⟩ ⟨by decide, by decide⟩ (Nat.le_of_ble_eq_true rfl) ?_
            rcases br hf with ⟨c14, hf⟩ | ⟨c14, hf⟩
            · refine J_if_ne (tgt := 252) dX9_delivers_198 (by decide) (fun w => absurd c14 w) (fun _ => ?_)
              refine J_iload_n dX9_delivers_201 rfl rfl ?_
              rcases br hf with ⟨c15, hf⟩ | ⟨c15, hf⟩
              · refine J_if_ne (tgt := 252) dX9_delivers_202 (by decide) (fun w => absurd c15 w) (fun _ => ?_)
                refine J_aload_n dX9_delivers_205 rfl rfl ?_
                obtain ⟨k16, hf⟩ := gds hf
                obtain ⟨b17, rb17, hf⟩ := rfs hf
                refine G_9_3 dX9_delivers_206 tk_922 k16 rb17 ?_
                refine J_iconst (v := 3) dX9_delivers_209 (by decide) ?_
                refine J_dup2 dX9_delivers_210 rfl rfl ?_
                obtain ⟨k18, hf⟩ := gds hf
                obtain ⟨n19, hf⟩ := gds hf
                refine J_iaload dX9_delivers_211 k18 n19 ?_
                refine J_iconst (v := 1) dX9_delivers_212 (by decide) ?_
                refine J_iadd dX9_delivers_213 ?_
                obtain ⟨n20, hf⟩ := gds hf
                refine J_iastore dX9_delivers_214 k18 n20 ?_
                obtain ⟨h21, eh21, hf⟩ := bls hf
                refine J_h eh21 ?_
                refine J_aload_n dX9_delivers_215 rfl rfl ?_
                have k22 : kd h21 a0 = 10 := by rw [eh21]; exact k16
                obtain ⟨b23, rb23, hf⟩ := rfs hf
                refine G_9_3 dX9_delivers_216 tk_922 k22 rb23 ?_
                refine J_iconst (v := 5) dX9_delivers_219 (by decide) ?_
                refine J_dup2 dX9_delivers_220 rfl rfl ?_
                obtain ⟨k24, hf⟩ := gds hf
                obtain ⟨n25, hf⟩ := gds hf
                refine J_iaload dX9_delivers_221 k24 n25 ?_
                refine J_aload_n dX9_delivers_222 rfl rfl ?_
                refine J_sipush (v := 1023) dX9_delivers_223 (by decide) ?_
                obtain ⟨vo26, zo26, ho26h, ho26, hf⟩ := rfs3 hf
                refine CV1i dX9_delivers_226 (mX9_cyclic hst ho26) tk_1242 iX9_cyclic k22 (by decide) rfl ⟨by decide, by decide⟩ ⟨by decide, by decide⟩ (Nat.le_of_ble_eq_true rfl) ?_
                refine J_aload_n dX9_delivers_229 rfl rfl ?_
                obtain ⟨k27, hf⟩ := gds hf
                obtain ⟨b28, rb28, hf⟩ := rfs hf
                refine G_9_11 dX9_delivers_230 tk_930 k27 rb28 ?_
                refine J_iconst (v := 0) dX9_delivers_233 (by decide) ?_
                obtain ⟨k29, hf⟩ := gds hf
                obtain ⟨n30, hf⟩ := gds hf
                refine J_iaload dX9_delivers_234 k29 n30 ?_
                refine J_ishr dX9_delivers_235 ?_
                refine J_iconst (v := 1) dX9_delivers_236 (by decide) ?_
                refine J_iand dX9_delivers_237 ?_
                refine J_iconst (v := 1) dX9_delivers_238 (by decide) ?_
                rcases br hf with ⟨c31, hf⟩ | ⟨c31, hf⟩
                · refine J_icmp_ne (tgt := 246) dX9_delivers_239 (by decide) (fun w => absurd c31 w) (fun _ => ?_)
                  refine J_iconst (v := 1) dX9_delivers_242 (by decide) ?_
                  refine J_goto (tgt := 247) dX9_delivers_243 (by decide) ?_
                  refine J.sub (jsub_n (jsub_n (jsub_n (jsub_n (jsub_nil _))))) ?_
                  exact wbX9_delivers_247 hst   hf
                · refine J_icmp_ne (tgt := 246) dX9_delivers_239 (by decide) (fun _ => ?_) (fun w => absurd w c31)
                  refine J_iconst (v := 0) dX9_delivers_246 (by decide) ?_
                  refine J.sub (jsub_n (jsub_n (jsub_n (jsub_n (jsub_nil _))))) ?_
                  exact wbX9_delivers_247 hst   hf
              · refine J_if_ne (tgt := 252) dX9_delivers_202 (by decide) (fun _ => ?_) (fun w => absurd w c15)
                refine J.sub (jsub_s (jsub_s (jsub_s (jsub_n (jsub_nil _))))) ?_
                exact wbX9_delivers_252 hst   hf
            · refine J_if_ne (tgt := 252) dX9_delivers_198 (by decide) (fun _ => ?_) (fun w => absurd w c14)
              refine J.sub (jsub_s (jsub_s (jsub_s (jsub_n (jsub_nil _))))) ?_
              exact wbX9_delivers_252 hst   hf
      · refine J_if_eq (tgt := 168) dX9_delivers_152 (by decide) (fun w => absurd w c4) (fun _ => ?_)
        refine J_aload_n dX9_delivers_155 rfl rfl ?_
        obtain ⟨k33, hf⟩ := gds hf
        obtain ⟨b34, rb34, hf⟩ := rfs hf
        refine G_9_3 dX9_delivers_156 tk_922 k33 rb34 ?_
        refine J_iconst (v := 2) dX9_delivers_159 (by decide) ?_
        refine J_dup2 dX9_delivers_160 rfl rfl ?_
        obtain ⟨k35, hf⟩ := gds hf
        obtain ⟨n36, hf⟩ := gds hf
        refine J_iaload dX9_delivers_161 k35 n36 ?_
        refine J_iconst (v := 1) dX9_delivers_162 (by decide) ?_
        refine J_iadd dX9_delivers_163 ?_
        obtain ⟨n37, hf⟩ := gds hf
        refine J_iastore dX9_delivers_164 k35 n37 ?_
        obtain ⟨h38, eh38, hf⟩ := bls hf
        refine J_h eh38 ?_
        refine J_goto (tgt := 296) dX9_delivers_165 (by decide) ?_
        cases hf
        exact J_vretN dX9_delivers_296 rfl (by decide) (by decide)
    · refine J_icmp_ge (tgt := 147) dX9_delivers_117 (by decide) (fun w => absurd w c1) (fun _ => ?_)
      refine J_aload_n dX9_delivers_120 rfl rfl ?_
      obtain ⟨k39, hf⟩ := gds hf
      obtain ⟨b40, rb40, hf⟩ := rfs hf
      refine G_9_0 dX9_delivers_121 tk_919 k39 rb40 ?_
      refine J_bipush (v := 93) dX9_delivers_124 (by decide) ?_
      refine J_bipush (v := 13) dX9_delivers_126 (by decide) ?_
      refine J_aload_n dX9_delivers_128 rfl rfl ?_
      obtain ⟨b41, rb41, hf⟩ := rfs hf
      refine G_9_0 dX9_delivers_129 tk_919 k39 rb41 ?_
      refine J_bipush (v := 92) dX9_delivers_132 (by decide) ?_
      obtain ⟨k42, hf⟩ := gds hf
      obtain ⟨n43, hf⟩ := gds hf
      refine J_iaload dX9_delivers_134 k42 n43 ?_
      refine J_imul dX9_delivers_135 ?_
      refine J_iadd dX9_delivers_136 ?_
      refine J_iload_n dX9_delivers_137 rfl rfl ?_
      refine J_iadd dX9_delivers_138 ?_
      refine J_iconst (v := 0) dX9_delivers_139 (by decide) ?_
      obtain ⟨k44, hf⟩ := gds hf
      obtain ⟨n45, hf⟩ := gds hf
      refine J_iastore dX9_delivers_140 k44 n45 ?_
      obtain ⟨h46, eh46, hf⟩ := bls hf
      refine J_h eh46 ?_
      refine S_iinc_3 (v := x3 + 1) dX9_delivers_141 (congrArg (fun w => x3 + w) (by decide)) rfl (by decide) ?_
      refine J_goto (tgt := 114) dX9_delivers_144 (by decide) ?_
      refine J.sub (jsub_s (jsub_s (jsub_s (jsub_s (jsub_nil _))))) ?_
      exact hq114 _ _ _ _ _ _ _ hf
theorem wlX9_delivers_71 {g : JG} (hst : (jl g).stackTraces = false)   : ∀ (fuel : Nat) (a0 : Nat) (x1 : Int32) (x2 : Int32) (x3 : Int32) (z : Nat) (h : AH) (o : Nat × AH), lX9_delivers_71  fuel a0 x1 x2 x3 z h = some o → J g MX9_delivers (jN g (none, o.1, o.2) rmX9_delivers.cells rmX9_delivers.slots) 71 [some (.ref a0), some (.int x1), some (.int x2), some (.int x3)] [] z h 0 0 := by
  intro fuel
  induction fuel with
  | zero => intro a0 x1 x2 x3 z h o hf; cases hf
  | succ fuel ih =>
    intro a0 x1 x2 x3 z h o hf
    have hq71 := ih
    have hf : lX9_delivers_71B  (lX9_delivers_71  fuel) a0 x1 x2 x3 z h = some o := hf
    generalize lX9_delivers_71  fuel = q71 at hf hq71
    unfold lX9_delivers_71B at hf
    refine J_iload_n dX9_delivers_71 rfl rfl ?_
    refine J_bipush (v := 13) dX9_delivers_72 (by decide) ?_
    refine J_aload_n dX9_delivers_74 rfl rfl ?_
    obtain ⟨k1, hf⟩ := gds hf
    obtain ⟨b2, rb2, hf⟩ := rfs hf
    refine G_9_0 dX9_delivers_75 tk_919 k1 rb2 ?_
    refine J_bipush (v := 92) dX9_delivers_78 (by decide) ?_
    obtain ⟨k3, hf⟩ := gds hf
    obtain ⟨n4, hf⟩ := gds hf
    refine J_iaload dX9_delivers_80 k3 n4 ?_
    refine J_imul dX9_delivers_81 ?_
    rcases br hf with ⟨c5, hf⟩ | ⟨c5, hf⟩
    · refine J_icmp_ge (tgt := 112) dX9_delivers_82 (by decide) (fun _ => ?_) (fun w => absurd c5 w)
      refine J_iconst (v := 0) dX9_delivers_112 (by decide) ?_
      refine S_istore_n_3 dX9_delivers_113 rfl (by decide) ?_
      refine J.sub (jsub_s (jsub_s (jsub_s (jsub_s (jsub_nil _))))) ?_
      exact wlX9_delivers_114 hst   _ _ _ _ _ _ _ _ hf
    · refine J_icmp_ge (tgt := 112) dX9_delivers_82 (by decide) (fun w => absurd w c5) (fun _ => ?_)
      refine J_aload_n dX9_delivers_85 rfl rfl ?_
      obtain ⟨b6, rb6, hf⟩ := rfs hf
      refine G_9_0 dX9_delivers_86 tk_919 k1 rb6 ?_
      refine J_bipush (v := 93) dX9_delivers_89 (by decide) ?_
      refine J_iload_n dX9_delivers_91 rfl rfl ?_
      refine J_iadd dX9_delivers_92 ?_
      refine J_aload_n dX9_delivers_93 rfl rfl ?_
      obtain ⟨b7, rb7, hf⟩ := rfs hf
      refine G_9_0 dX9_delivers_94 tk_919 k1 rb7 ?_
      refine J_bipush (v := 93) dX9_delivers_97 (by decide) ?_
      refine J_iload_n dX9_delivers_99 rfl rfl ?_
      refine J_iadd dX9_delivers_100 ?_
      refine J_bipush (v := 13) dX9_delivers_101 (by decide) ?_
      refine J_iadd dX9_delivers_103 ?_
      obtain ⟨k8, hf⟩ := gds hf
      obtain ⟨n9, hf⟩ := gds hf
      refine J_iaload dX9_delivers_104 k8 n9 ?_
      obtain ⟨k10, hf⟩ := gds hf
      obtain ⟨n11, hf⟩ := gds hf
      refine J_iastore dX9_delivers_105 k10 n11 ?_
      obtain ⟨h12, eh12, hf⟩ := bls hf
      refine J_h eh12 ?_
      refine S_iinc_3 (v := x3 + 1) dX9_delivers_106 (congrArg (fun w => x3 + w) (by decide)) rfl (by decide) ?_
      refine J_goto (tgt := 71) dX9_delivers_109 (by decide) ?_
      refine J.sub (jsub_s (jsub_s (jsub_s (jsub_s (jsub_nil _))))) ?_
      exact hq71 _ _ _ _ _ _ _ hf
theorem wlX9_delivers_29 {g : JG} (hst : (jl g).stackTraces = false)   : ∀ (fuel : Nat) (a0 : Nat) (x1 : Int32) (x2 : Int32) (x3 : Int32) (z : Nat) (h : AH) (o : Nat × AH), lX9_delivers_29  fuel a0 x1 x2 x3 z h = some o → J g MX9_delivers (jN g (none, o.1, o.2) rmX9_delivers.cells rmX9_delivers.slots) 29 [some (.ref a0), some (.int x1), some (.int x2), some (.int x3)] [] z h 0 0 := by
  intro fuel
  induction fuel with
  | zero => intro a0 x1 x2 x3 z h o hf; cases hf
  | succ fuel ih =>
    intro a0 x1 x2 x3 z h o hf
    have hq29 := ih
    have hf : lX9_delivers_29B  (lX9_delivers_29  fuel) a0 x1 x2 x3 z h = some o := hf
    generalize lX9_delivers_29  fuel = q29 at hf hq29
    unfold lX9_delivers_29B at hf
    refine J_iload_n dX9_delivers_29 rfl rfl ?_
    refine J_aload_n dX9_delivers_30 rfl rfl ?_
    obtain ⟨k1, hf⟩ := gds hf
    refine G_9_12 dX9_delivers_31 tk_931 k1 ?_
    rcases br hf with ⟨c2, hf⟩ | ⟨c2, hf⟩
    · refine J_icmp_ge (tgt := 58) dX9_delivers_34 (by decide) (fun _ => ?_) (fun w => absurd c2 w)
      refine J_aload_n dX9_delivers_58 rfl rfl ?_
      obtain ⟨b3, rb3, hf⟩ := rfs hf
      refine G_9_0 dX9_delivers_59 tk_919 k1 rb3 ?_
      refine J_bipush (v := 92) dX9_delivers_62 (by decide) ?_
      refine J_dup2 dX9_delivers_64 rfl rfl ?_
      obtain ⟨k4, hf⟩ := gds hf
      obtain ⟨n5, hf⟩ := gds hf
      refine J_iaload dX9_delivers_65 k4 n5 ?_
      refine J_iconst (v := 1) dX9_delivers_66 (by decide) ?_
      refine J_isub dX9_delivers_67 ?_
      obtain ⟨n6, hf⟩ := gds hf
      refine J_iastore dX9_delivers_68 k4 n6 ?_
      obtain ⟨h7, eh7, hf⟩ := bls hf
      refine J_h eh7 ?_
      refine J_iconst (v := 0) dX9_delivers_69 (by decide) ?_
      refine S_istore_n_3 dX9_delivers_70 rfl (by decide) ?_
      refine J.sub (jsub_s (jsub_s (jsub_s (jsub_s (jsub_nil _))))) ?_
      exact wlX9_delivers_71 hst   _ _ _ _ _ _ _ _ hf
    · refine J_icmp_ge (tgt := 58) dX9_delivers_34 (by decide) (fun w => absurd w c2) (fun _ => ?_)
      refine J_aload_n dX9_delivers_37 rfl rfl ?_
      obtain ⟨b8, rb8, hf⟩ := rfs hf
      refine G_9_11 dX9_delivers_38 tk_930 k1 rb8 ?_
      refine J_iload_n dX9_delivers_41 rfl rfl ?_
      refine J_aload_n dX9_delivers_42 rfl rfl ?_
      obtain ⟨b9, rb9, hf⟩ := rfs hf
      refine G_9_0 dX9_delivers_43 tk_919 k1 rb9 ?_
      refine J_bipush (v := 96) dX9_delivers_46 (by decide) ?_
      refine J_iload_n dX9_delivers_48 rfl rfl ?_
      refine J_iadd dX9_delivers_49 ?_
      obtain ⟨k10, hf⟩ := gds hf
      obtain ⟨n11, hf⟩ := gds hf
      refine J_iaload dX9_delivers_50 k10 n11 ?_
      obtain ⟨k12, hf⟩ := gds hf
      obtain ⟨n13, hf⟩ := gds hf
      refine J_iastore dX9_delivers_51 k12 n13 ?_
      obtain ⟨h14, eh14, hf⟩ := bls hf
      refine J_h eh14 ?_
      refine S_iinc_3 (v := x3 + 1) dX9_delivers_52 (congrArg (fun w => x3 + w) (by decide)) rfl (by decide) ?_
      refine J_goto (tgt := 29) dX9_delivers_55 (by decide) ?_
      refine J.sub (jsub_s (jsub_s (jsub_s (jsub_s (jsub_nil _))))) ?_
      exact hq29 _ _ _ _ _ _ _ hf
theorem wfX9_delivers {g : JG} (hst : (jl g).stackTraces = false)   {a0 : Nat} {z : Nat} {h : AH} {o : Nat × AH} (hf : fX9_delivers  a0 z h = some o) : J g MX9_delivers (jN g (none, o.1, o.2) rmX9_delivers.cells rmX9_delivers.slots) 0 [some (.ref a0), none, none, none] [] z h 0 0 := by
  unfold fX9_delivers at hf
  refine J_aload_n dX9_delivers_0 rfl rfl ?_
  obtain ⟨k1, hf⟩ := gds hf
  obtain ⟨b2, rb2, hf⟩ := rfs hf
  refine G_9_0 dX9_delivers_1 tk_919 k1 rb2 ?_
  refine J_bipush (v := 93) dX9_delivers_4 (by decide) ?_
  obtain ⟨k3, hf⟩ := gds hf
  obtain ⟨n4, hf⟩ := gds hf
  refine J_iaload dX9_delivers_6 k3 n4 ?_
  obtain ⟨v5, ev5, hf⟩ := bls hf
  refine J_i ev5 ?_
  refine S_istore_n_1 dX9_delivers_7 rfl (by decide) ?_
  refine J_aload_n dX9_delivers_8 rfl rfl ?_
  obtain ⟨b6, rb6, hf⟩ := rfs hf
  refine G_9_0 dX9_delivers_9 tk_919 k1 rb6 ?_
  refine J_bipush (v := 94) dX9_delivers_12 (by decide) ?_
  obtain ⟨k7, hf⟩ := gds hf
  obtain ⟨n8, hf⟩ := gds hf
  refine J_iaload dX9_delivers_14 k7 n8 ?_
  obtain ⟨v9, ev9, hf⟩ := bls hf
  refine J_i ev9 ?_
  refine S_istore_n_2 dX9_delivers_15 rfl (by decide) ?_
  refine J_aload_n dX9_delivers_16 rfl rfl ?_
  refine J_aload_n dX9_delivers_17 rfl rfl ?_
  obtain ⟨b10, rb10, hf⟩ := rfs hf
  refine G_9_0 dX9_delivers_18 tk_919 k1 rb10 ?_
  refine J_bipush (v := 95) dX9_delivers_21 (by decide) ?_
  obtain ⟨k11, hf⟩ := gds hf
  obtain ⟨n12, hf⟩ := gds hf
  refine J_iaload dX9_delivers_23 k11 n12 ?_
  refine P_9_12 dX9_delivers_24 tk_931 k1 ?_
  obtain ⟨h13, eh13, hf⟩ := bls hf
  refine J_h eh13 ?_
  refine J_iconst (v := 0) dX9_delivers_27 (by decide) ?_
  refine S_istore_n_3 dX9_delivers_28 rfl (by decide) ?_
  refine J.sub (jsub_s (jsub_s (jsub_s (jsub_s (jsub_nil _))))) ?_
  exact wlX9_delivers_29 hst   _ _ _ _ _ _ _ _ hf
theorem mX9_delivers {g : JG} (hst : (jl g).stackTraces = false) {a0 : Nat} {z : Nat} {h : AH} {o : Nat × AH} (hf : fX9_delivers a0 z h = some o) : jMet g yX9_delivers (wj yX9_delivers cX9_delivers 4 none) rmX9_delivers [.ref a0] z h (none, o.1, o.2) :=
  jMet_mk (by decide) (Nat.le_of_ble_eq_true rfl) [some (.ref a0), none, none, none] rfl (wfX9_delivers hst hf)
def lX9_deliversUpTo_2B  (q2 : Nat → Int32 → Int32 → Nat → AH → Option (Int32 × Nat × AH)) (a0 : Nat) (x1 : Int32) (x2 : Int32) (z : Nat) (h : AH) : Option (Int32 × Nat × AH) :=
  (if x1 ≤ x2 then (some (x2, z, h)) else (gd (kd h a0 = 10) (Option.bind (rv h a0 0) (fun b3 => gd (kd h b3 = 13) (gd (¬ ((92 : Int32) < 0 ∨ ln h b3 ≤ Int32.toNatClampNeg 92)) ((if (iv h b3 (Int32.toNatClampNeg 92)) ≤ 0 then (some (x2, z, h)) else (bd2 (fX9_delivers a0 z h) (fun zo7 ho7h => q2 a0 x1 (x2 + 1) zo7 ho7h)))))))))
def lX9_deliversUpTo_2  : Nat → Nat → Int32 → Int32 → Nat → AH → Option (Int32 × Nat × AH)
  | 0 => fun _ _ _ _ _ => none
  | fuel + 1 => lX9_deliversUpTo_2B  (lX9_deliversUpTo_2  fuel)
def fX9_deliversUpTo  (a0 : Nat) (x1 : Int32) (z : Nat) (h : AH) : Option (Int32 × Nat × AH) :=
  lX9_deliversUpTo_2  fu a0 x1 0 z h
theorem wlX9_deliversUpTo_2 {g : JG} (hst : (jl g).stackTraces = false)   : ∀ (fuel : Nat) (a0 : Nat) (x1 : Int32) (x2 : Int32) (z : Nat) (h : AH) (o : Int32 × Nat × AH), lX9_deliversUpTo_2  fuel a0 x1 x2 z h = some o → J g MX9_deliversUpTo (jN g (some (.int o.1), o.2.1, o.2.2) rmX9_deliversUpTo.cells rmX9_deliversUpTo.slots) 2 [some (.ref a0), some (.int x1), some (.int x2)] [] z h 0 0 := by
  intro fuel
  induction fuel with
  | zero => intro a0 x1 x2 z h o hf; cases hf
  | succ fuel ih =>
    intro a0 x1 x2 z h o hf
    have hq2 := ih
    have hf : lX9_deliversUpTo_2B  (lX9_deliversUpTo_2  fuel) a0 x1 x2 z h = some o := hf
    generalize lX9_deliversUpTo_2  fuel = q2 at hf hq2
    unfold lX9_deliversUpTo_2B at hf
    refine J_iload_n dX9_deliversUpTo_2 rfl rfl ?_
    refine J_iload_n dX9_deliversUpTo_3 rfl rfl ?_
    rcases br hf with ⟨c1, hf⟩ | ⟨c1, hf⟩
    · refine J_icmp_ge (tgt := 27) dX9_deliversUpTo_4 (by decide) (fun _ => ?_) (fun w => absurd c1 w)
      refine J_iload_n dX9_deliversUpTo_27 rfl rfl ?_
      cases hf
      exact J_iretN dX9_deliversUpTo_28 rfl (by decide) (by decide)
    · refine J_icmp_ge (tgt := 27) dX9_deliversUpTo_4 (by decide) (fun w => absurd w c1) (fun _ => ?_)
      refine J_aload_n dX9_deliversUpTo_7 rfl rfl ?_
      obtain ⟨k2, hf⟩ := gds hf
      obtain ⟨b3, rb3, hf⟩ := rfs hf
      refine G_9_0 dX9_deliversUpTo_8 tk_919 k2 rb3 ?_
      refine J_bipush (v := 92) dX9_deliversUpTo_11 (by decide) ?_
      obtain ⟨k4, hf⟩ := gds hf
      obtain ⟨n5, hf⟩ := gds hf
      refine J_iaload dX9_deliversUpTo_13 k4 n5 ?_
      rcases br hf with ⟨c6, hf⟩ | ⟨c6, hf⟩
      · refine J_if_le (tgt := 27) dX9_deliversUpTo_14 (by decide) (fun _ => ?_) (fun w => absurd c6 w)
        refine J_iload_n dX9_deliversUpTo_27 rfl rfl ?_
        cases hf
        exact J_iretN dX9_deliversUpTo_28 rfl (by decide) (by decide)
      · refine J_if_le (tgt := 27) dX9_deliversUpTo_14 (by decide) (fun w => absurd w c6) (fun _ => ?_)
        refine J_aload_n dX9_deliversUpTo_17 rfl rfl ?_
        obtain ⟨zo7, ho7h, ho7, hf⟩ := rfs2 hf
        refine CV0v dX9_deliversUpTo_18 (mX9_delivers hst ho7) tk_1222 iX9_delivers k2 (by decide) rfl ⟨by decide, by decide⟩ ⟨by decide, by decide⟩ (Nat.le_of_ble_eq_true rfl) ?_
        refine S_iinc_2 (v := x2 + 1) dX9_deliversUpTo_21 (congrArg (fun w => x2 + w) (by decide)) rfl (by decide) ?_
        refine J_goto (tgt := 2) dX9_deliversUpTo_24 (by decide) ?_
        refine J.sub (jsub_s (jsub_s (jsub_s (jsub_nil _)))) ?_
        exact hq2 _ _ _ _ _ _ hf
theorem wfX9_deliversUpTo {g : JG} (hst : (jl g).stackTraces = false)   {a0 : Nat} {x1 : Int32} {z : Nat} {h : AH} {o : Int32 × Nat × AH} (hf : fX9_deliversUpTo  a0 x1 z h = some o) : J g MX9_deliversUpTo (jN g (some (.int o.1), o.2.1, o.2.2) rmX9_deliversUpTo.cells rmX9_deliversUpTo.slots) 0 [some (.ref a0), some (.int x1), none] [] z h 0 0 := by
  unfold fX9_deliversUpTo at hf
  refine J_iconst (v := 0) dX9_deliversUpTo_0 (by decide) ?_
  refine S_istore_n_2 dX9_deliversUpTo_1 rfl (by decide) ?_
  refine J.sub (jsub_s (jsub_s (jsub_s (jsub_nil _)))) ?_
  exact wlX9_deliversUpTo_2 hst   _ _ _ _ _ _ _ hf
theorem mX9_deliversUpTo {g : JG} (hst : (jl g).stackTraces = false) {a0 : Nat} {x1 : Int32} {z : Nat} {h : AH} {o : Int32 × Nat × AH} (hf : fX9_deliversUpTo a0 x1 z h = some o) : jMet g yX9_deliversUpTo (wj yX9_deliversUpTo cX9_deliversUpTo 3 (some .int)) rmX9_deliversUpTo [.ref a0, .int x1] z h (some (.int o.1), o.2.1, o.2.2) :=
  jMet_mk (by decide) (Nat.le_of_ble_eq_true rfl) [some (.ref a0), some (.int x1), none] rfl (wfX9_deliversUpTo hst hf)
def bX9_deliver_16  (a0 : Nat) (x1 : Int32) (u0 : Nat) (s1 : Int32) (z : Nat) (h : AH) : Option (Int32 × Nat × AH) :=
  gd (kd h u0 = 10) (bl (wI h u0 6 s1) (fun h2 => gd (kd h2 a0 = 10) ((if (iv h2 a0 6) ≤ 0 then (bd2 (fX9_begins a0 z h2) (fun zo5 ho5h => gd (kd ho5h a0 = 10) (bd3 (fX9_deliversUpTo a0 x1 zo5 ho5h) (fun vo7 zo7 ho7h => gd (kd ho7h a0 = 10) (bd2 (fX9_records a0 zo7 ho7h) (fun zo9 ho9h => some (vo7, zo9, ho9h))))))) else (some (0, z, h2))))))
def fX9_deliver  (a0 : Nat) (x1 : Int32) (z : Nat) (h : AH) : Option (Int32 × Nat × AH) :=
  bd3 (fX9_in x1 1 99 z h) (fun vo1 zo1 ho1h => (if vo1 = 0 then (bX9_deliver_16  a0 x1 a0 1 zo1 ho1h) else (bX9_deliver_16  a0 x1 a0 0 zo1 ho1h)))
theorem wbX9_deliver_16 {g : JG} (hst : (jl g).stackTraces = false)   {a0 : Nat} {x1 : Int32} {u0 : Nat} {s1 : Int32} {z : Nat} {h : AH} {o : Int32 × Nat × AH} (hf : bX9_deliver_16  a0 x1 u0 s1 z h = some o) : J g MX9_deliver (jN g (some (.int o.1), o.2.1, o.2.2) rmX9_deliver.cells rmX9_deliver.slots) 16 [some (.ref a0), some (.int x1), none] [.int s1, .ref u0] z h 0 0 := by
  unfold bX9_deliver_16 at hf
  obtain ⟨k1, hf⟩ := gds hf
  refine P_9_6 dX9_deliver_16 tk_925 k1 ?_
  obtain ⟨h2, eh2, hf⟩ := bls hf
  refine J_h eh2 ?_
  refine J_aload_n dX9_deliver_19 rfl rfl ?_
  obtain ⟨k3, hf⟩ := gds hf
  refine G_9_6 dX9_deliver_20 tk_925 k3 ?_
  rcases br hf with ⟨c4, hf⟩ | ⟨c4, hf⟩
  · refine J_if_le (tgt := 28) dX9_deliver_23 (by decide) (fun _ => ?_) (fun w => absurd c4 w)
    refine J_aload_n dX9_deliver_28 rfl rfl ?_
    obtain ⟨zo5, ho5h, ho5, hf⟩ := rfs2 hf
    refine CV0v dX9_deliver_29 (mX9_begins hst ho5) tk_999 iX9_begins k3 (by decide) rfl ⟨by decide, by decide⟩ ⟨by decide, by decide⟩ (Nat.le_of_ble_eq_true rfl) ?_
    refine J_aload_n dX9_deliver_32 rfl rfl ?_
    refine J_iload_n dX9_deliver_33 rfl rfl ?_
    obtain ⟨k6, hf⟩ := gds hf
    obtain ⟨vo7, zo7, ho7h, ho7, hf⟩ := rfs3 hf
    refine CV1i dX9_deliver_34 (mX9_deliversUpTo hst ho7) tk_1218 iX9_deliversUpTo k6 (by decide) rfl ⟨by decide, by decide⟩ ⟨by decide, by decide⟩ (Nat.le_of_ble_eq_true rfl) ?_
    refine S_istore_n_2 dX9_deliver_37 rfl (by decide) ?_
    refine J_aload_n dX9_deliver_38 rfl rfl ?_
    obtain ⟨k8, hf⟩ := gds hf
    obtain ⟨zo9, ho9h, ho9, hf⟩ := rfs2 hf
    refine CV0v dX9_deliver_39 (mX9_records hst ho9) tk_1003 iX9_records k8 (by decide) rfl ⟨by decide, by decide⟩ ⟨by decide, by decide⟩ (Nat.le_of_ble_eq_true rfl) ?_
    refine J_iload_n dX9_deliver_42 rfl rfl ?_
    cases hf
    exact J_iretN dX9_deliver_43 rfl (by decide) (by decide)
  · refine J_if_le (tgt := 28) dX9_deliver_23 (by decide) (fun w => absurd w c4) (fun _ => ?_)
    refine J_iconst (v := 0) dX9_deliver_26 (by decide) ?_
    cases hf
    exact J_iretN dX9_deliver_27 rfl (by decide) (by decide)
theorem wfX9_deliver {g : JG} (hst : (jl g).stackTraces = false)   {a0 : Nat} {x1 : Int32} {z : Nat} {h : AH} {o : Int32 × Nat × AH} (hf : fX9_deliver  a0 x1 z h = some o) : J g MX9_deliver (jN g (some (.int o.1), o.2.1, o.2.2) rmX9_deliver.cells rmX9_deliver.slots) 0 [some (.ref a0), some (.int x1), none] [] z h 0 0 := by
  unfold fX9_deliver at hf
  refine J_aload_n dX9_deliver_0 rfl rfl ?_
  refine J_iload_n dX9_deliver_1 rfl rfl ?_
  refine J_iconst (v := 1) dX9_deliver_2 (by decide) ?_
  refine J_bipush (v := 99) dX9_deliver_3 (by decide) ?_
  obtain ⟨vo1, zo1, ho1h, ho1, hf⟩ := rfs3 hf
  refine CS3i (host := "") dX9_deliver_5 (mX9_in hst ho1) tk_996 iX9_in ⟨by decide, by decide⟩ ⟨by decide, by decide⟩ (Nat.le_of_ble_eq_true rfl) ?_
  rcases br hf with ⟨c2, hf⟩ | ⟨c2, hf⟩
  · refine J_if_ne (tgt := 15) dX9_deliver_8 (by decide) (fun w => absurd c2 w) (fun _ => ?_)
    refine J_iconst (v := 1) dX9_deliver_11 (by decide) ?_
    refine J_goto (tgt := 16) dX9_deliver_12 (by decide) ?_
    refine J.sub (jsub_s (jsub_s (jsub_n (jsub_nil _)))) ?_
    exact wbX9_deliver_16 hst   hf
  · refine J_if_ne (tgt := 15) dX9_deliver_8 (by decide) (fun _ => ?_) (fun w => absurd w c2)
    refine J_iconst (v := 0) dX9_deliver_15 (by decide) ?_
    refine J.sub (jsub_s (jsub_s (jsub_n (jsub_nil _)))) ?_
    exact wbX9_deliver_16 hst   hf
theorem mX9_deliver {g : JG} (hst : (jl g).stackTraces = false) {a0 : Nat} {x1 : Int32} {z : Nat} {h : AH} {o : Int32 × Nat × AH} (hf : fX9_deliver a0 x1 z h = some o) : jMet g yX9_deliver (wj yX9_deliver cX9_deliver 3 (some .int)) rmX9_deliver [.ref a0, .int x1] z h (some (.int o.1), o.2.1, o.2.2) :=
  jMet_mk (by decide) (Nat.le_of_ble_eq_true rfl) [some (.ref a0), some (.int x1), none] rfl (wfX9_deliver hst hf)
def fX9_messages  (a0 : Nat) (z : Nat) (h : AH) : Option (Int32 × Nat × AH) :=
  gd (kd h a0 = 10) (bl (wI h a0 6 0) (fun h2 => Option.bind (rv h2 a0 0) (fun b4 => gd (kd h2 b4 = 13) (gd (¬ ((92 : Int32) < 0 ∨ ln h2 b4 ≤ Int32.toNatClampNeg 92)) (some ((iv h2 b4 (Int32.toNatClampNeg 92)), z, h2))))))
theorem wfX9_messages {g : JG} (hst : (jl g).stackTraces = false)   {a0 : Nat} {z : Nat} {h : AH} {o : Int32 × Nat × AH} (hf : fX9_messages  a0 z h = some o) : J g MX9_messages (jN g (some (.int o.1), o.2.1, o.2.2) rmX9_messages.cells rmX9_messages.slots) 0 [some (.ref a0)] [] z h 0 0 := by
  unfold fX9_messages at hf
  refine J_aload_n dX9_messages_0 rfl rfl ?_
  refine J_iconst (v := 0) dX9_messages_1 (by decide) ?_
  obtain ⟨k1, hf⟩ := gds hf
  refine P_9_6 dX9_messages_2 tk_925 k1 ?_
  obtain ⟨h2, eh2, hf⟩ := bls hf
  refine J_h eh2 ?_
  refine J_aload_n dX9_messages_5 rfl rfl ?_
  have k3 : kd h2 a0 = 10 := by rw [eh2]; exact k1
  obtain ⟨b4, rb4, hf⟩ := rfs hf
  refine G_9_0 dX9_messages_6 tk_919 k3 rb4 ?_
  refine J_bipush (v := 92) dX9_messages_9 (by decide) ?_
  obtain ⟨k5, hf⟩ := gds hf
  obtain ⟨n6, hf⟩ := gds hf
  refine J_iaload dX9_messages_11 k5 n6 ?_
  cases hf
  exact J_iretN dX9_messages_12 rfl (by decide) (by decide)
theorem mX9_messages {g : JG} (hst : (jl g).stackTraces = false) {a0 : Nat} {z : Nat} {h : AH} {o : Int32 × Nat × AH} (hf : fX9_messages a0 z h = some o) : jMet g yX9_messages (wj yX9_messages cX9_messages 1 (some .int)) rmX9_messages [.ref a0] z h (some (.int o.1), o.2.1, o.2.2) :=
  jMet_mk (by decide) (Nat.le_of_ble_eq_true rfl) [some (.ref a0)] rfl (wfX9_messages hst hf)
def lX9_mail_14B  (q14 : Nat → Int32 → Int32 → Int32 → Int32 → Nat → AH → Option (Int32 × Nat × AH)) (a0 : Nat) (x2 : Int32) (x3 : Int32) (x4 : Int32) (x5 : Int32) (z : Nat) (h : AH) : Option (Int32 × Nat × AH) :=
  gd (kd h a0 = 10) (Option.bind (rv h a0 0) (fun b2 => gd (kd h b2 = 13) (gd (¬ (((x3 + 2) : Int32) < 0 ∨ ln h b2 ≤ Int32.toNatClampNeg (x3 + 2))) ((if (iv h b2 (Int32.toNatClampNeg (x3 + 2))) ≤ x5 then ((if x2 = 0 then (Option.bind (rv h a0 0) (fun b19 => gd (kd h b19 = 13) (gd (¬ (((x3 + 3) : Int32) < 0 ∨ ln h b19 ≤ Int32.toNatClampNeg (x3 + 3))) (some ((iv h b19 (Int32.toNatClampNeg (x3 + 3))), z, h))))) else ((if x2 = 1 then (Option.bind (rv h a0 0) (fun b16 => gd (kd h b16 = 13) (gd (¬ (((x3 + 0) : Int32) < 0 ∨ ln h b16 ≤ Int32.toNatClampNeg (x3 + 0))) (some ((iv h b16 (Int32.toNatClampNeg (x3 + 0))), z, h))))) else ((if x2 = 2 then (Option.bind (rv h a0 0) (fun b13 => gd (kd h b13 = 13) (gd (¬ (((x3 + 1) : Int32) < 0 ∨ ln h b13 ≤ Int32.toNatClampNeg (x3 + 1))) (some ((iv h b13 (Int32.toNatClampNeg (x3 + 1))), z, h))))) else ((if x2 = 3 then (Option.bind (rv h a0 0) (fun b10 => gd (kd h b10 = 13) (gd (¬ (((x3 + 2) : Int32) < 0 ∨ ln h b10 ≤ Int32.toNatClampNeg (x3 + 2))) (some ((iv h b10 (Int32.toNatClampNeg (x3 + 2))), z, h))))) else (some (x4, z, h)))))))))) else (Option.bind (rv h a0 0) (fun b22 => gd (kd h b22 = 13) (gd (¬ ((((x3 + 3) + x5) : Int32) < 0 ∨ ln h b22 ≤ Int32.toNatClampNeg ((x3 + 3) + x5))) (bl ((x4 ||| (1 <<< ((iv h b22 (Int32.toNatClampNeg ((x3 + 3) + x5))) &&& 31)))) (fun v25 => q14 a0 x2 x3 v25 (x5 + 1) z h))))))))))
def lX9_mail_14  : Nat → Nat → Int32 → Int32 → Int32 → Int32 → Nat → AH → Option (Int32 × Nat × AH)
  | 0 => fun _ _ _ _ _ _ _ => none
  | fuel + 1 => lX9_mail_14B  (lX9_mail_14  fuel)
def fX9_mail  (a0 : Nat) (x1 : Int32) (x2 : Int32) (z : Nat) (h : AH) : Option (Int32 × Nat × AH) :=
  bl ((93 + (13 * x1))) (fun v1 => lX9_mail_14  fu a0 x2 v1 0 0 z h)
theorem wlX9_mail_14 {g : JG} (hst : (jl g).stackTraces = false)   : ∀ (fuel : Nat) (a0 : Nat) (x2 : Int32) (x3 : Int32) (x4 : Int32) (x5 : Int32) (z : Nat) (h : AH) (o : Int32 × Nat × AH), lX9_mail_14  fuel a0 x2 x3 x4 x5 z h = some o → J g MX9_mail (jN g (some (.int o.1), o.2.1, o.2.2) rmX9_mail.cells rmX9_mail.slots) 14 [some (.ref a0), none, some (.int x2), some (.int x3), some (.int x4), some (.int x5)] [] z h 0 0 := by
  intro fuel
  induction fuel with
  | zero => intro a0 x2 x3 x4 x5 z h o hf; cases hf
  | succ fuel ih =>
    intro a0 x2 x3 x4 x5 z h o hf
    have hq14 := ih
    have hf : lX9_mail_14B  (lX9_mail_14  fuel) a0 x2 x3 x4 x5 z h = some o := hf
    generalize lX9_mail_14  fuel = q14 at hf hq14
    unfold lX9_mail_14B at hf
    refine J_iload dX9_mail_14 rfl ?_
    refine J_aload_n dX9_mail_16 rfl rfl ?_
    obtain ⟨k1, hf⟩ := gds hf
    obtain ⟨b2, rb2, hf⟩ := rfs hf
    refine G_9_0 dX9_mail_17 tk_919 k1 rb2 ?_
    refine J_iload_n dX9_mail_20 rfl rfl ?_
    refine J_iconst (v := 2) dX9_mail_21 (by decide) ?_
    refine J_iadd dX9_mail_22 ?_
    obtain ⟨k3, hf⟩ := gds hf
    obtain ⟨n4, hf⟩ := gds hf
    refine J_iaload dX9_mail_23 k3 n4 ?_
    rcases br hf with ⟨c5, hf⟩ | ⟨c5, hf⟩
    · refine J_icmp_ge (tgt := 51) dX9_mail_24 (by decide) (fun _ => ?_) (fun w => absurd c5 w)
      refine J_iload_n dX9_mail_51 rfl rfl ?_
      rcases br hf with ⟨c6, hf⟩ | ⟨c6, hf⟩
      · refine J_if_ne (tgt := 66) dX9_mail_52 (by decide) (fun w => absurd c6 w) (fun _ => ?_)
        refine J_aload_n dX9_mail_55 rfl rfl ?_
        obtain ⟨b19, rb19, hf⟩ := rfs hf
        refine G_9_0 dX9_mail_56 tk_919 k1 rb19 ?_
        refine J_iload_n dX9_mail_59 rfl rfl ?_
        refine J_iconst (v := 3) dX9_mail_60 (by decide) ?_
        refine J_iadd dX9_mail_61 ?_
        obtain ⟨k20, hf⟩ := gds hf
        obtain ⟨n21, hf⟩ := gds hf
        refine J_iaload dX9_mail_62 k20 n21 ?_
        refine J_goto (tgt := 116) dX9_mail_63 (by decide) ?_
        cases hf
        exact J_iretN dX9_mail_116 rfl (by decide) (by decide)
      · refine J_if_ne (tgt := 66) dX9_mail_52 (by decide) (fun _ => ?_) (fun w => absurd w c6)
        refine J_iload_n dX9_mail_66 rfl rfl ?_
        refine J_iconst (v := 1) dX9_mail_67 (by decide) ?_
        rcases br hf with ⟨c7, hf⟩ | ⟨c7, hf⟩
        · refine J_icmp_ne (tgt := 82) dX9_mail_68 (by decide) (fun w => absurd c7 w) (fun _ => ?_)
          refine J_aload_n dX9_mail_71 rfl rfl ?_
          obtain ⟨b16, rb16, hf⟩ := rfs hf
          refine G_9_0 dX9_mail_72 tk_919 k1 rb16 ?_
          refine J_iload_n dX9_mail_75 rfl rfl ?_
          refine J_iconst (v := 0) dX9_mail_76 (by decide) ?_
          refine J_iadd dX9_mail_77 ?_
          obtain ⟨k17, hf⟩ := gds hf
          obtain ⟨n18, hf⟩ := gds hf
          refine J_iaload dX9_mail_78 k17 n18 ?_
          refine J_goto (tgt := 116) dX9_mail_79 (by decide) ?_
          cases hf
          exact J_iretN dX9_mail_116 rfl (by decide) (by decide)
        · refine J_icmp_ne (tgt := 82) dX9_mail_68 (by decide) (fun _ => ?_) (fun w => absurd w c7)
          refine J_iload_n dX9_mail_82 rfl rfl ?_
          refine J_iconst (v := 2) dX9_mail_83 (by decide) ?_
          rcases br hf with ⟨c8, hf⟩ | ⟨c8, hf⟩
          · refine J_icmp_ne (tgt := 98) dX9_mail_84 (by decide) (fun w => absurd c8 w) (fun _ => ?_)
            refine J_aload_n dX9_mail_87 rfl rfl ?_
            obtain ⟨b13, rb13, hf⟩ := rfs hf
            refine G_9_0 dX9_mail_88 tk_919 k1 rb13 ?_
            refine J_iload_n dX9_mail_91 rfl rfl ?_
            refine J_iconst (v := 1) dX9_mail_92 (by decide) ?_
            refine J_iadd dX9_mail_93 ?_
            obtain ⟨k14, hf⟩ := gds hf
            obtain ⟨n15, hf⟩ := gds hf
            refine J_iaload dX9_mail_94 k14 n15 ?_
            refine J_goto (tgt := 116) dX9_mail_95 (by decide) ?_
            cases hf
            exact J_iretN dX9_mail_116 rfl (by decide) (by decide)
          · refine J_icmp_ne (tgt := 98) dX9_mail_84 (by decide) (fun _ => ?_) (fun w => absurd w c8)
            refine J_iload_n dX9_mail_98 rfl rfl ?_
            refine J_iconst (v := 3) dX9_mail_99 (by decide) ?_
            rcases br hf with ⟨c9, hf⟩ | ⟨c9, hf⟩
            · refine J_icmp_ne (tgt := 114) dX9_mail_100 (by decide) (fun w => absurd c9 w) (fun _ => ?_)
              refine J_aload_n dX9_mail_103 rfl rfl ?_
              obtain ⟨b10, rb10, hf⟩ := rfs hf
              refine G_9_0 dX9_mail_104 tk_919 k1 rb10 ?_
              refine J_iload_n dX9_mail_107 rfl rfl ?_
              refine J_iconst (v := 2) dX9_mail_108 (by decide) ?_
              refine J_iadd dX9_mail_109 ?_
              obtain ⟨k11, hf⟩ := gds hf
              obtain ⟨n12, hf⟩ := gds hf
              refine J_iaload dX9_mail_110 k11 n12 ?_
              refine J_goto (tgt := 116) dX9_mail_111 (by decide) ?_
              cases hf
              exact J_iretN dX9_mail_116 rfl (by decide) (by decide)
            · refine J_icmp_ne (tgt := 114) dX9_mail_100 (by decide) (fun _ => ?_) (fun w => absurd w c9)
              refine J_iload dX9_mail_114 rfl ?_
              cases hf
              exact J_iretN dX9_mail_116 rfl (by decide) (by decide)
    · refine J_icmp_ge (tgt := 51) dX9_mail_24 (by decide) (fun w => absurd w c5) (fun _ => ?_)
      refine J_iload dX9_mail_27 rfl ?_
      refine J_iconst (v := 1) dX9_mail_29 (by decide) ?_
      refine J_aload_n dX9_mail_30 rfl rfl ?_
      obtain ⟨b22, rb22, hf⟩ := rfs hf
      refine G_9_0 dX9_mail_31 tk_919 k1 rb22 ?_
      refine J_iload_n dX9_mail_34 rfl rfl ?_
      refine J_iconst (v := 3) dX9_mail_35 (by decide) ?_
      refine J_iadd dX9_mail_36 ?_
      refine J_iload dX9_mail_37 rfl ?_
      refine J_iadd dX9_mail_39 ?_
      obtain ⟨k23, hf⟩ := gds hf
      obtain ⟨n24, hf⟩ := gds hf
      refine J_iaload dX9_mail_40 k23 n24 ?_
      refine J_ishl dX9_mail_41 ?_
      refine J_ior dX9_mail_42 ?_
      obtain ⟨v25, ev25, hf⟩ := bls hf
      refine J_i ev25 ?_
      refine S_istore_4 dX9_mail_43 rfl (by decide) ?_
      refine S_iinc_5 (v := x5 + 1) dX9_mail_45 (congrArg (fun w => x5 + w) (by decide)) rfl (by decide) ?_
      refine J_goto (tgt := 14) dX9_mail_48 (by decide) ?_
      refine J.sub (jsub_s (jsub_n (jsub_s (jsub_s (jsub_s (jsub_s (jsub_nil _))))))) ?_
      exact hq14 _ _ _ _ _ _ _ _ hf
theorem wfX9_mail {g : JG} (hst : (jl g).stackTraces = false)   {a0 : Nat} {x1 : Int32} {x2 : Int32} {z : Nat} {h : AH} {o : Int32 × Nat × AH} (hf : fX9_mail  a0 x1 x2 z h = some o) : J g MX9_mail (jN g (some (.int o.1), o.2.1, o.2.2) rmX9_mail.cells rmX9_mail.slots) 0 [some (.ref a0), some (.int x1), some (.int x2), none, none, none] [] z h 0 0 := by
  unfold fX9_mail at hf
  refine J_bipush (v := 93) dX9_mail_0 (by decide) ?_
  refine J_bipush (v := 13) dX9_mail_2 (by decide) ?_
  refine J_iload_n dX9_mail_4 rfl rfl ?_
  refine J_imul dX9_mail_5 ?_
  refine J_iadd dX9_mail_6 ?_
  obtain ⟨v1, ev1, hf⟩ := bls hf
  refine J_i ev1 ?_
  refine S_istore_n_3 dX9_mail_7 rfl (by decide) ?_
  refine J_iconst (v := 0) dX9_mail_8 (by decide) ?_
  refine S_istore_4 dX9_mail_9 rfl (by decide) ?_
  refine J_iconst (v := 0) dX9_mail_11 (by decide) ?_
  refine S_istore_5 dX9_mail_12 rfl (by decide) ?_
  refine J.sub (jsub_s (jsub_n (jsub_s (jsub_s (jsub_s (jsub_s (jsub_nil _))))))) ?_
  exact wlX9_mail_14 hst   _ _ _ _ _ _ _ _ _ hf
theorem mX9_mail {g : JG} (hst : (jl g).stackTraces = false) {a0 : Nat} {x1 : Int32} {x2 : Int32} {z : Nat} {h : AH} {o : Int32 × Nat × AH} (hf : fX9_mail a0 x1 x2 z h = some o) : jMet g yX9_mail (wj yX9_mail cX9_mail 6 (some .int)) rmX9_mail [.ref a0, .int x1, .int x2] z h (some (.int o.1), o.2.1, o.2.2) :=
  jMet_mk (by decide) (Nat.le_of_ble_eq_true rfl) [some (.ref a0), some (.int x1), some (.int x2), none, none, none] rfl (wfX9_mail hst hf)
def bX9_message_15  (a0 : Nat) (x1 : Int32) (x2 : Int32) (u0 : Nat) (s1 : Int32) (z : Nat) (h : AH) : Option (Int32 × Nat × AH) :=
  gd (kd h u0 = 10) (bl (wI h u0 6 s1) (fun h2 => gd (kd h2 a0 = 10) ((if (iv h2 a0 6) ≤ 0 then (Option.bind (rv h2 a0 0) (fun b5 => gd (kd h2 b5 = 13) (gd (¬ ((92 : Int32) < 0 ∨ ln h2 b5 ≤ Int32.toNatClampNeg 92)) (bd3 (fX9_in x1 0 ((iv h2 b5 (Int32.toNatClampNeg 92)) - 1) z h2) (fun vo8 zo8 ho8h => (if vo8 = 0 then (some ((-1), zo8, ho8h)) else (gd (kd ho8h a0 = 10) (bd3 (fX9_mail a0 x1 x2 zo8 ho8h) (fun vo11 zo11 ho11h => some (vo11, zo11, ho11h)))))))))) else (some (0, z, h2))))))
def fX9_message  (a0 : Nat) (x1 : Int32) (x2 : Int32) (z : Nat) (h : AH) : Option (Int32 × Nat × AH) :=
  bd3 (fX9_in x2 0 4 z h) (fun vo1 zo1 ho1h => (if vo1 = 0 then (bX9_message_15  a0 x1 x2 a0 1 zo1 ho1h) else (bX9_message_15  a0 x1 x2 a0 0 zo1 ho1h)))
theorem wbX9_message_15 {g : JG} (hst : (jl g).stackTraces = false)   {a0 : Nat} {x1 : Int32} {x2 : Int32} {u0 : Nat} {s1 : Int32} {z : Nat} {h : AH} {o : Int32 × Nat × AH} (hf : bX9_message_15  a0 x1 x2 u0 s1 z h = some o) : J g MX9_message (jN g (some (.int o.1), o.2.1, o.2.2) rmX9_message.cells rmX9_message.slots) 15 [some (.ref a0), some (.int x1), some (.int x2)] [.int s1, .ref u0] z h 0 0 := by
  unfold bX9_message_15 at hf
  obtain ⟨k1, hf⟩ := gds hf
  refine P_9_6 dX9_message_15 tk_925 k1 ?_
  obtain ⟨h2, eh2, hf⟩ := bls hf
  refine J_h eh2 ?_
  refine J_aload_n dX9_message_18 rfl rfl ?_
  obtain ⟨k3, hf⟩ := gds hf
  refine G_9_6 dX9_message_19 tk_925 k3 ?_
  rcases br hf with ⟨c4, hf⟩ | ⟨c4, hf⟩
  · refine J_if_le (tgt := 29) dX9_message_22 (by decide) (fun _ => ?_) (fun w => absurd c4 w)
    refine J_iload_n dX9_message_29 rfl rfl ?_
    refine J_iconst (v := 0) dX9_message_30 (by decide) ?_
    refine J_aload_n dX9_message_31 rfl rfl ?_
    obtain ⟨b5, rb5, hf⟩ := rfs hf
    refine G_9_0 dX9_message_32 tk_919 k3 rb5 ?_
    refine J_bipush (v := 92) dX9_message_35 (by decide) ?_
    obtain ⟨k6, hf⟩ := gds hf
    obtain ⟨n7, hf⟩ := gds hf
    refine J_iaload dX9_message_37 k6 n7 ?_
    refine J_iconst (v := 1) dX9_message_38 (by decide) ?_
    refine J_isub dX9_message_39 ?_
    obtain ⟨vo8, zo8, ho8h, ho8, hf⟩ := rfs3 hf
    refine CS3i (host := "") dX9_message_40 (mX9_in hst ho8) tk_996 iX9_in ⟨by decide, by decide⟩ ⟨by decide, by decide⟩ (Nat.le_of_ble_eq_true rfl) ?_
    rcases br hf with ⟨c9, hf⟩ | ⟨c9, hf⟩
    · refine J_if_eq (tgt := 55) dX9_message_43 (by decide) (fun _ => ?_) (fun w => absurd c9 w)
      refine J_iconst (v := (-1)) dX9_message_55 (by decide) ?_
      cases hf
      exact J_iretN dX9_message_56 rfl (by decide) (by decide)
    · refine J_if_eq (tgt := 55) dX9_message_43 (by decide) (fun w => absurd w c9) (fun _ => ?_)
      refine J_aload_n dX9_message_46 rfl rfl ?_
      refine J_iload_n dX9_message_47 rfl rfl ?_
      refine J_iload_n dX9_message_48 rfl rfl ?_
      obtain ⟨k10, hf⟩ := gds hf
      obtain ⟨vo11, zo11, ho11h, ho11, hf⟩ := rfs3 hf
      refine CV2i dX9_message_49 (mX9_mail hst ho11) tk_1258 iX9_mail k10 (by decide) rfl ⟨by decide, by decide⟩ ⟨by decide, by decide⟩ (Nat.le_of_ble_eq_true rfl) ?_
      refine J_goto (tgt := 56) dX9_message_52 (by decide) ?_
      cases hf
      exact J_iretN dX9_message_56 rfl (by decide) (by decide)
  · refine J_if_le (tgt := 29) dX9_message_22 (by decide) (fun w => absurd w c4) (fun _ => ?_)
    refine J_iconst (v := 0) dX9_message_25 (by decide) ?_
    refine J_goto (tgt := 56) dX9_message_26 (by decide) ?_
    cases hf
    exact J_iretN dX9_message_56 rfl (by decide) (by decide)
theorem wfX9_message {g : JG} (hst : (jl g).stackTraces = false)   {a0 : Nat} {x1 : Int32} {x2 : Int32} {z : Nat} {h : AH} {o : Int32 × Nat × AH} (hf : fX9_message  a0 x1 x2 z h = some o) : J g MX9_message (jN g (some (.int o.1), o.2.1, o.2.2) rmX9_message.cells rmX9_message.slots) 0 [some (.ref a0), some (.int x1), some (.int x2)] [] z h 0 0 := by
  unfold fX9_message at hf
  refine J_aload_n dX9_message_0 rfl rfl ?_
  refine J_iload_n dX9_message_1 rfl rfl ?_
  refine J_iconst (v := 0) dX9_message_2 (by decide) ?_
  refine J_iconst (v := 4) dX9_message_3 (by decide) ?_
  obtain ⟨vo1, zo1, ho1h, ho1, hf⟩ := rfs3 hf
  refine CS3i (host := "") dX9_message_4 (mX9_in hst ho1) tk_996 iX9_in ⟨by decide, by decide⟩ ⟨by decide, by decide⟩ (Nat.le_of_ble_eq_true rfl) ?_
  rcases br hf with ⟨c2, hf⟩ | ⟨c2, hf⟩
  · refine J_if_ne (tgt := 14) dX9_message_7 (by decide) (fun w => absurd c2 w) (fun _ => ?_)
    refine J_iconst (v := 1) dX9_message_10 (by decide) ?_
    refine J_goto (tgt := 15) dX9_message_11 (by decide) ?_
    refine J.sub (jsub_s (jsub_s (jsub_s (jsub_nil _)))) ?_
    exact wbX9_message_15 hst   hf
  · refine J_if_ne (tgt := 14) dX9_message_7 (by decide) (fun _ => ?_) (fun w => absurd w c2)
    refine J_iconst (v := 0) dX9_message_14 (by decide) ?_
    refine J.sub (jsub_s (jsub_s (jsub_s (jsub_nil _)))) ?_
    exact wbX9_message_15 hst   hf
theorem mX9_message {g : JG} (hst : (jl g).stackTraces = false) {a0 : Nat} {x1 : Int32} {x2 : Int32} {z : Nat} {h : AH} {o : Int32 × Nat × AH} (hf : fX9_message a0 x1 x2 z h = some o) : jMet g yX9_message (wj yX9_message cX9_message 3 (some .int)) rmX9_message [.ref a0, .int x1, .int x2] z h (some (.int o.1), o.2.1, o.2.2) :=
  jMet_mk (by decide) (Nat.le_of_ble_eq_true rfl) [some (.ref a0), some (.int x1), some (.int x2)] rfl (wfX9_message hst hf)
def bX9_told_16  (a0 : Nat) (x1 : Int32) (u0 : Nat) (s1 : Int32) (z : Nat) (h : AH) : Option (Int32 × Nat × AH) :=
  gd (kd h u0 = 10) (bl (wI h u0 6 s1) (fun h2 => gd (kd h2 a0 = 10) ((if (iv h2 a0 6) ≤ 0 then (Option.bind (rv h2 a0 3) (fun b5 => gd (kd h2 b5 = 13) (gd (¬ ((x1 : Int32) < 0 ∨ ln h2 b5 ≤ Int32.toNatClampNeg x1)) (some ((iv h2 b5 (Int32.toNatClampNeg x1)), z, h2))))) else (some (0, z, h2))))))
def fX9_told  (a0 : Nat) (x1 : Int32) (z : Nat) (h : AH) : Option (Int32 × Nat × AH) :=
  bd3 (fX9_in x1 0 7 z h) (fun vo1 zo1 ho1h => (if vo1 = 0 then (bX9_told_16  a0 x1 a0 1 zo1 ho1h) else (bX9_told_16  a0 x1 a0 0 zo1 ho1h)))
theorem wbX9_told_16 {g : JG} (hst : (jl g).stackTraces = false)   {a0 : Nat} {x1 : Int32} {u0 : Nat} {s1 : Int32} {z : Nat} {h : AH} {o : Int32 × Nat × AH} (hf : bX9_told_16  a0 x1 u0 s1 z h = some o) : J g MX9_told (jN g (some (.int o.1), o.2.1, o.2.2) rmX9_told.cells rmX9_told.slots) 16 [some (.ref a0), some (.int x1)] [.int s1, .ref u0] z h 0 0 := by
  unfold bX9_told_16 at hf
  obtain ⟨k1, hf⟩ := gds hf
  refine P_9_6 dX9_told_16 tk_925 k1 ?_
  obtain ⟨h2, eh2, hf⟩ := bls hf
  refine J_h eh2 ?_
  refine J_aload_n dX9_told_19 rfl rfl ?_
  obtain ⟨k3, hf⟩ := gds hf
  refine G_9_6 dX9_told_20 tk_925 k3 ?_
  rcases br hf with ⟨c4, hf⟩ | ⟨c4, hf⟩
  · refine J_if_le (tgt := 30) dX9_told_23 (by decide) (fun _ => ?_) (fun w => absurd c4 w)
    refine J_aload_n dX9_told_30 rfl rfl ?_
    obtain ⟨b5, rb5, hf⟩ := rfs hf
    refine G_9_3 dX9_told_31 tk_922 k3 rb5 ?_
    refine J_iload_n dX9_told_34 rfl rfl ?_
    obtain ⟨k6, hf⟩ := gds hf
    obtain ⟨n7, hf⟩ := gds hf
    refine J_iaload dX9_told_35 k6 n7 ?_
    cases hf
    exact J_iretN dX9_told_36 rfl (by decide) (by decide)
  · refine J_if_le (tgt := 30) dX9_told_23 (by decide) (fun w => absurd w c4) (fun _ => ?_)
    refine J_iconst (v := 0) dX9_told_26 (by decide) ?_
    refine J_goto (tgt := 36) dX9_told_27 (by decide) ?_
    cases hf
    exact J_iretN dX9_told_36 rfl (by decide) (by decide)
theorem wfX9_told {g : JG} (hst : (jl g).stackTraces = false)   {a0 : Nat} {x1 : Int32} {z : Nat} {h : AH} {o : Int32 × Nat × AH} (hf : fX9_told  a0 x1 z h = some o) : J g MX9_told (jN g (some (.int o.1), o.2.1, o.2.2) rmX9_told.cells rmX9_told.slots) 0 [some (.ref a0), some (.int x1)] [] z h 0 0 := by
  unfold fX9_told at hf
  refine J_aload_n dX9_told_0 rfl rfl ?_
  refine J_iload_n dX9_told_1 rfl rfl ?_
  refine J_iconst (v := 0) dX9_told_2 (by decide) ?_
  refine J_bipush (v := 7) dX9_told_3 (by decide) ?_
  obtain ⟨vo1, zo1, ho1h, ho1, hf⟩ := rfs3 hf
  refine CS3i (host := "") dX9_told_5 (mX9_in hst ho1) tk_996 iX9_in ⟨by decide, by decide⟩ ⟨by decide, by decide⟩ (Nat.le_of_ble_eq_true rfl) ?_
  rcases br hf with ⟨c2, hf⟩ | ⟨c2, hf⟩
  · refine J_if_ne (tgt := 15) dX9_told_8 (by decide) (fun w => absurd c2 w) (fun _ => ?_)
    refine J_iconst (v := 1) dX9_told_11 (by decide) ?_
    refine J_goto (tgt := 16) dX9_told_12 (by decide) ?_
    refine J.sub (jsub_s (jsub_s (jsub_nil _))) ?_
    exact wbX9_told_16 hst   hf
  · refine J_if_ne (tgt := 15) dX9_told_8 (by decide) (fun _ => ?_) (fun w => absurd w c2)
    refine J_iconst (v := 0) dX9_told_15 (by decide) ?_
    refine J.sub (jsub_s (jsub_s (jsub_nil _))) ?_
    exact wbX9_told_16 hst   hf
theorem mX9_told {g : JG} (hst : (jl g).stackTraces = false) {a0 : Nat} {x1 : Int32} {z : Nat} {h : AH} {o : Int32 × Nat × AH} (hf : fX9_told a0 x1 z h = some o) : jMet g yX9_told (wj yX9_told cX9_told 2 (some .int)) rmX9_told [.ref a0, .int x1] z h (some (.int o.1), o.2.1, o.2.2) :=
  jMet_mk (by decide) (Nat.le_of_ble_eq_true rfl) [some (.ref a0), some (.int x1)] rfl (wfX9_told hst hf)
def fX9_onCycles  (a0 : Nat) (z : Nat) (h : AH) : Option (Int32 × Nat × AH) :=
  gd (kd h a0 = 10) (bl (wI h a0 6 0) (fun h2 => bd3 (fX9_cyclic a0 1023 z h2) (fun vo4 zo4 ho4h => some (vo4, zo4, ho4h))))
theorem wfX9_onCycles {g : JG} (hst : (jl g).stackTraces = false)   {a0 : Nat} {z : Nat} {h : AH} {o : Int32 × Nat × AH} (hf : fX9_onCycles  a0 z h = some o) : J g MX9_onCycles (jN g (some (.int o.1), o.2.1, o.2.2) rmX9_onCycles.cells rmX9_onCycles.slots) 0 [some (.ref a0)] [] z h 0 0 := by
  unfold fX9_onCycles at hf
  refine J_aload_n dX9_onCycles_0 rfl rfl ?_
  refine J_iconst (v := 0) dX9_onCycles_1 (by decide) ?_
  obtain ⟨k1, hf⟩ := gds hf
  refine P_9_6 dX9_onCycles_2 tk_925 k1 ?_
  obtain ⟨h2, eh2, hf⟩ := bls hf
  refine J_h eh2 ?_
  refine J_aload_n dX9_onCycles_5 rfl rfl ?_
  refine J_sipush (v := 1023) dX9_onCycles_6 (by decide) ?_
  have k3 : kd h2 a0 = 10 := by rw [eh2]; exact k1
  obtain ⟨vo4, zo4, ho4h, ho4, hf⟩ := rfs3 hf
  refine CV1i dX9_onCycles_9 (mX9_cyclic hst ho4) tk_1242 iX9_cyclic k3 (by decide) rfl ⟨by decide, by decide⟩ ⟨by decide, by decide⟩ (Nat.le_of_ble_eq_true rfl) ?_
  cases hf
  exact J_iretN dX9_onCycles_12 rfl (by decide) (by decide)
theorem mX9_onCycles {g : JG} (hst : (jl g).stackTraces = false) {a0 : Nat} {z : Nat} {h : AH} {o : Int32 × Nat × AH} (hf : fX9_onCycles a0 z h = some o) : jMet g yX9_onCycles (wj yX9_onCycles cX9_onCycles 1 (some .int)) rmX9_onCycles [.ref a0] z h (some (.int o.1), o.2.1, o.2.2) :=
  jMet_mk (by decide) (Nat.le_of_ble_eq_true rfl) [some (.ref a0)] rfl (wfX9_onCycles hst hf)
def bX9_stuckTasks_37 (q12 : Nat → Int32 → Int32 → Int32 → Nat → AH → Option (Int32 × Nat × AH)) (a0 : Nat) (x1 : Int32) (x3 : Int32) (s0 : Int32) (s1 : Int32) (z : Nat) (h : AH) : Option (Int32 × Nat × AH) :=
  bl ((s0 ||| s1)) (fun v1 => q12 a0 x1 v1 (x3 + 1) z h)
def lX9_stuckTasks_12B  (q12 : Nat → Int32 → Int32 → Int32 → Nat → AH → Option (Int32 × Nat × AH)) (a0 : Nat) (x1 : Int32) (x2 : Int32) (x3 : Int32) (z : Nat) (h : AH) : Option (Int32 × Nat × AH) :=
  (if 10 ≤ x3 then (some (x2, z, h)) else (gd (kd h a0 = 10) (Option.bind (rv h a0 14) (fun b3 => gd (kd h b3 = 13) (gd (¬ ((x3 : Int32) < 0 ∨ ln h b3 ≤ Int32.toNatClampNeg x3)) ((if ((iv h b3 (Int32.toNatClampNeg x3)) &&& x1) = 0 then (bX9_stuckTasks_37 q12 a0 x1 x3 x2 0 z h) else (bX9_stuckTasks_37 q12 a0 x1 x3 x2 (1 <<< (x3 &&& 31)) z h))))))))
def lX9_stuckTasks_12  : Nat → Nat → Int32 → Int32 → Int32 → Nat → AH → Option (Int32 × Nat × AH)
  | 0 => fun _ _ _ _ _ _ => none
  | fuel + 1 => lX9_stuckTasks_12B  (lX9_stuckTasks_12  fuel)
def fX9_stuckTasks  (a0 : Nat) (z : Nat) (h : AH) : Option (Int32 × Nat × AH) :=
  gd (kd h a0 = 10) (bd3 (fX9_cyclic a0 1023 z h) (fun vo2 zo2 ho2h => lX9_stuckTasks_12  fu a0 vo2 vo2 0 zo2 ho2h))
theorem wbX9_stuckTasks_37 {g : JG} (hst : (jl g).stackTraces = false) (q12 : Nat → Int32 → Int32 → Int32 → Nat → AH → Option (Int32 × Nat × AH)) (hq12 : ∀ (a0 : Nat) (x1 : Int32) (x2 : Int32) (x3 : Int32) (z : Nat) (h : AH) (o : Int32 × Nat × AH), q12 a0 x1 x2 x3 z h = some o → J g MX9_stuckTasks (jN g (some (.int o.1), o.2.1, o.2.2) rmX9_stuckTasks.cells rmX9_stuckTasks.slots) 12 [some (.ref a0), some (.int x1), some (.int x2), some (.int x3)] [] z h 0 0) {a0 : Nat} {x1 : Int32} {x3 : Int32} {s0 : Int32} {s1 : Int32} {z : Nat} {h : AH} {o : Int32 × Nat × AH} (hf : bX9_stuckTasks_37 q12 a0 x1 x3 s0 s1 z h = some o) : J g MX9_stuckTasks (jN g (some (.int o.1), o.2.1, o.2.2) rmX9_stuckTasks.cells rmX9_stuckTasks.slots) 37 [some (.ref a0), some (.int x1), none, some (.int x3)] [.int s1, .int s0] z h 0 0 := by
  unfold bX9_stuckTasks_37 at hf
  refine J_ior dX9_stuckTasks_37 ?_
  obtain ⟨v1, ev1, hf⟩ := bls hf
  refine J_i ev1 ?_
  refine S_istore_n_2 dX9_stuckTasks_38 rfl (by decide) ?_
  refine S_iinc_3 (v := x3 + 1) dX9_stuckTasks_39 (congrArg (fun w => x3 + w) (by decide)) rfl (by decide) ?_
  refine J_goto (tgt := 12) dX9_stuckTasks_42 (by decide) ?_
  refine J.sub (jsub_s (jsub_s (jsub_s (jsub_s (jsub_nil _))))) ?_
  exact hq12 _ _ _ _ _ _ _ hf
theorem wlX9_stuckTasks_12 {g : JG} (hst : (jl g).stackTraces = false)   : ∀ (fuel : Nat) (a0 : Nat) (x1 : Int32) (x2 : Int32) (x3 : Int32) (z : Nat) (h : AH) (o : Int32 × Nat × AH), lX9_stuckTasks_12  fuel a0 x1 x2 x3 z h = some o → J g MX9_stuckTasks (jN g (some (.int o.1), o.2.1, o.2.2) rmX9_stuckTasks.cells rmX9_stuckTasks.slots) 12 [some (.ref a0), some (.int x1), some (.int x2), some (.int x3)] [] z h 0 0 := by
  intro fuel
  induction fuel with
  | zero => intro a0 x1 x2 x3 z h o hf; cases hf
  | succ fuel ih =>
    intro a0 x1 x2 x3 z h o hf
    have hq12 := ih
    have hf : lX9_stuckTasks_12B  (lX9_stuckTasks_12  fuel) a0 x1 x2 x3 z h = some o := hf
    generalize lX9_stuckTasks_12  fuel = q12 at hf hq12
    unfold lX9_stuckTasks_12B at hf
    refine J_iload_n dX9_stuckTasks_12 rfl rfl ?_
    refine J_bipush (v := 10) dX9_stuckTasks_13 (by decide) ?_
    rcases br hf with ⟨c1, hf⟩ | ⟨c1, hf⟩
    · refine J_icmp_ge (tgt := 45) dX9_stuckTasks_15 (by decide) (fun _ => ?_) (fun w => absurd c1 w)
      refine J_iload_n dX9_stuckTasks_45 rfl rfl ?_
      cases hf
      exact J_iretN dX9_stuckTasks_46 rfl (by decide) (by decide)
    · refine J_icmp_ge (tgt := 45) dX9_stuckTasks_15 (by decide) (fun w => absurd w c1) (fun _ => ?_)
      refine J_iload_n dX9_stuckTasks_18 rfl rfl ?_
      refine J_aload_n dX9_stuckTasks_19 rfl rfl ?_
      obtain ⟨k2, hf⟩ := gds hf
      obtain ⟨b3, rb3, hf⟩ := rfs hf
      refine G_9_14 dX9_stuckTasks_20 tk_933 k2 rb3 ?_
      refine J_iload_n dX9_stuckTasks_23 rfl rfl ?_
      obtain ⟨k4, hf⟩ := gds hf
      obtain ⟨n5, hf⟩ := gds hf
      refine J_iaload dX9_stuckTasks_24 k4 n5 ?_
      refine J_iload_n dX9_stuckTasks_25 rfl rfl ?_
      refine J_iand dX9_stuckTasks_26 ?_
      rcases br hf with ⟨c6, hf⟩ | ⟨c6, hf⟩
      · refine J_if_eq (tgt := 36) dX9_stuckTasks_27 (by decide) (fun _ => ?_) (fun w => absurd c6 w)
        refine J_iconst (v := 0) dX9_stuckTasks_36 (by decide) ?_
        refine J.sub (jsub_s (jsub_s (jsub_n (jsub_s (jsub_nil _))))) ?_
        exact wbX9_stuckTasks_37 hst _ hq12 hf
      · refine J_if_eq (tgt := 36) dX9_stuckTasks_27 (by decide) (fun w => absurd w c6) (fun _ => ?_)
        refine J_iconst (v := 1) dX9_stuckTasks_30 (by decide) ?_
        refine J_iload_n dX9_stuckTasks_31 rfl rfl ?_
        refine J_ishl dX9_stuckTasks_32 ?_
        refine J_goto (tgt := 37) dX9_stuckTasks_33 (by decide) ?_
        refine J.sub (jsub_s (jsub_s (jsub_n (jsub_s (jsub_nil _))))) ?_
        exact wbX9_stuckTasks_37 hst _ hq12 hf
theorem wfX9_stuckTasks {g : JG} (hst : (jl g).stackTraces = false)   {a0 : Nat} {z : Nat} {h : AH} {o : Int32 × Nat × AH} (hf : fX9_stuckTasks  a0 z h = some o) : J g MX9_stuckTasks (jN g (some (.int o.1), o.2.1, o.2.2) rmX9_stuckTasks.cells rmX9_stuckTasks.slots) 0 [some (.ref a0), none, none, none] [] z h 0 0 := by
  unfold fX9_stuckTasks at hf
  refine J_aload_n dX9_stuckTasks_0 rfl rfl ?_
  refine J_sipush (v := 1023) dX9_stuckTasks_1 (by decide) ?_
  obtain ⟨k1, hf⟩ := gds hf
  obtain ⟨vo2, zo2, ho2h, ho2, hf⟩ := rfs3 hf
  refine CV1i dX9_stuckTasks_4 (mX9_cyclic hst ho2) tk_1242 iX9_cyclic k1 (by decide) rfl ⟨by decide, by decide⟩ ⟨by decide, by decide⟩ (Nat.le_of_ble_eq_true rfl) ?_
  refine S_istore_n_1 dX9_stuckTasks_7 rfl (by decide) ?_
  refine J_iload_n dX9_stuckTasks_8 rfl rfl ?_
  refine S_istore_n_2 dX9_stuckTasks_9 rfl (by decide) ?_
  refine J_iconst (v := 0) dX9_stuckTasks_10 (by decide) ?_
  refine S_istore_n_3 dX9_stuckTasks_11 rfl (by decide) ?_
  refine J.sub (jsub_s (jsub_s (jsub_s (jsub_s (jsub_nil _))))) ?_
  exact wlX9_stuckTasks_12 hst   _ _ _ _ _ _ _ _ hf
theorem mX9_stuckTasks {g : JG} (hst : (jl g).stackTraces = false) {a0 : Nat} {z : Nat} {h : AH} {o : Int32 × Nat × AH} (hf : fX9_stuckTasks a0 z h = some o) : jMet g yX9_stuckTasks (wj yX9_stuckTasks cX9_stuckTasks 4 (some .int)) rmX9_stuckTasks [.ref a0] z h (some (.int o.1), o.2.1, o.2.2) :=
  jMet_mk (by decide) (Nat.le_of_ble_eq_true rfl) [some (.ref a0), none, none, none] rfl (wfX9_stuckTasks hst hf)
def fX9_stuck  (a0 : Nat) (z : Nat) (h : AH) : Option (Int32 × Nat × AH) :=
  gd (kd h a0 = 10) (bl (wI h a0 6 0) (fun h2 => bd3 (fX9_stuckTasks a0 z h2) (fun vo4 zo4 ho4h => some (vo4, zo4, ho4h))))
theorem wfX9_stuck {g : JG} (hst : (jl g).stackTraces = false)   {a0 : Nat} {z : Nat} {h : AH} {o : Int32 × Nat × AH} (hf : fX9_stuck  a0 z h = some o) : J g MX9_stuck (jN g (some (.int o.1), o.2.1, o.2.2) rmX9_stuck.cells rmX9_stuck.slots) 0 [some (.ref a0)] [] z h 0 0 := by
  unfold fX9_stuck at hf
  refine J_aload_n dX9_stuck_0 rfl rfl ?_
  refine J_iconst (v := 0) dX9_stuck_1 (by decide) ?_
  obtain ⟨k1, hf⟩ := gds hf
  refine P_9_6 dX9_stuck_2 tk_925 k1 ?_
  obtain ⟨h2, eh2, hf⟩ := bls hf
  refine J_h eh2 ?_
  refine J_aload_n dX9_stuck_5 rfl rfl ?_
  have k3 : kd h2 a0 = 10 := by rw [eh2]; exact k1
  obtain ⟨vo4, zo4, ho4h, ho4, hf⟩ := rfs3 hf
  refine CV0i dX9_stuck_6 (mX9_stuckTasks hst ho4) tk_1274 iX9_stuckTasks k3 (by decide) rfl ⟨by decide, by decide⟩ ⟨by decide, by decide⟩ (Nat.le_of_ble_eq_true rfl) ?_
  cases hf
  exact J_iretN dX9_stuck_9 rfl (by decide) (by decide)
theorem mX9_stuck {g : JG} (hst : (jl g).stackTraces = false) {a0 : Nat} {z : Nat} {h : AH} {o : Int32 × Nat × AH} (hf : fX9_stuck a0 z h = some o) : jMet g yX9_stuck (wj yX9_stuck cX9_stuck 1 (some .int)) rmX9_stuck [.ref a0] z h (some (.int o.1), o.2.1, o.2.2) :=
  jMet_mk (by decide) (Nat.le_of_ble_eq_true rfl) [some (.ref a0)] rfl (wfX9_stuck hst hf)
def bX9_shortestCycle_95 (q65 : Nat → Int32 → Int32 → Int32 → Int32 → Int32 → Nat → AH → Option (Int32 × Nat × AH)) (a0 : Nat) (x1 : Int32) (x2 : Int32) (x3 : Int32) (x5 : Int32) (s0 : Int32) (s1 : Int32) (z : Nat) (h : AH) : Option (Int32 × Nat × AH) :=
  bl ((s0 ||| s1)) (fun v1 => q65 a0 x1 x2 x3 v1 (x5 + 1) z h)
def lX9_shortestCycle_65B (q42 : Nat → Int32 → Int32 → Int32 → Nat → AH → Option (Int32 × Nat × AH)) (q65 : Nat → Int32 → Int32 → Int32 → Int32 → Int32 → Nat → AH → Option (Int32 × Nat × AH)) (a0 : Nat) (x1 : Int32) (x2 : Int32) (x3 : Int32) (x4 : Int32) (x5 : Int32) (z : Nat) (h : AH) : Option (Int32 × Nat × AH) :=
  (if 10 ≤ x5 then (q42 a0 x1 x4 (x3 + 1) z h) else ((if ((x2 >>> (x5 &&& 31)) &&& 1) = 1 then (gd (kd h a0 = 10) (Option.bind (rv h a0 13) (fun b4 => gd (kd h b4 = 13) (gd (¬ ((x5 : Int32) < 0 ∨ ln h b4 ≤ Int32.toNatClampNeg x5)) (bX9_shortestCycle_95 q65 a0 x1 x2 x3 x5 x4 (iv h b4 (Int32.toNatClampNeg x5)) z h))))) else (bX9_shortestCycle_95 q65 a0 x1 x2 x3 x5 x4 0 z h))))
def lX9_shortestCycle_65 (q42 : Nat → Int32 → Int32 → Int32 → Nat → AH → Option (Int32 × Nat × AH)) : Nat → Nat → Int32 → Int32 → Int32 → Int32 → Int32 → Nat → AH → Option (Int32 × Nat × AH)
  | 0 => fun _ _ _ _ _ _ _ _ => none
  | fuel + 1 => lX9_shortestCycle_65B q42 (lX9_shortestCycle_65 q42 fuel)
def lX9_shortestCycle_42B  (q42 : Nat → Int32 → Int32 → Int32 → Nat → AH → Option (Int32 × Nat × AH)) (a0 : Nat) (x1 : Int32) (x2 : Int32) (x3 : Int32) (z : Nat) (h : AH) : Option (Int32 × Nat × AH) :=
  (if 10 < x3 then (some ((-1), z, h)) else ((if ((x2 >>> (x1 &&& 31)) &&& 1) = 1 then (some (x3, z, h)) else (lX9_shortestCycle_65 q42 fu a0 x1 x2 x3 x2 0 z h))))
def lX9_shortestCycle_42  : Nat → Nat → Int32 → Int32 → Int32 → Nat → AH → Option (Int32 × Nat × AH)
  | 0 => fun _ _ _ _ _ _ => none
  | fuel + 1 => lX9_shortestCycle_42B  (lX9_shortestCycle_42  fuel)
def bX9_shortestCycle_14  (a0 : Nat) (x1 : Int32) (u0 : Nat) (s1 : Int32) (z : Nat) (h : AH) : Option (Int32 × Nat × AH) :=
  gd (kd h u0 = 10) (bl (wI h u0 6 s1) (fun h2 => gd (kd h2 a0 = 10) ((if (iv h2 a0 6) ≤ 0 then (bd2 (fX9_lays a0 1023 z h2) (fun zo5 ho5h => gd (kd ho5h a0 = 10) (Option.bind (rv ho5h a0 13) (fun b7 => gd (kd ho5h b7 = 13) (gd (¬ ((x1 : Int32) < 0 ∨ ln ho5h b7 ≤ Int32.toNatClampNeg x1)) (bl ((iv ho5h b7 (Int32.toNatClampNeg x1))) (fun v10 => lX9_shortestCycle_42  fu a0 x1 v10 1 zo5 ho5h))))))) else (some (0, z, h2))))))
def fX9_shortestCycle  (a0 : Nat) (x1 : Int32) (z : Nat) (h : AH) : Option (Int32 × Nat × AH) :=
  gd (kd h a0 = 10) (bd3 (fX9_isTask a0 x1 z h) (fun vo2 zo2 ho2h => (if vo2 = 0 then (bX9_shortestCycle_14  a0 x1 a0 1 zo2 ho2h) else (bX9_shortestCycle_14  a0 x1 a0 0 zo2 ho2h))))
theorem wbX9_shortestCycle_95 {g : JG} (hst : (jl g).stackTraces = false) (q65 : Nat → Int32 → Int32 → Int32 → Int32 → Int32 → Nat → AH → Option (Int32 × Nat × AH)) (hq65 : ∀ (a0 : Nat) (x1 : Int32) (x2 : Int32) (x3 : Int32) (x4 : Int32) (x5 : Int32) (z : Nat) (h : AH) (o : Int32 × Nat × AH), q65 a0 x1 x2 x3 x4 x5 z h = some o → J g MX9_shortestCycle (jN g (some (.int o.1), o.2.1, o.2.2) rmX9_shortestCycle.cells rmX9_shortestCycle.slots) 65 [some (.ref a0), some (.int x1), some (.int x2), some (.int x3), some (.int x4), some (.int x5)] [] z h 0 0) {a0 : Nat} {x1 : Int32} {x2 : Int32} {x3 : Int32} {x5 : Int32} {s0 : Int32} {s1 : Int32} {z : Nat} {h : AH} {o : Int32 × Nat × AH} (hf : bX9_shortestCycle_95 q65 a0 x1 x2 x3 x5 s0 s1 z h = some o) : J g MX9_shortestCycle (jN g (some (.int o.1), o.2.1, o.2.2) rmX9_shortestCycle.cells rmX9_shortestCycle.slots) 95 [some (.ref a0), some (.int x1), some (.int x2), some (.int x3), none, some (.int x5)] [.int s1, .int s0] z h 0 0 := by
  unfold bX9_shortestCycle_95 at hf
  refine J_ior dX9_shortestCycle_95 ?_
  obtain ⟨v1, ev1, hf⟩ := bls hf
  refine J_i ev1 ?_
  refine S_istore_4 dX9_shortestCycle_96 rfl (by decide) ?_
  refine S_iinc_5 (v := x5 + 1) dX9_shortestCycle_98 (congrArg (fun w => x5 + w) (by decide)) rfl (by decide) ?_
  refine J_goto (tgt := 65) dX9_shortestCycle_101 (by decide) ?_
  refine J.sub (jsub_s (jsub_s (jsub_s (jsub_s (jsub_s (jsub_s (jsub_nil _))))))) ?_
  exact hq65 _ _ _ _ _ _ _ _ _ hf
theorem wlX9_shortestCycle_65 {g : JG} (hst : (jl g).stackTraces = false) (q42 : Nat → Int32 → Int32 → Int32 → Nat → AH → Option (Int32 × Nat × AH)) (hq42 : ∀ (a0 : Nat) (x1 : Int32) (x2 : Int32) (x3 : Int32) (z : Nat) (h : AH) (o : Int32 × Nat × AH), q42 a0 x1 x2 x3 z h = some o → J g MX9_shortestCycle (jN g (some (.int o.1), o.2.1, o.2.2) rmX9_shortestCycle.cells rmX9_shortestCycle.slots) 42 [some (.ref a0), some (.int x1), some (.int x2), some (.int x3), none, none] [] z h 0 0) : ∀ (fuel : Nat) (a0 : Nat) (x1 : Int32) (x2 : Int32) (x3 : Int32) (x4 : Int32) (x5 : Int32) (z : Nat) (h : AH) (o : Int32 × Nat × AH), lX9_shortestCycle_65 q42 fuel a0 x1 x2 x3 x4 x5 z h = some o → J g MX9_shortestCycle (jN g (some (.int o.1), o.2.1, o.2.2) rmX9_shortestCycle.cells rmX9_shortestCycle.slots) 65 [some (.ref a0), some (.int x1), some (.int x2), some (.int x3), some (.int x4), some (.int x5)] [] z h 0 0 := by
  intro fuel
  induction fuel with
  | zero => intro a0 x1 x2 x3 x4 x5 z h o hf; cases hf
  | succ fuel ih =>
    intro a0 x1 x2 x3 x4 x5 z h o hf
    have hq65 := ih
    have hf : lX9_shortestCycle_65B q42 (lX9_shortestCycle_65 q42 fuel) a0 x1 x2 x3 x4 x5 z h = some o := hf
    generalize lX9_shortestCycle_65 q42 fuel = q65 at hf hq65
    unfold lX9_shortestCycle_65B at hf
    refine J_iload dX9_shortestCycle_65 rfl ?_
    refine J_bipush (v := 10) dX9_shortestCycle_67 (by decide) ?_
    rcases br hf with ⟨c1, hf⟩ | ⟨c1, hf⟩
    · refine J_icmp_ge (tgt := 104) dX9_shortestCycle_69 (by decide) (fun _ => ?_) (fun w => absurd c1 w)
      refine J_iload dX9_shortestCycle_104 rfl ?_
      refine S_istore_n_2 dX9_shortestCycle_106 rfl (by decide) ?_
      refine S_iinc_3 (v := x3 + 1) dX9_shortestCycle_107 (congrArg (fun w => x3 + w) (by decide)) rfl (by decide) ?_
      refine J_goto (tgt := 42) dX9_shortestCycle_110 (by decide) ?_
      refine J.sub (jsub_s (jsub_s (jsub_s (jsub_s (jsub_n (jsub_n (jsub_nil _))))))) ?_
      exact hq42 _ _ _ _ _ _ _ hf
    · refine J_icmp_ge (tgt := 104) dX9_shortestCycle_69 (by decide) (fun w => absurd w c1) (fun _ => ?_)
      refine J_iload dX9_shortestCycle_72 rfl ?_
      refine J_iload_n dX9_shortestCycle_74 rfl rfl ?_
      refine J_iload dX9_shortestCycle_75 rfl ?_
      refine J_ishr dX9_shortestCycle_77 ?_
      refine J_iconst (v := 1) dX9_shortestCycle_78 (by decide) ?_
      refine J_iand dX9_shortestCycle_79 ?_
      refine J_iconst (v := 1) dX9_shortestCycle_80 (by decide) ?_
      rcases br hf with ⟨c2, hf⟩ | ⟨c2, hf⟩
      · refine J_icmp_ne (tgt := 94) dX9_shortestCycle_81 (by decide) (fun w => absurd c2 w) (fun _ => ?_)
        refine J_aload_n dX9_shortestCycle_84 rfl rfl ?_
        obtain ⟨k3, hf⟩ := gds hf
        obtain ⟨b4, rb4, hf⟩ := rfs hf
        refine G_9_13 dX9_shortestCycle_85 tk_932 k3 rb4 ?_
        refine J_iload dX9_shortestCycle_88 rfl ?_
        obtain ⟨k5, hf⟩ := gds hf
        obtain ⟨n6, hf⟩ := gds hf
        refine J_iaload dX9_shortestCycle_90 k5 n6 ?_
        refine J_goto (tgt := 95) dX9_shortestCycle_91 (by decide) ?_
        refine J.sub (jsub_s (jsub_s (jsub_s (jsub_s (jsub_n (jsub_s (jsub_nil _))))))) ?_
        exact wbX9_shortestCycle_95 hst _ hq65 hf
      · refine J_icmp_ne (tgt := 94) dX9_shortestCycle_81 (by decide) (fun _ => ?_) (fun w => absurd w c2)
        refine J_iconst (v := 0) dX9_shortestCycle_94 (by decide) ?_
        refine J.sub (jsub_s (jsub_s (jsub_s (jsub_s (jsub_n (jsub_s (jsub_nil _))))))) ?_
        exact wbX9_shortestCycle_95 hst _ hq65 hf
theorem wlX9_shortestCycle_42 {g : JG} (hst : (jl g).stackTraces = false)   : ∀ (fuel : Nat) (a0 : Nat) (x1 : Int32) (x2 : Int32) (x3 : Int32) (z : Nat) (h : AH) (o : Int32 × Nat × AH), lX9_shortestCycle_42  fuel a0 x1 x2 x3 z h = some o → J g MX9_shortestCycle (jN g (some (.int o.1), o.2.1, o.2.2) rmX9_shortestCycle.cells rmX9_shortestCycle.slots) 42 [some (.ref a0), some (.int x1), some (.int x2), some (.int x3), none, none] [] z h 0 0 := by
  intro fuel
  induction fuel with
  | zero => intro a0 x1 x2 x3 z h o hf; cases hf
  | succ fuel ih =>
    intro a0 x1 x2 x3 z h o hf
    have hq42 := ih
    have hf : lX9_shortestCycle_42B  (lX9_shortestCycle_42  fuel) a0 x1 x2 x3 z h = some o := hf
    generalize lX9_shortestCycle_42  fuel = q42 at hf hq42
    unfold lX9_shortestCycle_42B at hf
    refine J_iload_n dX9_shortestCycle_42 rfl rfl ?_
    refine J_bipush (v := 10) dX9_shortestCycle_43 (by decide) ?_
    rcases br hf with ⟨c1, hf⟩ | ⟨c1, hf⟩
    · refine J_icmp_gt (tgt := 113) dX9_shortestCycle_45 (by decide) (fun _ => ?_) (fun w => absurd c1 w)
      refine J_iconst (v := (-1)) dX9_shortestCycle_113 (by decide) ?_
      cases hf
      exact J_iretN dX9_shortestCycle_114 rfl (by decide) (by decide)
    · refine J_icmp_gt (tgt := 113) dX9_shortestCycle_45 (by decide) (fun w => absurd w c1) (fun _ => ?_)
      refine J_iload_n dX9_shortestCycle_48 rfl rfl ?_
      refine J_iload_n dX9_shortestCycle_49 rfl rfl ?_
      refine J_ishr dX9_shortestCycle_50 ?_
      refine J_iconst (v := 1) dX9_shortestCycle_51 (by decide) ?_
      refine J_iand dX9_shortestCycle_52 ?_
      refine J_iconst (v := 1) dX9_shortestCycle_53 (by decide) ?_
      rcases br hf with ⟨c2, hf⟩ | ⟨c2, hf⟩
      · refine J_icmp_ne (tgt := 59) dX9_shortestCycle_54 (by decide) (fun w => absurd c2 w) (fun _ => ?_)
        refine J_iload_n dX9_shortestCycle_57 rfl rfl ?_
        cases hf
        exact J_iretN dX9_shortestCycle_58 rfl (by decide) (by decide)
      · refine J_icmp_ne (tgt := 59) dX9_shortestCycle_54 (by decide) (fun _ => ?_) (fun w => absurd w c2)
        refine J_iload_n dX9_shortestCycle_59 rfl rfl ?_
        refine S_istore_4 dX9_shortestCycle_60 rfl (by decide) ?_
        refine J_iconst (v := 0) dX9_shortestCycle_62 (by decide) ?_
        refine S_istore_5 dX9_shortestCycle_63 rfl (by decide) ?_
        refine J.sub (jsub_s (jsub_s (jsub_s (jsub_s (jsub_s (jsub_s (jsub_nil _))))))) ?_
        exact wlX9_shortestCycle_65 hst _ hq42 _ _ _ _ _ _ _ _ _ _ hf
theorem wbX9_shortestCycle_14 {g : JG} (hst : (jl g).stackTraces = false)   {a0 : Nat} {x1 : Int32} {u0 : Nat} {s1 : Int32} {z : Nat} {h : AH} {o : Int32 × Nat × AH} (hf : bX9_shortestCycle_14  a0 x1 u0 s1 z h = some o) : J g MX9_shortestCycle (jN g (some (.int o.1), o.2.1, o.2.2) rmX9_shortestCycle.cells rmX9_shortestCycle.slots) 14 [some (.ref a0), some (.int x1), none, none, none, none] [.int s1, .ref u0] z h 0 0 := by
  unfold bX9_shortestCycle_14 at hf
  obtain ⟨k1, hf⟩ := gds hf
  refine P_9_6 dX9_shortestCycle_14 tk_925 k1 ?_
  obtain ⟨h2, eh2, hf⟩ := bls hf
  refine J_h eh2 ?_
  refine J_aload_n dX9_shortestCycle_17 rfl rfl ?_
  obtain ⟨k3, hf⟩ := gds hf
  refine G_9_6 dX9_shortestCycle_18 tk_925 k3 ?_
  rcases br hf with ⟨c4, hf⟩ | ⟨c4, hf⟩
  · refine J_if_le (tgt := 26) dX9_shortestCycle_21 (by decide) (fun _ => ?_) (fun w => absurd c4 w)
    refine J_aload_n dX9_shortestCycle_26 rfl rfl ?_
    refine J_sipush (v := 1023) dX9_shortestCycle_27 (by decide) ?_
    obtain ⟨zo5, ho5h, ho5, hf⟩ := rfs2 hf
    refine CV1v dX9_shortestCycle_30 (mX9_lays hst ho5) tk_1246 iX9_lays k3 (by decide) rfl ⟨by decide, by decide⟩ ⟨by decide, by decide⟩ (Nat.le_of_ble_eq_true rfl) ?_
    refine J_aload_n dX9_shortestCycle_33 rfl rfl ?_
    obtain ⟨k6, hf⟩ := gds hf
    obtain ⟨b7, rb7, hf⟩ := rfs hf
    refine G_9_13 dX9_shortestCycle_34 tk_932 k6 rb7 ?_
    refine J_iload_n dX9_shortestCycle_37 rfl rfl ?_
    obtain ⟨k8, hf⟩ := gds hf
    obtain ⟨n9, hf⟩ := gds hf
    refine J_iaload dX9_shortestCycle_38 k8 n9 ?_
    obtain ⟨v10, ev10, hf⟩ := bls hf
    refine J_i ev10 ?_
    refine S_istore_n_2 dX9_shortestCycle_39 rfl (by decide) ?_
    refine J_iconst (v := 1) dX9_shortestCycle_40 (by decide) ?_
    refine S_istore_n_3 dX9_shortestCycle_41 rfl (by decide) ?_
    refine J.sub (jsub_s (jsub_s (jsub_s (jsub_s (jsub_n (jsub_n (jsub_nil _))))))) ?_
    exact wlX9_shortestCycle_42 hst   _ _ _ _ _ _ _ _ hf
  · refine J_if_le (tgt := 26) dX9_shortestCycle_21 (by decide) (fun w => absurd w c4) (fun _ => ?_)
    refine J_iconst (v := 0) dX9_shortestCycle_24 (by decide) ?_
    cases hf
    exact J_iretN dX9_shortestCycle_25 rfl (by decide) (by decide)
theorem wfX9_shortestCycle {g : JG} (hst : (jl g).stackTraces = false)   {a0 : Nat} {x1 : Int32} {z : Nat} {h : AH} {o : Int32 × Nat × AH} (hf : fX9_shortestCycle  a0 x1 z h = some o) : J g MX9_shortestCycle (jN g (some (.int o.1), o.2.1, o.2.2) rmX9_shortestCycle.cells rmX9_shortestCycle.slots) 0 [some (.ref a0), some (.int x1), none, none, none, none] [] z h 0 0 := by
  unfold fX9_shortestCycle at hf
  refine J_aload_n dX9_shortestCycle_0 rfl rfl ?_
  refine J_aload_n dX9_shortestCycle_1 rfl rfl ?_
  refine J_iload_n dX9_shortestCycle_2 rfl rfl ?_
  obtain ⟨k1, hf⟩ := gds hf
  obtain ⟨vo2, zo2, ho2h, ho2, hf⟩ := rfs3 hf
  refine CV1i dX9_shortestCycle_3 (mX9_isTask hst ho2) tk_1019 iX9_isTask k1 (by decide) rfl ⟨by decide, by decide⟩ ⟨by decide, by decide⟩ (Nat.le_of_ble_eq_true rfl) ?_
  rcases br hf with ⟨c3, hf⟩ | ⟨c3, hf⟩
  · refine J_if_ne (tgt := 13) dX9_shortestCycle_6 (by decide) (fun w => absurd c3 w) (fun _ => ?_)
    refine J_iconst (v := 1) dX9_shortestCycle_9 (by decide) ?_
    refine J_goto (tgt := 14) dX9_shortestCycle_10 (by decide) ?_
    refine J.sub (jsub_s (jsub_s (jsub_n (jsub_n (jsub_n (jsub_n (jsub_nil _))))))) ?_
    exact wbX9_shortestCycle_14 hst   hf
  · refine J_if_ne (tgt := 13) dX9_shortestCycle_6 (by decide) (fun _ => ?_) (fun w => absurd w c3)
    refine J_iconst (v := 0) dX9_shortestCycle_13 (by decide) ?_
    refine J.sub (jsub_s (jsub_s (jsub_n (jsub_n (jsub_n (jsub_n (jsub_nil _))))))) ?_
    exact wbX9_shortestCycle_14 hst   hf
theorem mX9_shortestCycle {g : JG} (hst : (jl g).stackTraces = false) {a0 : Nat} {x1 : Int32} {z : Nat} {h : AH} {o : Int32 × Nat × AH} (hf : fX9_shortestCycle a0 x1 z h = some o) : jMet g yX9_shortestCycle (wj yX9_shortestCycle cX9_shortestCycle 6 (some .int)) rmX9_shortestCycle [.ref a0, .int x1] z h (some (.int o.1), o.2.1, o.2.2) :=
  jMet_mk (by decide) (Nat.le_of_ble_eq_true rfl) [some (.ref a0), some (.int x1), none, none, none, none] rfl (wfX9_shortestCycle hst hf)
def bX9_cycles_208 (q42 : Nat → Int32 → Int32 → Int32 → Int32 → Nat → AH → Option (Int32 × Nat × AH)) (a0 : Nat) (x2 : Int32) (x3 : Int32) (x4 : Int32) (s0 : Int32) (s1 : Int32) (z : Nat) (h : AH) : Option (Int32 × Nat × AH) :=
  bl ((s0 + s1)) (fun v1 => q42 a0 v1 x2 x3 (x4 + 1) z h)
def bX9_cycles_172 (q42 : Nat → Int32 → Int32 → Int32 → Int32 → Nat → AH → Option (Int32 × Nat × AH)) (a0 : Nat) (x1 : Int32) (x2 : Int32) (x3 : Int32) (x4 : Int32) (x6 : Int32) (z : Nat) (h : AH) : Option (Int32 × Nat × AH) :=
  gd (kd h a0 = 10) (Option.bind (rv h a0 15) (fun b2 => gd (kd h b2 = 13) (gd (¬ ((((10 * x2) + x4) : Int32) < 0 ∨ ln h b2 ≤ Int32.toNatClampNeg ((10 * x2) + x4))) (bl (wI h b2 (Int32.toNatClampNeg ((10 * x2) + x4)) x6) (fun h5 => Option.bind (rv h5 a0 13) (fun b7 => gd (kd h5 b7 = 13) (gd (¬ ((x4 : Int32) < 0 ∨ ln h5 b7 ≤ Int32.toNatClampNeg x4)) ((if (((iv h5 b7 (Int32.toNatClampNeg x4)) >>> (x3 &&& 31)) &&& 1) = 1 then (bX9_cycles_208 q42 a0 x2 x3 x4 x1 x6 z h5) else (bX9_cycles_208 q42 a0 x2 x3 x4 x1 0 z h5))))))))))
def bX9_cycles_163 (q94 : Nat → Int32 → Int32 → Int32 → Int32 → Int32 → Int32 → Int32 → Nat → AH → Option (Int32 × Nat × AH)) (a0 : Nat) (x1 : Int32) (x2 : Int32) (x3 : Int32) (x4 : Int32) (x7 : Int32) (x8 : Int32) (s0 : Int32) (s1 : Int32) (z : Nat) (h : AH) : Option (Int32 × Nat × AH) :=
  bl ((s0 + s1)) (fun v1 => q94 a0 x1 x2 x3 x4 v1 x7 (x8 + 1) z h)
def bX9_cycles_162 (q94 : Nat → Int32 → Int32 → Int32 → Int32 → Int32 → Int32 → Int32 → Nat → AH → Option (Int32 × Nat × AH)) (a0 : Nat) (x1 : Int32) (x2 : Int32) (x3 : Int32) (x4 : Int32) (x7 : Int32) (x8 : Int32) (s0 : Int32) (z : Nat) (h : AH) : Option (Int32 × Nat × AH) :=
  bX9_cycles_163 q94 a0 x1 x2 x3 x4 x7 x8 s0 0 z h
def lX9_cycles_94B (q42 : Nat → Int32 → Int32 → Int32 → Int32 → Nat → AH → Option (Int32 × Nat × AH)) (q94 : Nat → Int32 → Int32 → Int32 → Int32 → Int32 → Int32 → Int32 → Nat → AH → Option (Int32 × Nat × AH)) (a0 : Nat) (x1 : Int32) (x2 : Int32) (x3 : Int32) (x4 : Int32) (x6 : Int32) (x7 : Int32) (x8 : Int32) (z : Nat) (h : AH) : Option (Int32 × Nat × AH) :=
  (if 10 ≤ x8 then (bX9_cycles_172 q42 a0 x1 x2 x3 x4 x6 z h) else ((if x4 ≤ x3 then (bX9_cycles_172 q42 a0 x1 x2 x3 x4 x6 z h) else ((if ((x2 >>> (x4 &&& 31)) &&& 1) = 1 then ((if ((x7 >>> (x8 &&& 31)) &&& 1) = 1 then (gd (kd h a0 = 10) (Option.bind (rv h a0 13) (fun b6 => gd (kd h b6 = 13) (gd (¬ ((x8 : Int32) < 0 ∨ ln h b6 ≤ Int32.toNatClampNeg x8)) ((if (((iv h b6 (Int32.toNatClampNeg x8)) >>> (x4 &&& 31)) &&& 1) = 1 then (Option.bind (rv h a0 15) (fun b10 => gd (kd h b10 = 13) (gd (¬ ((((10 * x7) + x8) : Int32) < 0 ∨ ln h b10 ≤ Int32.toNatClampNeg ((10 * x7) + x8))) (bX9_cycles_163 q94 a0 x1 x2 x3 x4 x7 x8 x6 (iv h b10 (Int32.toNatClampNeg ((10 * x7) + x8))) z h)))) else (bX9_cycles_162 q94 a0 x1 x2 x3 x4 x7 x8 x6 z h))))))) else (bX9_cycles_162 q94 a0 x1 x2 x3 x4 x7 x8 x6 z h))) else (bX9_cycles_172 q42 a0 x1 x2 x3 x4 x6 z h))))))
def lX9_cycles_94 (q42 : Nat → Int32 → Int32 → Int32 → Int32 → Nat → AH → Option (Int32 × Nat × AH)) : Nat → Nat → Int32 → Int32 → Int32 → Int32 → Int32 → Int32 → Int32 → Nat → AH → Option (Int32 × Nat × AH)
  | 0 => fun _ _ _ _ _ _ _ _ _ _ => none
  | fuel + 1 => lX9_cycles_94B q42 (lX9_cycles_94 q42 fuel)
def bX9_cycles_79 (q42 : Nat → Int32 → Int32 → Int32 → Int32 → Nat → AH → Option (Int32 × Nat × AH)) (a0 : Nat) (x1 : Int32) (x2 : Int32) (x3 : Int32) (x4 : Int32) (s0 : Int32) (z : Nat) (h : AH) : Option (Int32 × Nat × AH) :=
  bl ((x2 &&& ((1 <<< (x4 &&& 31)) ^^^ (-1)))) (fun v1 => lX9_cycles_94 q42 fu a0 x1 x2 x3 x4 s0 v1 x3 z h)
def bX9_cycles_67 (q42 : Nat → Int32 → Int32 → Int32 → Int32 → Nat → AH → Option (Int32 × Nat × AH)) (a0 : Nat) (x1 : Int32) (x2 : Int32) (x3 : Int32) (x4 : Int32) (s0 : Int32) (z : Nat) (h : AH) : Option (Int32 × Nat × AH) :=
  (if s0 = 0 then (bX9_cycles_79 q42 a0 x1 x2 x3 x4 0 z h) else (bX9_cycles_79 q42 a0 x1 x2 x3 x4 1 z h))
def bX9_cycles_66 (q42 : Nat → Int32 → Int32 → Int32 → Int32 → Nat → AH → Option (Int32 × Nat × AH)) (a0 : Nat) (x1 : Int32) (x2 : Int32) (x3 : Int32) (x4 : Int32) (z : Nat) (h : AH) : Option (Int32 × Nat × AH) :=
  bX9_cycles_67 q42 a0 x1 x2 x3 x4 0 z h
def lX9_cycles_42B (q16 : Nat → Int32 → Int32 → Nat → AH → Option (Int32 × Nat × AH)) (q42 : Nat → Int32 → Int32 → Int32 → Int32 → Nat → AH → Option (Int32 × Nat × AH)) (a0 : Nat) (x1 : Int32) (x2 : Int32) (x3 : Int32) (x4 : Int32) (z : Nat) (h : AH) : Option (Int32 × Nat × AH) :=
  (if 10 ≤ x4 then (q16 a0 x1 (x2 + 1) z h) else ((if x2 = (1 <<< (x3 &&& 31)) then ((if x4 = x3 then (bX9_cycles_67 q42 a0 x1 x2 x3 x4 1 z h) else (bX9_cycles_66 q42 a0 x1 x2 x3 x4 z h))) else (bX9_cycles_66 q42 a0 x1 x2 x3 x4 z h))))
def lX9_cycles_42 (q16 : Nat → Int32 → Int32 → Nat → AH → Option (Int32 × Nat × AH)) : Nat → Nat → Int32 → Int32 → Int32 → Int32 → Nat → AH → Option (Int32 × Nat × AH)
  | 0 => fun _ _ _ _ _ _ _ => none
  | fuel + 1 => lX9_cycles_42B q16 (lX9_cycles_42 q16 fuel)
def lX9_cycles_25B (q16 : Nat → Int32 → Int32 → Nat → AH → Option (Int32 × Nat × AH)) (q25 : Nat → Int32 → Int32 → Int32 → Nat → AH → Option (Int32 × Nat × AH)) (a0 : Nat) (x1 : Int32) (x2 : Int32) (x3 : Int32) (z : Nat) (h : AH) : Option (Int32 × Nat × AH) :=
  (if ((x2 >>> (x3 &&& 31)) &&& 1) = 0 then (q25 a0 x1 x2 (x3 + 1) z h) else (lX9_cycles_42 q16 fu a0 x1 x2 x3 x3 z h))
def lX9_cycles_25 (q16 : Nat → Int32 → Int32 → Nat → AH → Option (Int32 × Nat × AH)) : Nat → Nat → Int32 → Int32 → Int32 → Nat → AH → Option (Int32 × Nat × AH)
  | 0 => fun _ _ _ _ _ _ => none
  | fuel + 1 => lX9_cycles_25B q16 (lX9_cycles_25 q16 fuel)
def lX9_cycles_16B  (q16 : Nat → Int32 → Int32 → Nat → AH → Option (Int32 × Nat × AH)) (a0 : Nat) (x1 : Int32) (x2 : Int32) (z : Nat) (h : AH) : Option (Int32 × Nat × AH) :=
  (if 1024 ≤ x2 then (some (x1, z, h)) else (lX9_cycles_25 q16 fu a0 x1 x2 0 z h))
def lX9_cycles_16  : Nat → Nat → Int32 → Int32 → Nat → AH → Option (Int32 × Nat × AH)
  | 0 => fun _ _ _ _ _ => none
  | fuel + 1 => lX9_cycles_16B  (lX9_cycles_16  fuel)
def fX9_cycles  (a0 : Nat) (z : Nat) (h : AH) : Option (Int32 × Nat × AH) :=
  gd (kd h a0 = 10) (bl (wI h a0 6 0) (fun h2 => bd2 (fX9_lays a0 1023 z h2) (fun zo4 ho4h => lX9_cycles_16  fu a0 0 1 zo4 ho4h)))
theorem wbX9_cycles_208 {g : JG} (hst : (jl g).stackTraces = false) (q42 : Nat → Int32 → Int32 → Int32 → Int32 → Nat → AH → Option (Int32 × Nat × AH)) (hq42 : ∀ (a0 : Nat) (x1 : Int32) (x2 : Int32) (x3 : Int32) (x4 : Int32) (z : Nat) (h : AH) (o : Int32 × Nat × AH), q42 a0 x1 x2 x3 x4 z h = some o → J g MX9_cycles (jN g (some (.int o.1), o.2.1, o.2.2) rmX9_cycles.cells rmX9_cycles.slots) 42 [some (.ref a0), some (.int x1), some (.int x2), some (.int x3), some (.int x4), none, none, none, none] [] z h 0 0) {a0 : Nat} {x2 : Int32} {x3 : Int32} {x4 : Int32} {s0 : Int32} {s1 : Int32} {z : Nat} {h : AH} {o : Int32 × Nat × AH} (hf : bX9_cycles_208 q42 a0 x2 x3 x4 s0 s1 z h = some o) : J g MX9_cycles (jN g (some (.int o.1), o.2.1, o.2.2) rmX9_cycles.cells rmX9_cycles.slots) 208 [some (.ref a0), none, some (.int x2), some (.int x3), some (.int x4), none, none, none, none] [.int s1, .int s0] z h 0 0 := by
  unfold bX9_cycles_208 at hf
  refine J_iadd dX9_cycles_208 ?_
  obtain ⟨v1, ev1, hf⟩ := bls hf
  refine J_i ev1 ?_
  refine S_istore_n_1 dX9_cycles_209 rfl (by decide) ?_
  refine S_iinc_4 (v := x4 + 1) dX9_cycles_210 (congrArg (fun w => x4 + w) (by decide)) rfl (by decide) ?_
  refine J_goto (tgt := 42) dX9_cycles_213 (by decide) ?_
  refine J.sub (jsub_s (jsub_s (jsub_s (jsub_s (jsub_s (jsub_n (jsub_n (jsub_n (jsub_n (jsub_nil _)))))))))) ?_
  exact hq42 _ _ _ _ _ _ _ _ hf
theorem wbX9_cycles_172 {g : JG} (hst : (jl g).stackTraces = false) (q42 : Nat → Int32 → Int32 → Int32 → Int32 → Nat → AH → Option (Int32 × Nat × AH)) (hq42 : ∀ (a0 : Nat) (x1 : Int32) (x2 : Int32) (x3 : Int32) (x4 : Int32) (z : Nat) (h : AH) (o : Int32 × Nat × AH), q42 a0 x1 x2 x3 x4 z h = some o → J g MX9_cycles (jN g (some (.int o.1), o.2.1, o.2.2) rmX9_cycles.cells rmX9_cycles.slots) 42 [some (.ref a0), some (.int x1), some (.int x2), some (.int x3), some (.int x4), none, none, none, none] [] z h 0 0) {a0 : Nat} {x1 : Int32} {x2 : Int32} {x3 : Int32} {x4 : Int32} {x6 : Int32} {z : Nat} {h : AH} {o : Int32 × Nat × AH} (hf : bX9_cycles_172 q42 a0 x1 x2 x3 x4 x6 z h = some o) : J g MX9_cycles (jN g (some (.int o.1), o.2.1, o.2.2) rmX9_cycles.cells rmX9_cycles.slots) 172 [some (.ref a0), some (.int x1), some (.int x2), some (.int x3), some (.int x4), none, some (.int x6), none, none] [] z h 0 0 := by
  unfold bX9_cycles_172 at hf
  refine J_aload_n dX9_cycles_172 rfl rfl ?_
  obtain ⟨k1, hf⟩ := gds hf
  obtain ⟨b2, rb2, hf⟩ := rfs hf
  refine G_9_15 dX9_cycles_173 tk_934 k1 rb2 ?_
  refine J_bipush (v := 10) dX9_cycles_176 (by decide) ?_
  refine J_iload_n dX9_cycles_178 rfl rfl ?_
  refine J_imul dX9_cycles_179 ?_
  refine J_iload dX9_cycles_180 rfl ?_
  refine J_iadd dX9_cycles_182 ?_
  refine J_iload dX9_cycles_183 rfl ?_
  obtain ⟨k3, hf⟩ := gds hf
  obtain ⟨n4, hf⟩ := gds hf
  refine J_iastore dX9_cycles_185 k3 n4 ?_
  obtain ⟨h5, eh5, hf⟩ := bls hf
  refine J_h eh5 ?_
  refine J_iload_n dX9_cycles_186 rfl rfl ?_
  refine J_aload_n dX9_cycles_187 rfl rfl ?_
  have k6 : kd h5 a0 = 10 := by rw [eh5]; exact k1
  obtain ⟨b7, rb7, hf⟩ := rfs hf
  refine G_9_13 dX9_cycles_188 tk_932 k6 rb7 ?_
  refine J_iload dX9_cycles_191 rfl ?_
  obtain ⟨k8, hf⟩ := gds hf
  obtain ⟨n9, hf⟩ := gds hf
  refine J_iaload dX9_cycles_193 k8 n9 ?_
  refine J_iload_n dX9_cycles_194 rfl rfl ?_
  refine J_ishr dX9_cycles_195 ?_
  refine J_iconst (v := 1) dX9_cycles_196 (by decide) ?_
  refine J_iand dX9_cycles_197 ?_
  refine J_iconst (v := 1) dX9_cycles_198 (by decide) ?_
  rcases br hf with ⟨c10, hf⟩ | ⟨c10, hf⟩
  · refine J_icmp_ne (tgt := 207) dX9_cycles_199 (by decide) (fun w => absurd c10 w) (fun _ => ?_)
    refine J_iload dX9_cycles_202 rfl ?_
    refine J_goto (tgt := 208) dX9_cycles_204 (by decide) ?_
    refine J.sub (jsub_s (jsub_n (jsub_s (jsub_s (jsub_s (jsub_n (jsub_n (jsub_n (jsub_n (jsub_nil _)))))))))) ?_
    exact wbX9_cycles_208 hst _ hq42 hf
  · refine J_icmp_ne (tgt := 207) dX9_cycles_199 (by decide) (fun _ => ?_) (fun w => absurd w c10)
    refine J_iconst (v := 0) dX9_cycles_207 (by decide) ?_
    refine J.sub (jsub_s (jsub_n (jsub_s (jsub_s (jsub_s (jsub_n (jsub_n (jsub_n (jsub_n (jsub_nil _)))))))))) ?_
    exact wbX9_cycles_208 hst _ hq42 hf
theorem wbX9_cycles_163 {g : JG} (hst : (jl g).stackTraces = false) (q94 : Nat → Int32 → Int32 → Int32 → Int32 → Int32 → Int32 → Int32 → Nat → AH → Option (Int32 × Nat × AH)) (hq94 : ∀ (a0 : Nat) (x1 : Int32) (x2 : Int32) (x3 : Int32) (x4 : Int32) (x6 : Int32) (x7 : Int32) (x8 : Int32) (z : Nat) (h : AH) (o : Int32 × Nat × AH), q94 a0 x1 x2 x3 x4 x6 x7 x8 z h = some o → J g MX9_cycles (jN g (some (.int o.1), o.2.1, o.2.2) rmX9_cycles.cells rmX9_cycles.slots) 94 [some (.ref a0), some (.int x1), some (.int x2), some (.int x3), some (.int x4), none, some (.int x6), some (.int x7), some (.int x8)] [] z h 0 0) {a0 : Nat} {x1 : Int32} {x2 : Int32} {x3 : Int32} {x4 : Int32} {x7 : Int32} {x8 : Int32} {s0 : Int32} {s1 : Int32} {z : Nat} {h : AH} {o : Int32 × Nat × AH} (hf : bX9_cycles_163 q94 a0 x1 x2 x3 x4 x7 x8 s0 s1 z h = some o) : J g MX9_cycles (jN g (some (.int o.1), o.2.1, o.2.2) rmX9_cycles.cells rmX9_cycles.slots) 163 [some (.ref a0), some (.int x1), some (.int x2), some (.int x3), some (.int x4), none, none, some (.int x7), some (.int x8)] [.int s1, .int s0] z h 0 0 := by
  unfold bX9_cycles_163 at hf
  refine J_iadd dX9_cycles_163 ?_
  obtain ⟨v1, ev1, hf⟩ := bls hf
  refine J_i ev1 ?_
  refine S_istore_6 dX9_cycles_164 rfl (by decide) ?_
  refine S_iinc_8 (v := x8 + 1) dX9_cycles_166 (congrArg (fun w => x8 + w) (by decide)) rfl (by decide) ?_
  refine J_goto (tgt := 94) dX9_cycles_169 (by decide) ?_
  refine J.sub (jsub_s (jsub_s (jsub_s (jsub_s (jsub_s (jsub_n (jsub_s (jsub_s (jsub_s (jsub_nil _)))))))))) ?_
  exact hq94 _ _ _ _ _ _ _ _ _ _ _ hf
theorem wbX9_cycles_162 {g : JG} (hst : (jl g).stackTraces = false) (q94 : Nat → Int32 → Int32 → Int32 → Int32 → Int32 → Int32 → Int32 → Nat → AH → Option (Int32 × Nat × AH)) (hq94 : ∀ (a0 : Nat) (x1 : Int32) (x2 : Int32) (x3 : Int32) (x4 : Int32) (x6 : Int32) (x7 : Int32) (x8 : Int32) (z : Nat) (h : AH) (o : Int32 × Nat × AH), q94 a0 x1 x2 x3 x4 x6 x7 x8 z h = some o → J g MX9_cycles (jN g (some (.int o.1), o.2.1, o.2.2) rmX9_cycles.cells rmX9_cycles.slots) 94 [some (.ref a0), some (.int x1), some (.int x2), some (.int x3), some (.int x4), none, some (.int x6), some (.int x7), some (.int x8)] [] z h 0 0) {a0 : Nat} {x1 : Int32} {x2 : Int32} {x3 : Int32} {x4 : Int32} {x7 : Int32} {x8 : Int32} {s0 : Int32} {z : Nat} {h : AH} {o : Int32 × Nat × AH} (hf : bX9_cycles_162 q94 a0 x1 x2 x3 x4 x7 x8 s0 z h = some o) : J g MX9_cycles (jN g (some (.int o.1), o.2.1, o.2.2) rmX9_cycles.cells rmX9_cycles.slots) 162 [some (.ref a0), some (.int x1), some (.int x2), some (.int x3), some (.int x4), none, none, some (.int x7), some (.int x8)] [.int s0] z h 0 0 := by
  unfold bX9_cycles_162 at hf
  refine J_iconst (v := 0) dX9_cycles_162 (by decide) ?_
  refine J.sub (jsub_s (jsub_s (jsub_s (jsub_s (jsub_s (jsub_n (jsub_n (jsub_s (jsub_s (jsub_nil _)))))))))) ?_
  exact wbX9_cycles_163 hst _ hq94 hf
theorem wlX9_cycles_94 {g : JG} (hst : (jl g).stackTraces = false) (q42 : Nat → Int32 → Int32 → Int32 → Int32 → Nat → AH → Option (Int32 × Nat × AH)) (hq42 : ∀ (a0 : Nat) (x1 : Int32) (x2 : Int32) (x3 : Int32) (x4 : Int32) (z : Nat) (h : AH) (o : Int32 × Nat × AH), q42 a0 x1 x2 x3 x4 z h = some o → J g MX9_cycles (jN g (some (.int o.1), o.2.1, o.2.2) rmX9_cycles.cells rmX9_cycles.slots) 42 [some (.ref a0), some (.int x1), some (.int x2), some (.int x3), some (.int x4), none, none, none, none] [] z h 0 0) : ∀ (fuel : Nat) (a0 : Nat) (x1 : Int32) (x2 : Int32) (x3 : Int32) (x4 : Int32) (x6 : Int32) (x7 : Int32) (x8 : Int32) (z : Nat) (h : AH) (o : Int32 × Nat × AH), lX9_cycles_94 q42 fuel a0 x1 x2 x3 x4 x6 x7 x8 z h = some o → J g MX9_cycles (jN g (some (.int o.1), o.2.1, o.2.2) rmX9_cycles.cells rmX9_cycles.slots) 94 [some (.ref a0), some (.int x1), some (.int x2), some (.int x3), some (.int x4), none, some (.int x6), some (.int x7), some (.int x8)] [] z h 0 0 := by
  intro fuel
  induction fuel with
  | zero => intro a0 x1 x2 x3 x4 x6 x7 x8 z h o hf; cases hf
  | succ fuel ih =>
    intro a0 x1 x2 x3 x4 x6 x7 x8 z h o hf
    have hq94 := ih
    have hf : lX9_cycles_94B q42 (lX9_cycles_94 q42 fuel) a0 x1 x2 x3 x4 x6 x7 x8 z h = some o := hf
    generalize lX9_cycles_94 q42 fuel = q94 at hf hq94
    unfold lX9_cycles_94B at hf
    refine J_iload dX9_cycles_94 rfl ?_
    refine J_bipush (v := 10) dX9_cycles_96 (by decide) ?_
    rcases br hf with ⟨c1, hf⟩ | ⟨c1, hf⟩
    · refine J_icmp_ge (tgt := 172) dX9_cycles_98 (by decide) (fun _ => ?_) (fun w => absurd c1 w)
      refine J.sub (jsub_s (jsub_s (jsub_s (jsub_s (jsub_s (jsub_n (jsub_s (jsub_n (jsub_n (jsub_nil _)))))))))) ?_
      exact wbX9_cycles_172 hst _ hq42 hf
    · refine J_icmp_ge (tgt := 172) dX9_cycles_98 (by decide) (fun w => absurd w c1) (fun _ => ?_)
      refine J_iload dX9_cycles_101 rfl ?_
      refine J_iload_n dX9_cycles_103 rfl rfl ?_
      rcases br hf with ⟨c2, hf⟩ | ⟨c2, hf⟩
      · refine J_icmp_le (tgt := 172) dX9_cycles_104 (by decide) (fun _ => ?_) (fun w => absurd c2 w)
        refine J.sub (jsub_s (jsub_s (jsub_s (jsub_s (jsub_s (jsub_n (jsub_s (jsub_n (jsub_n (jsub_nil _)))))))))) ?_
        exact wbX9_cycles_172 hst _ hq42 hf
      · refine J_icmp_le (tgt := 172) dX9_cycles_104 (by decide) (fun w => absurd w c2) (fun _ => ?_)
        refine J_iload_n dX9_cycles_107 rfl rfl ?_
        refine J_iload dX9_cycles_108 rfl ?_
        refine J_ishr dX9_cycles_110 ?_
        refine J_iconst (v := 1) dX9_cycles_111 (by decide) ?_
        refine J_iand dX9_cycles_112 ?_
        refine J_iconst (v := 1) dX9_cycles_113 (by decide) ?_
        rcases br hf with ⟨c3, hf⟩ | ⟨c3, hf⟩
        · refine J_icmp_ne (tgt := 172) dX9_cycles_114 (by decide) (fun w => absurd c3 w) (fun _ => ?_)
          refine J_iload dX9_cycles_117 rfl ?_
          refine J_iload dX9_cycles_119 rfl ?_
          refine J_iload dX9_cycles_121 rfl ?_
          refine J_ishr dX9_cycles_123 ?_
          refine J_iconst (v := 1) dX9_cycles_124 (by decide) ?_
          refine J_iand dX9_cycles_125 ?_
          refine J_iconst (v := 1) dX9_cycles_126 (by decide) ?_
          rcases br hf with ⟨c4, hf⟩ | ⟨c4, hf⟩
          · refine J_icmp_ne (tgt := 162) dX9_cycles_127 (by decide) (fun w => absurd c4 w) (fun _ => ?_)
            refine J_aload_n dX9_cycles_130 rfl rfl ?_
            obtain ⟨k5, hf⟩ := gds hf
            obtain ⟨b6, rb6, hf⟩ := rfs hf
            refine G_9_13 dX9_cycles_131 tk_932 k5 rb6 ?_
            refine J_iload dX9_cycles_134 rfl ?_
            obtain ⟨k7, hf⟩ := gds hf
            obtain ⟨n8, hf⟩ := gds hf
            refine J_iaload dX9_cycles_136 k7 n8 ?_
            refine J_iload dX9_cycles_137 rfl ?_
            refine J_ishr dX9_cycles_139 ?_
            refine J_iconst (v := 1) dX9_cycles_140 (by decide) ?_
            refine J_iand dX9_cycles_141 ?_
            refine J_iconst (v := 1) dX9_cycles_142 (by decide) ?_
            rcases br hf with ⟨c9, hf⟩ | ⟨c9, hf⟩
            · refine J_icmp_ne (tgt := 162) dX9_cycles_143 (by decide) (fun w => absurd c9 w) (fun _ => ?_)
              refine J_aload_n dX9_cycles_146 rfl rfl ?_
              obtain ⟨b10, rb10, hf⟩ := rfs hf
              refine G_9_15 dX9_cycles_147 tk_934 k5 rb10 ?_
              refine J_bipush (v := 10) dX9_cycles_150 (by decide) ?_
              refine J_iload dX9_cycles_152 rfl ?_
              refine J_imul dX9_cycles_154 ?_
              refine J_iload dX9_cycles_155 rfl ?_
              refine J_iadd dX9_cycles_157 ?_
              obtain ⟨k11, hf⟩ := gds hf
              obtain ⟨n12, hf⟩ := gds hf
              refine J_iaload dX9_cycles_158 k11 n12 ?_
              refine J_goto (tgt := 163) dX9_cycles_159 (by decide) ?_
              refine J.sub (jsub_s (jsub_s (jsub_s (jsub_s (jsub_s (jsub_n (jsub_n (jsub_s (jsub_s (jsub_nil _)))))))))) ?_
              exact wbX9_cycles_163 hst _ hq94 hf
            · refine J_icmp_ne (tgt := 162) dX9_cycles_143 (by decide) (fun _ => ?_) (fun w => absurd w c9)
              refine J.sub (jsub_s (jsub_s (jsub_s (jsub_s (jsub_s (jsub_n (jsub_n (jsub_s (jsub_s (jsub_nil _)))))))))) ?_
              exact wbX9_cycles_162 hst _ hq94 hf
          · refine J_icmp_ne (tgt := 162) dX9_cycles_127 (by decide) (fun _ => ?_) (fun w => absurd w c4)
            refine J.sub (jsub_s (jsub_s (jsub_s (jsub_s (jsub_s (jsub_n (jsub_n (jsub_s (jsub_s (jsub_nil _)))))))))) ?_
            exact wbX9_cycles_162 hst _ hq94 hf
        · refine J_icmp_ne (tgt := 172) dX9_cycles_114 (by decide) (fun _ => ?_) (fun w => absurd w c3)
          refine J.sub (jsub_s (jsub_s (jsub_s (jsub_s (jsub_s (jsub_n (jsub_s (jsub_n (jsub_n (jsub_nil _)))))))))) ?_
          exact wbX9_cycles_172 hst _ hq42 hf
theorem wbX9_cycles_79 {g : JG} (hst : (jl g).stackTraces = false) (q42 : Nat → Int32 → Int32 → Int32 → Int32 → Nat → AH → Option (Int32 × Nat × AH)) (hq42 : ∀ (a0 : Nat) (x1 : Int32) (x2 : Int32) (x3 : Int32) (x4 : Int32) (z : Nat) (h : AH) (o : Int32 × Nat × AH), q42 a0 x1 x2 x3 x4 z h = some o → J g MX9_cycles (jN g (some (.int o.1), o.2.1, o.2.2) rmX9_cycles.cells rmX9_cycles.slots) 42 [some (.ref a0), some (.int x1), some (.int x2), some (.int x3), some (.int x4), none, none, none, none] [] z h 0 0) {a0 : Nat} {x1 : Int32} {x2 : Int32} {x3 : Int32} {x4 : Int32} {s0 : Int32} {z : Nat} {h : AH} {o : Int32 × Nat × AH} (hf : bX9_cycles_79 q42 a0 x1 x2 x3 x4 s0 z h = some o) : J g MX9_cycles (jN g (some (.int o.1), o.2.1, o.2.2) rmX9_cycles.cells rmX9_cycles.slots) 79 [some (.ref a0), some (.int x1), some (.int x2), some (.int x3), some (.int x4), none, none, none, none] [.int s0] z h 0 0 := by
  unfold bX9_cycles_79 at hf
  refine S_istore_6 dX9_cycles_79 rfl (by decide) ?_
  refine J_iload_n dX9_cycles_81 rfl rfl ?_
  refine J_iconst (v := 1) dX9_cycles_82 (by decide) ?_
  refine J_iload dX9_cycles_83 rfl ?_
  refine J_ishl dX9_cycles_85 ?_
  refine J_iconst (v := (-1)) dX9_cycles_86 (by decide) ?_
  refine J_ixor dX9_cycles_87 ?_
  refine J_iand dX9_cycles_88 ?_
  obtain ⟨v1, ev1, hf⟩ := bls hf
  refine J_i ev1 ?_
  refine S_istore_7 dX9_cycles_89 rfl (by decide) ?_
  refine J_iload_n dX9_cycles_91 rfl rfl ?_
  refine S_istore_8 dX9_cycles_92 rfl (by decide) ?_
  refine J.sub (jsub_s (jsub_s (jsub_s (jsub_s (jsub_s (jsub_n (jsub_s (jsub_s (jsub_s (jsub_nil _)))))))))) ?_
  exact wlX9_cycles_94 hst _ hq42 _ _ _ _ _ _ _ _ _ _ _ _ hf
theorem wbX9_cycles_67 {g : JG} (hst : (jl g).stackTraces = false) (q42 : Nat → Int32 → Int32 → Int32 → Int32 → Nat → AH → Option (Int32 × Nat × AH)) (hq42 : ∀ (a0 : Nat) (x1 : Int32) (x2 : Int32) (x3 : Int32) (x4 : Int32) (z : Nat) (h : AH) (o : Int32 × Nat × AH), q42 a0 x1 x2 x3 x4 z h = some o → J g MX9_cycles (jN g (some (.int o.1), o.2.1, o.2.2) rmX9_cycles.cells rmX9_cycles.slots) 42 [some (.ref a0), some (.int x1), some (.int x2), some (.int x3), some (.int x4), none, none, none, none] [] z h 0 0) {a0 : Nat} {x1 : Int32} {x2 : Int32} {x3 : Int32} {x4 : Int32} {s0 : Int32} {z : Nat} {h : AH} {o : Int32 × Nat × AH} (hf : bX9_cycles_67 q42 a0 x1 x2 x3 x4 s0 z h = some o) : J g MX9_cycles (jN g (some (.int o.1), o.2.1, o.2.2) rmX9_cycles.cells rmX9_cycles.slots) 67 [some (.ref a0), some (.int x1), some (.int x2), some (.int x3), some (.int x4), none, none, none, none] [.int s0] z h 0 0 := by
  unfold bX9_cycles_67 at hf
  refine S_istore_5 dX9_cycles_67 rfl (by decide) ?_
  refine J_iload dX9_cycles_69 rfl ?_
  rcases br hf with ⟨c1, hf⟩ | ⟨c1, hf⟩
  · refine J_if_eq (tgt := 78) dX9_cycles_71 (by decide) (fun _ => ?_) (fun w => absurd c1 w)
    refine J_iconst (v := 0) dX9_cycles_78 (by decide) ?_
    refine J.sub (jsub_s (jsub_s (jsub_s (jsub_s (jsub_s (jsub_n (jsub_n (jsub_n (jsub_n (jsub_nil _)))))))))) ?_
    exact wbX9_cycles_79 hst _ hq42 hf
  · refine J_if_eq (tgt := 78) dX9_cycles_71 (by decide) (fun w => absurd w c1) (fun _ => ?_)
    refine J_iconst (v := 1) dX9_cycles_74 (by decide) ?_
    refine J_goto (tgt := 79) dX9_cycles_75 (by decide) ?_
    refine J.sub (jsub_s (jsub_s (jsub_s (jsub_s (jsub_s (jsub_n (jsub_n (jsub_n (jsub_n (jsub_nil _)))))))))) ?_
    exact wbX9_cycles_79 hst _ hq42 hf
theorem wbX9_cycles_66 {g : JG} (hst : (jl g).stackTraces = false) (q42 : Nat → Int32 → Int32 → Int32 → Int32 → Nat → AH → Option (Int32 × Nat × AH)) (hq42 : ∀ (a0 : Nat) (x1 : Int32) (x2 : Int32) (x3 : Int32) (x4 : Int32) (z : Nat) (h : AH) (o : Int32 × Nat × AH), q42 a0 x1 x2 x3 x4 z h = some o → J g MX9_cycles (jN g (some (.int o.1), o.2.1, o.2.2) rmX9_cycles.cells rmX9_cycles.slots) 42 [some (.ref a0), some (.int x1), some (.int x2), some (.int x3), some (.int x4), none, none, none, none] [] z h 0 0) {a0 : Nat} {x1 : Int32} {x2 : Int32} {x3 : Int32} {x4 : Int32} {z : Nat} {h : AH} {o : Int32 × Nat × AH} (hf : bX9_cycles_66 q42 a0 x1 x2 x3 x4 z h = some o) : J g MX9_cycles (jN g (some (.int o.1), o.2.1, o.2.2) rmX9_cycles.cells rmX9_cycles.slots) 66 [some (.ref a0), some (.int x1), some (.int x2), some (.int x3), some (.int x4), none, none, none, none] [] z h 0 0 := by
  unfold bX9_cycles_66 at hf
  refine J_iconst (v := 0) dX9_cycles_66 (by decide) ?_
  refine J.sub (jsub_s (jsub_s (jsub_s (jsub_s (jsub_s (jsub_n (jsub_n (jsub_n (jsub_n (jsub_nil _)))))))))) ?_
  exact wbX9_cycles_67 hst _ hq42 hf
theorem wlX9_cycles_42 {g : JG} (hst : (jl g).stackTraces = false) (q16 : Nat → Int32 → Int32 → Nat → AH → Option (Int32 × Nat × AH)) (hq16 : ∀ (a0 : Nat) (x1 : Int32) (x2 : Int32) (z : Nat) (h : AH) (o : Int32 × Nat × AH), q16 a0 x1 x2 z h = some o → J g MX9_cycles (jN g (some (.int o.1), o.2.1, o.2.2) rmX9_cycles.cells rmX9_cycles.slots) 16 [some (.ref a0), some (.int x1), some (.int x2), none, none, none, none, none, none] [] z h 0 0) : ∀ (fuel : Nat) (a0 : Nat) (x1 : Int32) (x2 : Int32) (x3 : Int32) (x4 : Int32) (z : Nat) (h : AH) (o : Int32 × Nat × AH), lX9_cycles_42 q16 fuel a0 x1 x2 x3 x4 z h = some o → J g MX9_cycles (jN g (some (.int o.1), o.2.1, o.2.2) rmX9_cycles.cells rmX9_cycles.slots) 42 [some (.ref a0), some (.int x1), some (.int x2), some (.int x3), some (.int x4), none, none, none, none] [] z h 0 0 := by
  intro fuel
  induction fuel with
  | zero => intro a0 x1 x2 x3 x4 z h o hf; cases hf
  | succ fuel ih =>
    intro a0 x1 x2 x3 x4 z h o hf
    have hq42 := ih
    have hf : lX9_cycles_42B q16 (lX9_cycles_42 q16 fuel) a0 x1 x2 x3 x4 z h = some o := hf
    generalize lX9_cycles_42 q16 fuel = q42 at hf hq42
    unfold lX9_cycles_42B at hf
    refine J_iload dX9_cycles_42 rfl ?_
    refine J_bipush (v := 10) dX9_cycles_44 (by decide) ?_
    rcases br hf with ⟨c1, hf⟩ | ⟨c1, hf⟩
    · refine J_icmp_ge (tgt := 216) dX9_cycles_46 (by decide) (fun _ => ?_) (fun w => absurd c1 w)
      refine S_iinc_2 (v := x2 + 1) dX9_cycles_216 (congrArg (fun w => x2 + w) (by decide)) rfl (by decide) ?_
      refine J_goto (tgt := 16) dX9_cycles_219 (by decide) ?_
      refine J.sub (jsub_s (jsub_s (jsub_s (jsub_n (jsub_n (jsub_n (jsub_n (jsub_n (jsub_n (jsub_nil _)))))))))) ?_
      exact hq16 _ _ _ _ _ _ hf
    · refine J_icmp_ge (tgt := 216) dX9_cycles_46 (by decide) (fun w => absurd w c1) (fun _ => ?_)
      refine J_iload_n dX9_cycles_49 rfl rfl ?_
      refine J_iconst (v := 1) dX9_cycles_50 (by decide) ?_
      refine J_iload_n dX9_cycles_51 rfl rfl ?_
      refine J_ishl dX9_cycles_52 ?_
      rcases br hf with ⟨c2, hf⟩ | ⟨c2, hf⟩
      · refine J_icmp_ne (tgt := 66) dX9_cycles_53 (by decide) (fun w => absurd c2 w) (fun _ => ?_)
        refine J_iload dX9_cycles_56 rfl ?_
        refine J_iload_n dX9_cycles_58 rfl rfl ?_
        rcases br hf with ⟨c3, hf⟩ | ⟨c3, hf⟩
        · refine J_icmp_ne (tgt := 66) dX9_cycles_59 (by decide) (fun w => absurd c3 w) (fun _ => ?_)
          refine J_iconst (v := 1) dX9_cycles_62 (by decide) ?_
          refine J_goto (tgt := 67) dX9_cycles_63 (by decide) ?_
          refine J.sub (jsub_s (jsub_s (jsub_s (jsub_s (jsub_s (jsub_n (jsub_n (jsub_n (jsub_n (jsub_nil _)))))))))) ?_
          exact wbX9_cycles_67 hst _ hq42 hf
        · refine J_icmp_ne (tgt := 66) dX9_cycles_59 (by decide) (fun _ => ?_) (fun w => absurd w c3)
          refine J.sub (jsub_s (jsub_s (jsub_s (jsub_s (jsub_s (jsub_n (jsub_n (jsub_n (jsub_n (jsub_nil _)))))))))) ?_
          exact wbX9_cycles_66 hst _ hq42 hf
      · refine J_icmp_ne (tgt := 66) dX9_cycles_53 (by decide) (fun _ => ?_) (fun w => absurd w c2)
        refine J.sub (jsub_s (jsub_s (jsub_s (jsub_s (jsub_s (jsub_n (jsub_n (jsub_n (jsub_n (jsub_nil _)))))))))) ?_
        exact wbX9_cycles_66 hst _ hq42 hf
theorem wlX9_cycles_25 {g : JG} (hst : (jl g).stackTraces = false) (q16 : Nat → Int32 → Int32 → Nat → AH → Option (Int32 × Nat × AH)) (hq16 : ∀ (a0 : Nat) (x1 : Int32) (x2 : Int32) (z : Nat) (h : AH) (o : Int32 × Nat × AH), q16 a0 x1 x2 z h = some o → J g MX9_cycles (jN g (some (.int o.1), o.2.1, o.2.2) rmX9_cycles.cells rmX9_cycles.slots) 16 [some (.ref a0), some (.int x1), some (.int x2), none, none, none, none, none, none] [] z h 0 0) : ∀ (fuel : Nat) (a0 : Nat) (x1 : Int32) (x2 : Int32) (x3 : Int32) (z : Nat) (h : AH) (o : Int32 × Nat × AH), lX9_cycles_25 q16 fuel a0 x1 x2 x3 z h = some o → J g MX9_cycles (jN g (some (.int o.1), o.2.1, o.2.2) rmX9_cycles.cells rmX9_cycles.slots) 25 [some (.ref a0), some (.int x1), some (.int x2), some (.int x3), none, none, none, none, none] [] z h 0 0 := by
  intro fuel
  induction fuel with
  | zero => intro a0 x1 x2 x3 z h o hf; cases hf
  | succ fuel ih =>
    intro a0 x1 x2 x3 z h o hf
    have hq25 := ih
    have hf : lX9_cycles_25B q16 (lX9_cycles_25 q16 fuel) a0 x1 x2 x3 z h = some o := hf
    generalize lX9_cycles_25 q16 fuel = q25 at hf hq25
    unfold lX9_cycles_25B at hf
    refine J_iload_n dX9_cycles_25 rfl rfl ?_
    refine J_iload_n dX9_cycles_26 rfl rfl ?_
    refine J_ishr dX9_cycles_27 ?_
    refine J_iconst (v := 1) dX9_cycles_28 (by decide) ?_
    refine J_iand dX9_cycles_29 ?_
    rcases br hf with ⟨c1, hf⟩ | ⟨c1, hf⟩
    · refine J_if_ne (tgt := 39) dX9_cycles_30 (by decide) (fun w => absurd c1 w) (fun _ => ?_)
      refine S_iinc_3 (v := x3 + 1) dX9_cycles_33 (congrArg (fun w => x3 + w) (by decide)) rfl (by decide) ?_
      refine J_goto (tgt := 25) dX9_cycles_36 (by decide) ?_
      refine J.sub (jsub_s (jsub_s (jsub_s (jsub_s (jsub_n (jsub_n (jsub_n (jsub_n (jsub_n (jsub_nil _)))))))))) ?_
      exact hq25 _ _ _ _ _ _ _ hf
    · refine J_if_ne (tgt := 39) dX9_cycles_30 (by decide) (fun _ => ?_) (fun w => absurd w c1)
      refine J_iload_n dX9_cycles_39 rfl rfl ?_
      refine S_istore_4 dX9_cycles_40 rfl (by decide) ?_
      refine J.sub (jsub_s (jsub_s (jsub_s (jsub_s (jsub_s (jsub_n (jsub_n (jsub_n (jsub_n (jsub_nil _)))))))))) ?_
      exact wlX9_cycles_42 hst _ hq16 _ _ _ _ _ _ _ _ _ hf
theorem wlX9_cycles_16 {g : JG} (hst : (jl g).stackTraces = false)   : ∀ (fuel : Nat) (a0 : Nat) (x1 : Int32) (x2 : Int32) (z : Nat) (h : AH) (o : Int32 × Nat × AH), lX9_cycles_16  fuel a0 x1 x2 z h = some o → J g MX9_cycles (jN g (some (.int o.1), o.2.1, o.2.2) rmX9_cycles.cells rmX9_cycles.slots) 16 [some (.ref a0), some (.int x1), some (.int x2), none, none, none, none, none, none] [] z h 0 0 := by
  intro fuel
  induction fuel with
  | zero => intro a0 x1 x2 z h o hf; cases hf
  | succ fuel ih =>
    intro a0 x1 x2 z h o hf
    have hq16 := ih
    have hf : lX9_cycles_16B  (lX9_cycles_16  fuel) a0 x1 x2 z h = some o := hf
    generalize lX9_cycles_16  fuel = q16 at hf hq16
    unfold lX9_cycles_16B at hf
    refine J_iload_n dX9_cycles_16 rfl rfl ?_
    refine J_sipush (v := 1024) dX9_cycles_17 (by decide) ?_
    rcases br hf with ⟨c1, hf⟩ | ⟨c1, hf⟩
    · refine J_icmp_ge (tgt := 222) dX9_cycles_20 (by decide) (fun _ => ?_) (fun w => absurd c1 w)
      refine J_iload_n dX9_cycles_222 rfl rfl ?_
      cases hf
      exact J_iretN dX9_cycles_223 rfl (by decide) (by decide)
    · refine J_icmp_ge (tgt := 222) dX9_cycles_20 (by decide) (fun w => absurd w c1) (fun _ => ?_)
      refine J_iconst (v := 0) dX9_cycles_23 (by decide) ?_
      refine S_istore_n_3 dX9_cycles_24 rfl (by decide) ?_
      refine J.sub (jsub_s (jsub_s (jsub_s (jsub_s (jsub_n (jsub_n (jsub_n (jsub_n (jsub_n (jsub_nil _)))))))))) ?_
      exact wlX9_cycles_25 hst _ hq16 _ _ _ _ _ _ _ _ hf
theorem wfX9_cycles {g : JG} (hst : (jl g).stackTraces = false)   {a0 : Nat} {z : Nat} {h : AH} {o : Int32 × Nat × AH} (hf : fX9_cycles  a0 z h = some o) : J g MX9_cycles (jN g (some (.int o.1), o.2.1, o.2.2) rmX9_cycles.cells rmX9_cycles.slots) 0 [some (.ref a0), none, none, none, none, none, none, none, none] [] z h 0 0 := by
  unfold fX9_cycles at hf
  refine J_aload_n dX9_cycles_0 rfl rfl ?_
  refine J_iconst (v := 0) dX9_cycles_1 (by decide) ?_
  obtain ⟨k1, hf⟩ := gds hf
  refine P_9_6 dX9_cycles_2 tk_925 k1 ?_
  obtain ⟨h2, eh2, hf⟩ := bls hf
  refine J_h eh2 ?_
  refine J_aload_n dX9_cycles_5 rfl rfl ?_
  refine J_sipush (v := 1023) dX9_cycles_6 (by decide) ?_
  have k3 : kd h2 a0 = 10 := by rw [eh2]; exact k1
  obtain ⟨zo4, ho4h, ho4, hf⟩ := rfs2 hf
  refine CV1v dX9_cycles_9 (mX9_lays hst ho4) tk_1246 iX9_lays k3 (by decide) rfl ⟨by decide, by decide⟩ ⟨by decide, by decide⟩ (Nat.le_of_ble_eq_true rfl) ?_
  refine J_iconst (v := 0) dX9_cycles_12 (by decide) ?_
  refine S_istore_n_1 dX9_cycles_13 rfl (by decide) ?_
  refine J_iconst (v := 1) dX9_cycles_14 (by decide) ?_
  refine S_istore_n_2 dX9_cycles_15 rfl (by decide) ?_
  refine J.sub (jsub_s (jsub_s (jsub_s (jsub_n (jsub_n (jsub_n (jsub_n (jsub_n (jsub_n (jsub_nil _)))))))))) ?_
  exact wlX9_cycles_16 hst   _ _ _ _ _ _ _ hf
theorem mX9_cycles {g : JG} (hst : (jl g).stackTraces = false) {a0 : Nat} {z : Nat} {h : AH} {o : Int32 × Nat × AH} (hf : fX9_cycles a0 z h = some o) : jMet g yX9_cycles (wj yX9_cycles cX9_cycles 9 (some .int)) rmX9_cycles [.ref a0] z h (some (.int o.1), o.2.1, o.2.2) :=
  jMet_mk (by decide) (Nat.le_of_ble_eq_true rfl) [some (.ref a0), none, none, none, none, none, none, none, none] rfl (wfX9_cycles hst hf)
def bX9_latest_15  (a0 : Nat) (x1 : Int32) (u0 : Nat) (s1 : Int32) (z : Nat) (h : AH) : Option (Int32 × Nat × AH) :=
  gd (kd h u0 = 10) (bl (wI h u0 6 s1) (fun h2 => gd (kd h2 a0 = 10) ((if (iv h2 a0 6) ≤ 0 then ((if x1 = 0 then (some ((iv h2 a0 7), z, h2)) else ((if x1 = 1 then (some ((iv h2 a0 8), z, h2)) else (some ((iv h2 a0 9), z, h2)))))) else (some (0, z, h2))))))
def fX9_latest  (a0 : Nat) (x1 : Int32) (z : Nat) (h : AH) : Option (Int32 × Nat × AH) :=
  bd3 (fX9_in x1 0 2 z h) (fun vo1 zo1 ho1h => (if vo1 = 0 then (bX9_latest_15  a0 x1 a0 1 zo1 ho1h) else (bX9_latest_15  a0 x1 a0 0 zo1 ho1h)))
theorem wbX9_latest_15 {g : JG} (hst : (jl g).stackTraces = false)   {a0 : Nat} {x1 : Int32} {u0 : Nat} {s1 : Int32} {z : Nat} {h : AH} {o : Int32 × Nat × AH} (hf : bX9_latest_15  a0 x1 u0 s1 z h = some o) : J g MX9_latest (jN g (some (.int o.1), o.2.1, o.2.2) rmX9_latest.cells rmX9_latest.slots) 15 [some (.ref a0), some (.int x1)] [.int s1, .ref u0] z h 0 0 := by
  unfold bX9_latest_15 at hf
  obtain ⟨k1, hf⟩ := gds hf
  refine P_9_6 dX9_latest_15 tk_925 k1 ?_
  obtain ⟨h2, eh2, hf⟩ := bls hf
  refine J_h eh2 ?_
  refine J_aload_n dX9_latest_18 rfl rfl ?_
  obtain ⟨k3, hf⟩ := gds hf
  refine G_9_6 dX9_latest_19 tk_925 k3 ?_
  rcases br hf with ⟨c4, hf⟩ | ⟨c4, hf⟩
  · refine J_if_le (tgt := 29) dX9_latest_22 (by decide) (fun _ => ?_) (fun w => absurd c4 w)
    refine J_iload_n dX9_latest_29 rfl rfl ?_
    rcases br hf with ⟨c5, hf⟩ | ⟨c5, hf⟩
    · refine J_if_ne (tgt := 40) dX9_latest_30 (by decide) (fun w => absurd c5 w) (fun _ => ?_)
      refine J_aload_n dX9_latest_33 rfl rfl ?_
      refine G_9_7 dX9_latest_34 tk_926 k3 ?_
      refine J_goto (tgt := 56) dX9_latest_37 (by decide) ?_
      cases hf
      exact J_iretN dX9_latest_56 rfl (by decide) (by decide)
    · refine J_if_ne (tgt := 40) dX9_latest_30 (by decide) (fun _ => ?_) (fun w => absurd w c5)
      refine J_iload_n dX9_latest_40 rfl rfl ?_
      refine J_iconst (v := 1) dX9_latest_41 (by decide) ?_
      rcases br hf with ⟨c6, hf⟩ | ⟨c6, hf⟩
      · refine J_icmp_ne (tgt := 52) dX9_latest_42 (by decide) (fun w => absurd c6 w) (fun _ => ?_)
        refine J_aload_n dX9_latest_45 rfl rfl ?_
        refine G_9_8 dX9_latest_46 tk_927 k3 ?_
        refine J_goto (tgt := 56) dX9_latest_49 (by decide) ?_
        cases hf
        exact J_iretN dX9_latest_56 rfl (by decide) (by decide)
      · refine J_icmp_ne (tgt := 52) dX9_latest_42 (by decide) (fun _ => ?_) (fun w => absurd w c6)
        refine J_aload_n dX9_latest_52 rfl rfl ?_
        refine G_9_9 dX9_latest_53 tk_928 k3 ?_
        cases hf
        exact J_iretN dX9_latest_56 rfl (by decide) (by decide)
  · refine J_if_le (tgt := 29) dX9_latest_22 (by decide) (fun w => absurd w c4) (fun _ => ?_)
    refine J_iconst (v := 0) dX9_latest_25 (by decide) ?_
    refine J_goto (tgt := 56) dX9_latest_26 (by decide) ?_
    cases hf
    exact J_iretN dX9_latest_56 rfl (by decide) (by decide)
theorem wfX9_latest {g : JG} (hst : (jl g).stackTraces = false)   {a0 : Nat} {x1 : Int32} {z : Nat} {h : AH} {o : Int32 × Nat × AH} (hf : fX9_latest  a0 x1 z h = some o) : J g MX9_latest (jN g (some (.int o.1), o.2.1, o.2.2) rmX9_latest.cells rmX9_latest.slots) 0 [some (.ref a0), some (.int x1)] [] z h 0 0 := by
  unfold fX9_latest at hf
  refine J_aload_n dX9_latest_0 rfl rfl ?_
  refine J_iload_n dX9_latest_1 rfl rfl ?_
  refine J_iconst (v := 0) dX9_latest_2 (by decide) ?_
  refine J_iconst (v := 2) dX9_latest_3 (by decide) ?_
  obtain ⟨vo1, zo1, ho1h, ho1, hf⟩ := rfs3 hf
  refine CS3i (host := "") dX9_latest_4 (mX9_in hst ho1) tk_996 iX9_in ⟨by decide, by decide⟩ ⟨by decide, by decide⟩ (Nat.le_of_ble_eq_true rfl) ?_
  rcases br hf with ⟨c2, hf⟩ | ⟨c2, hf⟩
  · refine J_if_ne (tgt := 14) dX9_latest_7 (by decide) (fun w => absurd c2 w) (fun _ => ?_)
    refine J_iconst (v := 1) dX9_latest_10 (by decide) ?_
    refine J_goto (tgt := 15) dX9_latest_11 (by decide) ?_
    refine J.sub (jsub_s (jsub_s (jsub_nil _))) ?_
    exact wbX9_latest_15 hst   hf
  · refine J_if_ne (tgt := 14) dX9_latest_7 (by decide) (fun _ => ?_) (fun w => absurd w c2)
    refine J_iconst (v := 0) dX9_latest_14 (by decide) ?_
    refine J.sub (jsub_s (jsub_s (jsub_nil _))) ?_
    exact wbX9_latest_15 hst   hf
theorem mX9_latest {g : JG} (hst : (jl g).stackTraces = false) {a0 : Nat} {x1 : Int32} {z : Nat} {h : AH} {o : Int32 × Nat × AH} (hf : fX9_latest a0 x1 z h = some o) : jMet g yX9_latest (wj yX9_latest cX9_latest 2 (some .int)) rmX9_latest [.ref a0, .int x1] z h (some (.int o.1), o.2.1, o.2.2) :=
  jMet_mk (by decide) (Nat.le_of_ble_eq_true rfl) [some (.ref a0), some (.int x1)] rfl (wfX9_latest hst hf)
def bX9_costOf_30 (q4 : Nat → Int32 → Int32 → Int32 → Nat → AH → Option (Int32 × Nat × AH)) (a0 : Nat) (x1 : Int32) (x3 : Int32) (s0 : Int32) (s1 : Int32) (z : Nat) (h : AH) : Option (Int32 × Nat × AH) :=
  bl ((s0 + s1)) (fun v1 => q4 a0 x1 v1 (x3 + 1) z h)
def lX9_costOf_4B  (q4 : Nat → Int32 → Int32 → Int32 → Nat → AH → Option (Int32 × Nat × AH)) (a0 : Nat) (x1 : Int32) (x2 : Int32) (x3 : Int32) (z : Nat) (h : AH) : Option (Int32 × Nat × AH) :=
  (if 10 ≤ x3 then (some (x2, z, h)) else ((if ((x1 >>> (x3 &&& 31)) &&& 1) = 1 then (gd (kd h a0 = 10) (bd3 (fX9_of a0 x3 1 z h) (fun vo4 zo4 ho4h => bX9_costOf_30 q4 a0 x1 x3 x2 vo4 zo4 ho4h))) else (bX9_costOf_30 q4 a0 x1 x3 x2 0 z h))))
def lX9_costOf_4  : Nat → Nat → Int32 → Int32 → Int32 → Nat → AH → Option (Int32 × Nat × AH)
  | 0 => fun _ _ _ _ _ _ => none
  | fuel + 1 => lX9_costOf_4B  (lX9_costOf_4  fuel)
def fX9_costOf  (a0 : Nat) (x1 : Int32) (z : Nat) (h : AH) : Option (Int32 × Nat × AH) :=
  lX9_costOf_4  fu a0 x1 0 0 z h
theorem wbX9_costOf_30 {g : JG} (hst : (jl g).stackTraces = false) (q4 : Nat → Int32 → Int32 → Int32 → Nat → AH → Option (Int32 × Nat × AH)) (hq4 : ∀ (a0 : Nat) (x1 : Int32) (x2 : Int32) (x3 : Int32) (z : Nat) (h : AH) (o : Int32 × Nat × AH), q4 a0 x1 x2 x3 z h = some o → J g MX9_costOf (jN g (some (.int o.1), o.2.1, o.2.2) rmX9_costOf.cells rmX9_costOf.slots) 4 [some (.ref a0), some (.int x1), some (.int x2), some (.int x3)] [] z h 0 0) {a0 : Nat} {x1 : Int32} {x3 : Int32} {s0 : Int32} {s1 : Int32} {z : Nat} {h : AH} {o : Int32 × Nat × AH} (hf : bX9_costOf_30 q4 a0 x1 x3 s0 s1 z h = some o) : J g MX9_costOf (jN g (some (.int o.1), o.2.1, o.2.2) rmX9_costOf.cells rmX9_costOf.slots) 30 [some (.ref a0), some (.int x1), none, some (.int x3)] [.int s1, .int s0] z h 0 0 := by
  unfold bX9_costOf_30 at hf
  refine J_iadd dX9_costOf_30 ?_
  obtain ⟨v1, ev1, hf⟩ := bls hf
  refine J_i ev1 ?_
  refine S_istore_n_2 dX9_costOf_31 rfl (by decide) ?_
  refine S_iinc_3 (v := x3 + 1) dX9_costOf_32 (congrArg (fun w => x3 + w) (by decide)) rfl (by decide) ?_
  refine J_goto (tgt := 4) dX9_costOf_35 (by decide) ?_
  refine J.sub (jsub_s (jsub_s (jsub_s (jsub_s (jsub_nil _))))) ?_
  exact hq4 _ _ _ _ _ _ _ hf
theorem wlX9_costOf_4 {g : JG} (hst : (jl g).stackTraces = false)   : ∀ (fuel : Nat) (a0 : Nat) (x1 : Int32) (x2 : Int32) (x3 : Int32) (z : Nat) (h : AH) (o : Int32 × Nat × AH), lX9_costOf_4  fuel a0 x1 x2 x3 z h = some o → J g MX9_costOf (jN g (some (.int o.1), o.2.1, o.2.2) rmX9_costOf.cells rmX9_costOf.slots) 4 [some (.ref a0), some (.int x1), some (.int x2), some (.int x3)] [] z h 0 0 := by
  intro fuel
  induction fuel with
  | zero => intro a0 x1 x2 x3 z h o hf; cases hf
  | succ fuel ih =>
    intro a0 x1 x2 x3 z h o hf
    have hq4 := ih
    have hf : lX9_costOf_4B  (lX9_costOf_4  fuel) a0 x1 x2 x3 z h = some o := hf
    generalize lX9_costOf_4  fuel = q4 at hf hq4
    unfold lX9_costOf_4B at hf
    refine J_iload_n dX9_costOf_4 rfl rfl ?_
    refine J_bipush (v := 10) dX9_costOf_5 (by decide) ?_
    rcases br hf with ⟨c1, hf⟩ | ⟨c1, hf⟩
    · refine J_icmp_ge (tgt := 38) dX9_costOf_7 (by decide) (fun _ => ?_) (fun w => absurd c1 w)
      refine J_iload_n dX9_costOf_38 rfl rfl ?_
      cases hf
      exact J_iretN dX9_costOf_39 rfl (by decide) (by decide)
    · refine J_icmp_ge (tgt := 38) dX9_costOf_7 (by decide) (fun w => absurd w c1) (fun _ => ?_)
      refine J_iload_n dX9_costOf_10 rfl rfl ?_
      refine J_iload_n dX9_costOf_11 rfl rfl ?_
      refine J_iload_n dX9_costOf_12 rfl rfl ?_
      refine J_ishr dX9_costOf_13 ?_
      refine J_iconst (v := 1) dX9_costOf_14 (by decide) ?_
      refine J_iand dX9_costOf_15 ?_
      refine J_iconst (v := 1) dX9_costOf_16 (by decide) ?_
      rcases br hf with ⟨c2, hf⟩ | ⟨c2, hf⟩
      · refine J_icmp_ne (tgt := 29) dX9_costOf_17 (by decide) (fun w => absurd c2 w) (fun _ => ?_)
        refine J_aload_n dX9_costOf_20 rfl rfl ?_
        refine J_iload_n dX9_costOf_21 rfl rfl ?_
        refine J_iconst (v := 1) dX9_costOf_22 (by decide) ?_
        obtain ⟨k3, hf⟩ := gds hf
        obtain ⟨vo4, zo4, ho4h, ho4, hf⟩ := rfs3 hf
        refine CV2i dX9_costOf_23 (mX9_of hst ho4) tk_1023 iX9_of k3 (by decide) rfl ⟨by decide, by decide⟩ ⟨by decide, by decide⟩ (Nat.le_of_ble_eq_true rfl) ?_
        refine J_goto (tgt := 30) dX9_costOf_26 (by decide) ?_
        refine J.sub (jsub_s (jsub_s (jsub_n (jsub_s (jsub_nil _))))) ?_
        exact wbX9_costOf_30 hst _ hq4 hf
      · refine J_icmp_ne (tgt := 29) dX9_costOf_17 (by decide) (fun _ => ?_) (fun w => absurd w c2)
        refine J_iconst (v := 0) dX9_costOf_29 (by decide) ?_
        refine J.sub (jsub_s (jsub_s (jsub_n (jsub_s (jsub_nil _))))) ?_
        exact wbX9_costOf_30 hst _ hq4 hf
theorem wfX9_costOf {g : JG} (hst : (jl g).stackTraces = false)   {a0 : Nat} {x1 : Int32} {z : Nat} {h : AH} {o : Int32 × Nat × AH} (hf : fX9_costOf  a0 x1 z h = some o) : J g MX9_costOf (jN g (some (.int o.1), o.2.1, o.2.2) rmX9_costOf.cells rmX9_costOf.slots) 0 [some (.ref a0), some (.int x1), none, none] [] z h 0 0 := by
  unfold fX9_costOf at hf
  refine J_iconst (v := 0) dX9_costOf_0 (by decide) ?_
  refine S_istore_n_2 dX9_costOf_1 rfl (by decide) ?_
  refine J_iconst (v := 0) dX9_costOf_2 (by decide) ?_
  refine S_istore_n_3 dX9_costOf_3 rfl (by decide) ?_
  refine J.sub (jsub_s (jsub_s (jsub_s (jsub_s (jsub_nil _))))) ?_
  exact wlX9_costOf_4 hst   _ _ _ _ _ _ _ _ hf
theorem mX9_costOf {g : JG} (hst : (jl g).stackTraces = false) {a0 : Nat} {x1 : Int32} {z : Nat} {h : AH} {o : Int32 × Nat × AH} (hf : fX9_costOf a0 x1 z h = some o) : jMet g yX9_costOf (wj yX9_costOf cX9_costOf 4 (some .int)) rmX9_costOf [.ref a0, .int x1] z h (some (.int o.1), o.2.1, o.2.2) :=
  jMet_mk (by decide) (Nat.le_of_ble_eq_true rfl) [some (.ref a0), some (.int x1), none, none] rfl (wfX9_costOf hst hf)
def bX9_bestVictims_102 (q14 : Nat → Int32 → Int32 → Int32 → Nat → AH → Option (Int32 × Nat × AH)) (a0 : Nat) (x1 : Int32) (x2 : Int32) (x3 : Int32) (z : Nat) (h : AH) : Option (Int32 × Nat × AH) :=
  q14 a0 x1 x2 (x3 + 1) z h
def bX9_bestVictims_101 (q14 : Nat → Int32 → Int32 → Int32 → Nat → AH → Option (Int32 × Nat × AH)) (a0 : Nat) (x1 : Int32) (x3 : Int32) (s0 : Int32) (z : Nat) (h : AH) : Option (Int32 × Nat × AH) :=
  bX9_bestVictims_102 q14 a0 x1 s0 x3 z h
def bX9_bestVictims_89 (q14 : Nat → Int32 → Int32 → Int32 → Nat → AH → Option (Int32 × Nat × AH)) (a0 : Nat) (x1 : Int32) (x2 : Int32) (x3 : Int32) (s0 : Int32) (z : Nat) (h : AH) : Option (Int32 × Nat × AH) :=
  (if s0 = 0 then (bX9_bestVictims_101 q14 a0 x1 x3 x2 z h) else (bX9_bestVictims_101 q14 a0 x1 x3 x3 z h))
def bX9_bestVictims_88 (q14 : Nat → Int32 → Int32 → Int32 → Nat → AH → Option (Int32 × Nat × AH)) (a0 : Nat) (x1 : Int32) (x2 : Int32) (x3 : Int32) (z : Nat) (h : AH) : Option (Int32 × Nat × AH) :=
  bX9_bestVictims_89 q14 a0 x1 x2 x3 0 z h
def bX9_bestVictims_84 (q14 : Nat → Int32 → Int32 → Int32 → Nat → AH → Option (Int32 × Nat × AH)) (a0 : Nat) (x1 : Int32) (x2 : Int32) (x3 : Int32) (z : Nat) (h : AH) : Option (Int32 × Nat × AH) :=
  bX9_bestVictims_89 q14 a0 x1 x2 x3 1 z h
def bX9_bestVictims_61 (q14 : Nat → Int32 → Int32 → Int32 → Nat → AH → Option (Int32 × Nat × AH)) (a0 : Nat) (x1 : Int32) (x2 : Int32) (x3 : Int32) (s0 : Int32) (z : Nat) (h : AH) : Option (Int32 × Nat × AH) :=
  (if 0 < s0 then (bX9_bestVictims_84 q14 a0 x1 x2 x3 z h) else ((if s0 = 0 then (bd3 (fX9_bits x3 z h) (fun vo3 zo3 ho3h => bd3 (fX9_bits x2 zo3 ho3h) (fun vo4 zo4 ho4h => (if vo4 ≤ vo3 then (bX9_bestVictims_88 q14 a0 x1 x2 x3 zo4 ho4h) else (bX9_bestVictims_84 q14 a0 x1 x2 x3 zo4 ho4h))))) else (bX9_bestVictims_88 q14 a0 x1 x2 x3 z h))))
def lX9_bestVictims_14B  (q14 : Nat → Int32 → Int32 → Int32 → Nat → AH → Option (Int32 × Nat × AH)) (a0 : Nat) (x1 : Int32) (x2 : Int32) (x3 : Int32) (z : Nat) (h : AH) : Option (Int32 × Nat × AH) :=
  (if 1024 ≤ x3 then (some (x2, z, h)) else ((if (x3 &&& (x1 ^^^ (-1))) = 0 then (gd (kd h a0 = 10) (bd3 (fX9_cyclic a0 (x1 &&& (x3 ^^^ (-1))) z h) (fun vo4 zo4 ho4h => (if vo4 = 0 then ((if x2 = (-1) then (bX9_bestVictims_61 q14 a0 x1 x2 x3 1 zo4 ho4h) else (gd (kd ho4h a0 = 10) (bd3 (fX9_costOf a0 x2 zo4 ho4h) (fun vo8 zo8 ho8h => gd (kd ho8h a0 = 10) (bd3 (fX9_costOf a0 x3 zo8 ho8h) (fun vo10 zo10 ho10h => bX9_bestVictims_61 q14 a0 x1 x2 x3 (vo8 - vo10) zo10 ho10h))))))) else (bX9_bestVictims_102 q14 a0 x1 x2 x3 zo4 ho4h))))) else (bX9_bestVictims_102 q14 a0 x1 x2 x3 z h))))
def lX9_bestVictims_14  : Nat → Nat → Int32 → Int32 → Int32 → Nat → AH → Option (Int32 × Nat × AH)
  | 0 => fun _ _ _ _ _ _ => none
  | fuel + 1 => lX9_bestVictims_14B  (lX9_bestVictims_14  fuel)
def fX9_bestVictims  (a0 : Nat) (z : Nat) (h : AH) : Option (Int32 × Nat × AH) :=
  gd (kd h a0 = 10) (bl (wI h a0 6 0) (fun h2 => bd3 (fX9_all a0 z h2) (fun vo4 zo4 ho4h => lX9_bestVictims_14  fu a0 vo4 (-1) 0 zo4 ho4h)))
theorem wbX9_bestVictims_102 {g : JG} (hst : (jl g).stackTraces = false) (q14 : Nat → Int32 → Int32 → Int32 → Nat → AH → Option (Int32 × Nat × AH)) (hq14 : ∀ (a0 : Nat) (x1 : Int32) (x2 : Int32) (x3 : Int32) (z : Nat) (h : AH) (o : Int32 × Nat × AH), q14 a0 x1 x2 x3 z h = some o → J g MX9_bestVictims (jN g (some (.int o.1), o.2.1, o.2.2) rmX9_bestVictims.cells rmX9_bestVictims.slots) 14 [some (.ref a0), some (.int x1), some (.int x2), some (.int x3), none, none] [] z h 0 0) {a0 : Nat} {x1 : Int32} {x2 : Int32} {x3 : Int32} {z : Nat} {h : AH} {o : Int32 × Nat × AH} (hf : bX9_bestVictims_102 q14 a0 x1 x2 x3 z h = some o) : J g MX9_bestVictims (jN g (some (.int o.1), o.2.1, o.2.2) rmX9_bestVictims.cells rmX9_bestVictims.slots) 102 [some (.ref a0), some (.int x1), some (.int x2), some (.int x3), none, none] [] z h 0 0 := by
  unfold bX9_bestVictims_102 at hf
  refine S_iinc_3 (v := x3 + 1) dX9_bestVictims_102 (congrArg (fun w => x3 + w) (by decide)) rfl (by decide) ?_
  refine J_goto (tgt := 14) dX9_bestVictims_105 (by decide) ?_
  refine J.sub (jsub_s (jsub_s (jsub_s (jsub_s (jsub_n (jsub_n (jsub_nil _))))))) ?_
  exact hq14 _ _ _ _ _ _ _ hf
theorem wbX9_bestVictims_101 {g : JG} (hst : (jl g).stackTraces = false) (q14 : Nat → Int32 → Int32 → Int32 → Nat → AH → Option (Int32 × Nat × AH)) (hq14 : ∀ (a0 : Nat) (x1 : Int32) (x2 : Int32) (x3 : Int32) (z : Nat) (h : AH) (o : Int32 × Nat × AH), q14 a0 x1 x2 x3 z h = some o → J g MX9_bestVictims (jN g (some (.int o.1), o.2.1, o.2.2) rmX9_bestVictims.cells rmX9_bestVictims.slots) 14 [some (.ref a0), some (.int x1), some (.int x2), some (.int x3), none, none] [] z h 0 0) {a0 : Nat} {x1 : Int32} {x3 : Int32} {s0 : Int32} {z : Nat} {h : AH} {o : Int32 × Nat × AH} (hf : bX9_bestVictims_101 q14 a0 x1 x3 s0 z h = some o) : J g MX9_bestVictims (jN g (some (.int o.1), o.2.1, o.2.2) rmX9_bestVictims.cells rmX9_bestVictims.slots) 101 [some (.ref a0), some (.int x1), none, some (.int x3), none, none] [.int s0] z h 0 0 := by
  unfold bX9_bestVictims_101 at hf
  refine S_istore_n_2 dX9_bestVictims_101 rfl (by decide) ?_
  refine J.sub (jsub_s (jsub_s (jsub_s (jsub_s (jsub_n (jsub_n (jsub_nil _))))))) ?_
  exact wbX9_bestVictims_102 hst _ hq14 hf
theorem wbX9_bestVictims_89 {g : JG} (hst : (jl g).stackTraces = false) (q14 : Nat → Int32 → Int32 → Int32 → Nat → AH → Option (Int32 × Nat × AH)) (hq14 : ∀ (a0 : Nat) (x1 : Int32) (x2 : Int32) (x3 : Int32) (z : Nat) (h : AH) (o : Int32 × Nat × AH), q14 a0 x1 x2 x3 z h = some o → J g MX9_bestVictims (jN g (some (.int o.1), o.2.1, o.2.2) rmX9_bestVictims.cells rmX9_bestVictims.slots) 14 [some (.ref a0), some (.int x1), some (.int x2), some (.int x3), none, none] [] z h 0 0) {a0 : Nat} {x1 : Int32} {x2 : Int32} {x3 : Int32} {s0 : Int32} {z : Nat} {h : AH} {o : Int32 × Nat × AH} (hf : bX9_bestVictims_89 q14 a0 x1 x2 x3 s0 z h = some o) : J g MX9_bestVictims (jN g (some (.int o.1), o.2.1, o.2.2) rmX9_bestVictims.cells rmX9_bestVictims.slots) 89 [some (.ref a0), some (.int x1), some (.int x2), some (.int x3), none, none] [.int s0] z h 0 0 := by
  unfold bX9_bestVictims_89 at hf
  refine S_istore_5 dX9_bestVictims_89 rfl (by decide) ?_
  refine J_iload dX9_bestVictims_91 rfl ?_
  rcases br hf with ⟨c1, hf⟩ | ⟨c1, hf⟩
  · refine J_if_eq (tgt := 100) dX9_bestVictims_93 (by decide) (fun _ => ?_) (fun w => absurd c1 w)
    refine J_iload_n dX9_bestVictims_100 rfl rfl ?_
    refine J.sub (jsub_s (jsub_s (jsub_n (jsub_s (jsub_n (jsub_n (jsub_nil _))))))) ?_
    exact wbX9_bestVictims_101 hst _ hq14 hf
  · refine J_if_eq (tgt := 100) dX9_bestVictims_93 (by decide) (fun w => absurd w c1) (fun _ => ?_)
    refine J_iload_n dX9_bestVictims_96 rfl rfl ?_
    refine J_goto (tgt := 101) dX9_bestVictims_97 (by decide) ?_
    refine J.sub (jsub_s (jsub_s (jsub_n (jsub_s (jsub_n (jsub_n (jsub_nil _))))))) ?_
    exact wbX9_bestVictims_101 hst _ hq14 hf
theorem wbX9_bestVictims_88 {g : JG} (hst : (jl g).stackTraces = false) (q14 : Nat → Int32 → Int32 → Int32 → Nat → AH → Option (Int32 × Nat × AH)) (hq14 : ∀ (a0 : Nat) (x1 : Int32) (x2 : Int32) (x3 : Int32) (z : Nat) (h : AH) (o : Int32 × Nat × AH), q14 a0 x1 x2 x3 z h = some o → J g MX9_bestVictims (jN g (some (.int o.1), o.2.1, o.2.2) rmX9_bestVictims.cells rmX9_bestVictims.slots) 14 [some (.ref a0), some (.int x1), some (.int x2), some (.int x3), none, none] [] z h 0 0) {a0 : Nat} {x1 : Int32} {x2 : Int32} {x3 : Int32} {z : Nat} {h : AH} {o : Int32 × Nat × AH} (hf : bX9_bestVictims_88 q14 a0 x1 x2 x3 z h = some o) : J g MX9_bestVictims (jN g (some (.int o.1), o.2.1, o.2.2) rmX9_bestVictims.cells rmX9_bestVictims.slots) 88 [some (.ref a0), some (.int x1), some (.int x2), some (.int x3), none, none] [] z h 0 0 := by
  unfold bX9_bestVictims_88 at hf
  refine J_iconst (v := 0) dX9_bestVictims_88 (by decide) ?_
  refine J.sub (jsub_s (jsub_s (jsub_s (jsub_s (jsub_n (jsub_n (jsub_nil _))))))) ?_
  exact wbX9_bestVictims_89 hst _ hq14 hf
theorem wbX9_bestVictims_84 {g : JG} (hst : (jl g).stackTraces = false) (q14 : Nat → Int32 → Int32 → Int32 → Nat → AH → Option (Int32 × Nat × AH)) (hq14 : ∀ (a0 : Nat) (x1 : Int32) (x2 : Int32) (x3 : Int32) (z : Nat) (h : AH) (o : Int32 × Nat × AH), q14 a0 x1 x2 x3 z h = some o → J g MX9_bestVictims (jN g (some (.int o.1), o.2.1, o.2.2) rmX9_bestVictims.cells rmX9_bestVictims.slots) 14 [some (.ref a0), some (.int x1), some (.int x2), some (.int x3), none, none] [] z h 0 0) {a0 : Nat} {x1 : Int32} {x2 : Int32} {x3 : Int32} {z : Nat} {h : AH} {o : Int32 × Nat × AH} (hf : bX9_bestVictims_84 q14 a0 x1 x2 x3 z h = some o) : J g MX9_bestVictims (jN g (some (.int o.1), o.2.1, o.2.2) rmX9_bestVictims.cells rmX9_bestVictims.slots) 84 [some (.ref a0), some (.int x1), some (.int x2), some (.int x3), none, none] [] z h 0 0 := by
  unfold bX9_bestVictims_84 at hf
  refine J_iconst (v := 1) dX9_bestVictims_84 (by decide) ?_
  refine J_goto (tgt := 89) dX9_bestVictims_85 (by decide) ?_
  refine J.sub (jsub_s (jsub_s (jsub_s (jsub_s (jsub_n (jsub_n (jsub_nil _))))))) ?_
  exact wbX9_bestVictims_89 hst _ hq14 hf
theorem wbX9_bestVictims_61 {g : JG} (hst : (jl g).stackTraces = false) (q14 : Nat → Int32 → Int32 → Int32 → Nat → AH → Option (Int32 × Nat × AH)) (hq14 : ∀ (a0 : Nat) (x1 : Int32) (x2 : Int32) (x3 : Int32) (z : Nat) (h : AH) (o : Int32 × Nat × AH), q14 a0 x1 x2 x3 z h = some o → J g MX9_bestVictims (jN g (some (.int o.1), o.2.1, o.2.2) rmX9_bestVictims.cells rmX9_bestVictims.slots) 14 [some (.ref a0), some (.int x1), some (.int x2), some (.int x3), none, none] [] z h 0 0) {a0 : Nat} {x1 : Int32} {x2 : Int32} {x3 : Int32} {s0 : Int32} {z : Nat} {h : AH} {o : Int32 × Nat × AH} (hf : bX9_bestVictims_61 q14 a0 x1 x2 x3 s0 z h = some o) : J g MX9_bestVictims (jN g (some (.int o.1), o.2.1, o.2.2) rmX9_bestVictims.cells rmX9_bestVictims.slots) 61 [some (.ref a0), some (.int x1), some (.int x2), some (.int x3), none, none] [.int s0] z h 0 0 := by
  unfold bX9_bestVictims_61 at hf
  refine S_istore_4 dX9_bestVictims_61 rfl (by decide) ?_
  refine J_iload dX9_bestVictims_63 rfl ?_
  rcases br hf with ⟨c1, hf⟩ | ⟨c1, hf⟩
  · refine J_if_gt (tgt := 84) dX9_bestVictims_65 (by decide) (fun _ => ?_) (fun w => absurd c1 w)
    refine J.sub (jsub_s (jsub_s (jsub_s (jsub_s (jsub_n (jsub_n (jsub_nil _))))))) ?_
    exact wbX9_bestVictims_84 hst _ hq14 hf
  · refine J_if_gt (tgt := 84) dX9_bestVictims_65 (by decide) (fun w => absurd w c1) (fun _ => ?_)
    refine J_iload dX9_bestVictims_68 rfl ?_
    rcases br hf with ⟨c2, hf⟩ | ⟨c2, hf⟩
    · refine J_if_ne (tgt := 88) dX9_bestVictims_70 (by decide) (fun w => absurd c2 w) (fun _ => ?_)
      refine J_iload_n dX9_bestVictims_73 rfl rfl ?_
      obtain ⟨vo3, zo3, ho3h, ho3, hf⟩ := rfs3 hf
      refine CS1i (host := "") dX9_bestVictims_74 (mX9_bits hst ho3) tk_1123 iX9_bits ⟨by decide, by decide⟩ ⟨by decide, by decide⟩ (Nat.le_of_ble_eq_true rfl) ?_
      refine J_iload_n dX9_bestVictims_77 rfl rfl ?_
      obtain ⟨vo4, zo4, ho4h, ho4, hf⟩ := rfs3 hf
      refine CS1i (host := "") dX9_bestVictims_78 (mX9_bits hst ho4) tk_1123 iX9_bits ⟨by decide, by decide⟩ ⟨by decide, by decide⟩ (Nat.le_of_ble_eq_true rfl) ?_
      rcases br hf with ⟨c5, hf⟩ | ⟨c5, hf⟩
      · refine J_icmp_ge (tgt := 88) dX9_bestVictims_81 (by decide) (fun _ => ?_) (fun w => absurd c5 w)
        refine J.sub (jsub_s (jsub_s (jsub_s (jsub_s (jsub_n (jsub_n (jsub_nil _))))))) ?_
        exact wbX9_bestVictims_88 hst _ hq14 hf
      · refine J_icmp_ge (tgt := 88) dX9_bestVictims_81 (by decide) (fun w => absurd w c5) (fun _ => ?_)
        refine J.sub (jsub_s (jsub_s (jsub_s (jsub_s (jsub_n (jsub_n (jsub_nil _))))))) ?_
        exact wbX9_bestVictims_84 hst _ hq14 hf
    · refine J_if_ne (tgt := 88) dX9_bestVictims_70 (by decide) (fun _ => ?_) (fun w => absurd w c2)
      refine J.sub (jsub_s (jsub_s (jsub_s (jsub_s (jsub_n (jsub_n (jsub_nil _))))))) ?_
      exact wbX9_bestVictims_88 hst _ hq14 hf
theorem wlX9_bestVictims_14 {g : JG} (hst : (jl g).stackTraces = false)   : ∀ (fuel : Nat) (a0 : Nat) (x1 : Int32) (x2 : Int32) (x3 : Int32) (z : Nat) (h : AH) (o : Int32 × Nat × AH), lX9_bestVictims_14  fuel a0 x1 x2 x3 z h = some o → J g MX9_bestVictims (jN g (some (.int o.1), o.2.1, o.2.2) rmX9_bestVictims.cells rmX9_bestVictims.slots) 14 [some (.ref a0), some (.int x1), some (.int x2), some (.int x3), none, none] [] z h 0 0 := by
  intro fuel
  induction fuel with
  | zero => intro a0 x1 x2 x3 z h o hf; cases hf
  | succ fuel ih =>
    intro a0 x1 x2 x3 z h o hf
    have hq14 := ih
    have hf : lX9_bestVictims_14B  (lX9_bestVictims_14  fuel) a0 x1 x2 x3 z h = some o := hf
    generalize lX9_bestVictims_14  fuel = q14 at hf hq14
    unfold lX9_bestVictims_14B at hf
    refine J_iload_n dX9_bestVictims_14 rfl rfl ?_
    refine J_sipush (v := 1024) dX9_bestVictims_15 (by decide) ?_
    rcases br hf with ⟨c1, hf⟩ | ⟨c1, hf⟩
    · refine J_icmp_ge (tgt := 108) dX9_bestVictims_18 (by decide) (fun _ => ?_) (fun w => absurd c1 w)
      refine J_iload_n dX9_bestVictims_108 rfl rfl ?_
      cases hf
      exact J_iretN dX9_bestVictims_109 rfl (by decide) (by decide)
    · refine J_icmp_ge (tgt := 108) dX9_bestVictims_18 (by decide) (fun w => absurd w c1) (fun _ => ?_)
      refine J_iload_n dX9_bestVictims_21 rfl rfl ?_
      refine J_iload_n dX9_bestVictims_22 rfl rfl ?_
      refine J_iconst (v := (-1)) dX9_bestVictims_23 (by decide) ?_
      refine J_ixor dX9_bestVictims_24 ?_
      refine J_iand dX9_bestVictims_25 ?_
      rcases br hf with ⟨c2, hf⟩ | ⟨c2, hf⟩
      · refine J_if_ne (tgt := 102) dX9_bestVictims_26 (by decide) (fun w => absurd c2 w) (fun _ => ?_)
        refine J_aload_n dX9_bestVictims_29 rfl rfl ?_
        refine J_iload_n dX9_bestVictims_30 rfl rfl ?_
        refine J_iload_n dX9_bestVictims_31 rfl rfl ?_
        refine J_iconst (v := (-1)) dX9_bestVictims_32 (by decide) ?_
        refine J_ixor dX9_bestVictims_33 ?_
        refine J_iand dX9_bestVictims_34 ?_
        obtain ⟨k3, hf⟩ := gds hf
        obtain ⟨vo4, zo4, ho4h, ho4, hf⟩ := rfs3 hf
        refine CV1i dX9_bestVictims_35 (mX9_cyclic hst ho4) tk_1242 iX9_cyclic k3 (by decide) rfl ⟨by decide, by decide⟩ ⟨by decide, by decide⟩ (Nat.le_of_ble_eq_true rfl) ?_
        rcases br hf with ⟨c5, hf⟩ | ⟨c5, hf⟩
        · refine J_if_ne (tgt := 102) dX9_bestVictims_38 (by decide) (fun w => absurd c5 w) (fun _ => ?_)
          refine J_iload_n dX9_bestVictims_41 rfl rfl ?_
          refine J_iconst (v := (-1)) dX9_bestVictims_42 (by decide) ?_
          rcases br hf with ⟨c6, hf⟩ | ⟨c6, hf⟩
          · refine J_icmp_ne (tgt := 50) dX9_bestVictims_43 (by decide) (fun w => absurd c6 w) (fun _ => ?_)
            refine J_iconst (v := 1) dX9_bestVictims_46 (by decide) ?_
            refine J_goto (tgt := 61) dX9_bestVictims_47 (by decide) ?_
            refine J.sub (jsub_s (jsub_s (jsub_s (jsub_s (jsub_n (jsub_n (jsub_nil _))))))) ?_
            exact wbX9_bestVictims_61 hst _ hq14 hf
          · refine J_icmp_ne (tgt := 50) dX9_bestVictims_43 (by decide) (fun _ => ?_) (fun w => absurd w c6)
            refine J_aload_n dX9_bestVictims_50 rfl rfl ?_
            refine J_iload_n dX9_bestVictims_51 rfl rfl ?_
            obtain ⟨k7, hf⟩ := gds hf
            obtain ⟨vo8, zo8, ho8h, ho8, hf⟩ := rfs3 hf
            refine CV1i dX9_bestVictims_52 (mX9_costOf hst ho8) tk_1294 iX9_costOf k7 (by decide) rfl ⟨by decide, by decide⟩ ⟨by decide, by decide⟩ (Nat.le_of_ble_eq_true rfl) ?_
            refine J_aload_n dX9_bestVictims_55 rfl rfl ?_
            refine J_iload_n dX9_bestVictims_56 rfl rfl ?_
            obtain ⟨k9, hf⟩ := gds hf
            obtain ⟨vo10, zo10, ho10h, ho10, hf⟩ := rfs3 hf
            refine CV1i dX9_bestVictims_57 (mX9_costOf hst ho10) tk_1294 iX9_costOf k9 (by decide) rfl ⟨by decide, by decide⟩ ⟨by decide, by decide⟩ (Nat.le_of_ble_eq_true rfl) ?_
            refine J_isub dX9_bestVictims_60 ?_
            refine J.sub (jsub_s (jsub_s (jsub_s (jsub_s (jsub_n (jsub_n (jsub_nil _))))))) ?_
            exact wbX9_bestVictims_61 hst _ hq14 hf
        · refine J_if_ne (tgt := 102) dX9_bestVictims_38 (by decide) (fun _ => ?_) (fun w => absurd w c5)
          refine J.sub (jsub_s (jsub_s (jsub_s (jsub_s (jsub_n (jsub_n (jsub_nil _))))))) ?_
          exact wbX9_bestVictims_102 hst _ hq14 hf
      · refine J_if_ne (tgt := 102) dX9_bestVictims_26 (by decide) (fun _ => ?_) (fun w => absurd w c2)
        refine J.sub (jsub_s (jsub_s (jsub_s (jsub_s (jsub_n (jsub_n (jsub_nil _))))))) ?_
        exact wbX9_bestVictims_102 hst _ hq14 hf
theorem wfX9_bestVictims {g : JG} (hst : (jl g).stackTraces = false)   {a0 : Nat} {z : Nat} {h : AH} {o : Int32 × Nat × AH} (hf : fX9_bestVictims  a0 z h = some o) : J g MX9_bestVictims (jN g (some (.int o.1), o.2.1, o.2.2) rmX9_bestVictims.cells rmX9_bestVictims.slots) 0 [some (.ref a0), none, none, none, none, none] [] z h 0 0 := by
  unfold fX9_bestVictims at hf
  refine J_aload_n dX9_bestVictims_0 rfl rfl ?_
  refine J_iconst (v := 0) dX9_bestVictims_1 (by decide) ?_
  obtain ⟨k1, hf⟩ := gds hf
  refine P_9_6 dX9_bestVictims_2 tk_925 k1 ?_
  obtain ⟨h2, eh2, hf⟩ := bls hf
  refine J_h eh2 ?_
  refine J_aload_n dX9_bestVictims_5 rfl rfl ?_
  have k3 : kd h2 a0 = 10 := by rw [eh2]; exact k1
  obtain ⟨vo4, zo4, ho4h, ho4, hf⟩ := rfs3 hf
  refine CV0i dX9_bestVictims_6 (mX9_all hst ho4) tk_1162 iX9_all k3 (by decide) rfl ⟨by decide, by decide⟩ ⟨by decide, by decide⟩ (Nat.le_of_ble_eq_true rfl) ?_
  refine S_istore_n_1 dX9_bestVictims_9 rfl (by decide) ?_
  refine J_iconst (v := (-1)) dX9_bestVictims_10 (by decide) ?_
  refine S_istore_n_2 dX9_bestVictims_11 rfl (by decide) ?_
  refine J_iconst (v := 0) dX9_bestVictims_12 (by decide) ?_
  refine S_istore_n_3 dX9_bestVictims_13 rfl (by decide) ?_
  refine J.sub (jsub_s (jsub_s (jsub_s (jsub_s (jsub_n (jsub_n (jsub_nil _))))))) ?_
  exact wlX9_bestVictims_14 hst   _ _ _ _ _ _ _ _ hf
theorem mX9_bestVictims {g : JG} (hst : (jl g).stackTraces = false) {a0 : Nat} {z : Nat} {h : AH} {o : Int32 × Nat × AH} (hf : fX9_bestVictims a0 z h = some o) : jMet g yX9_bestVictims (wj yX9_bestVictims cX9_bestVictims 6 (some .int)) rmX9_bestVictims [.ref a0] z h (some (.int o.1), o.2.1, o.2.2) :=
  jMet_mk (by decide) (Nat.le_of_ble_eq_true rfl) [some (.ref a0), none, none, none, none, none] rfl (wfX9_bestVictims hst hf)
def lX9_wouldEnd_66B  (q66 : Nat → Int32 → Int32 → Int32 → Nat → AH → Option (Int32 × Nat × AH)) (a0 : Nat) (x1 : Int32) (x2 : Int32) (x4 : Int32) (z : Nat) (h : AH) : Option (Int32 × Nat × AH) :=
  (if 613 ≤ x4 then (gd (kd h a0 = 10) (Option.bind (rv h a0 3) (fun b3 => gd (kd h b3 = 13) (gd (¬ ((7 : Int32) < 0 ∨ ln h b3 ≤ Int32.toNatClampNeg 7)) (bl (wI h b3 (Int32.toNatClampNeg 7) x1) (fun h6 => some (x2, z, h6))))))) else (gd (kd h a0 = 10) (Option.bind (rv h a0 0) (fun b8 => Option.bind (rv h a0 10) (fun b9 => gd (kd h b9 = 13) (gd (¬ ((x4 : Int32) < 0 ∨ ln h b9 ≤ Int32.toNatClampNeg x4)) (gd (kd h b8 = 13) (gd (¬ ((x4 : Int32) < 0 ∨ ln h b8 ≤ Int32.toNatClampNeg x4)) (bl (wI h b8 (Int32.toNatClampNeg x4) (iv h b9 (Int32.toNatClampNeg x4))) (fun h14 => q66 a0 x1 x2 (x4 + 1) z h14))))))))))
def lX9_wouldEnd_66  : Nat → Nat → Int32 → Int32 → Int32 → Nat → AH → Option (Int32 × Nat × AH)
  | 0 => fun _ _ _ _ _ _ => none
  | fuel + 1 => lX9_wouldEnd_66B  (lX9_wouldEnd_66  fuel)
def bX9_wouldEnd_59 (q21 : Nat → Int32 → Int32 → Int32 → Nat → AH → Option (Int32 × Nat × AH)) (a0 : Nat) (x1 : Int32) (x2 : Int32) (s0 : Int32) (z : Nat) (h : AH) : Option (Int32 × Nat × AH) :=
  q21 a0 x1 x2 s0 z h
def bX9_wouldEnd_47 (q21 : Nat → Int32 → Int32 → Int32 → Nat → AH → Option (Int32 × Nat × AH)) (a0 : Nat) (x1 : Int32) (x2 : Int32) (x3 : Int32) (x4 : Int32) (z : Nat) (h : AH) : Option (Int32 × Nat × AH) :=
  (if x4 = 0 then (bX9_wouldEnd_59 q21 a0 x1 x2 (x3 + 1) z h) else (bX9_wouldEnd_59 q21 a0 x1 x2 0 z h))
def lX9_wouldEnd_21B  (q21 : Nat → Int32 → Int32 → Int32 → Nat → AH → Option (Int32 × Nat × AH)) (a0 : Nat) (x1 : Int32) (x2 : Int32) (x3 : Int32) (z : Nat) (h : AH) : Option (Int32 × Nat × AH) :=
  (if 10 ≤ x3 then (lX9_wouldEnd_66  fu a0 x1 x2 0 z h) else (gd (kd h a0 = 10) (bd3 (fX9_isRunning a0 x3 z h) (fun vo3 zo3 ho3h => (if vo3 = 0 then (bX9_wouldEnd_47 q21 a0 x1 x2 x3 vo3 zo3 ho3h) else (gd (kd ho3h a0 = 10) (bd2 (fX9_finishes a0 x3 zo3 ho3h) (fun zo6 ho6h => bX9_wouldEnd_47 q21 a0 x1 (x2 + 1) x3 vo3 zo6 ho6h))))))))
def lX9_wouldEnd_21  : Nat → Nat → Int32 → Int32 → Int32 → Nat → AH → Option (Int32 × Nat × AH)
  | 0 => fun _ _ _ _ _ _ => none
  | fuel + 1 => lX9_wouldEnd_21B  (lX9_wouldEnd_21  fuel)
def fX9_wouldEnd  (a0 : Nat) (z : Nat) (h : AH) : Option (Int32 × Nat × AH) :=
  gd (kd h a0 = 10) (bl (wI h a0 6 0) (fun h2 => bd2 (fX9_begins a0 z h2) (fun zo4 ho4h => gd (kd ho4h a0 = 10) (Option.bind (rv ho4h a0 3) (fun b6 => gd (kd ho4h b6 = 13) (gd (¬ ((7 : Int32) < 0 ∨ ln ho4h b6 ≤ Int32.toNatClampNeg 7)) (bl ((iv ho4h b6 (Int32.toNatClampNeg 7))) (fun v9 => lX9_wouldEnd_21  fu a0 v9 0 0 zo4 ho4h))))))))
theorem wlX9_wouldEnd_66 {g : JG} (hst : (jl g).stackTraces = false)   : ∀ (fuel : Nat) (a0 : Nat) (x1 : Int32) (x2 : Int32) (x4 : Int32) (z : Nat) (h : AH) (o : Int32 × Nat × AH), lX9_wouldEnd_66  fuel a0 x1 x2 x4 z h = some o → J g MX9_wouldEnd (jN g (some (.int o.1), o.2.1, o.2.2) rmX9_wouldEnd.cells rmX9_wouldEnd.slots) 66 [some (.ref a0), some (.int x1), some (.int x2), none, some (.int x4)] [] z h 0 0 := by
  intro fuel
  induction fuel with
  | zero => intro a0 x1 x2 x4 z h o hf; cases hf
  | succ fuel ih =>
    intro a0 x1 x2 x4 z h o hf
    have hq66 := ih
    have hf : lX9_wouldEnd_66B  (lX9_wouldEnd_66  fuel) a0 x1 x2 x4 z h = some o := hf
    generalize lX9_wouldEnd_66  fuel = q66 at hf hq66
    unfold lX9_wouldEnd_66B at hf
    refine J_iload dX9_wouldEnd_66 rfl ?_
    refine J_sipush (v := 613) dX9_wouldEnd_68 (by decide) ?_
    rcases br hf with ⟨c1, hf⟩ | ⟨c1, hf⟩
    · refine J_icmp_ge (tgt := 94) dX9_wouldEnd_71 (by decide) (fun _ => ?_) (fun w => absurd c1 w)
      refine J_aload_n dX9_wouldEnd_94 rfl rfl ?_
      obtain ⟨k2, hf⟩ := gds hf
      obtain ⟨b3, rb3, hf⟩ := rfs hf
      refine G_9_3 dX9_wouldEnd_95 tk_922 k2 rb3 ?_
      refine J_bipush (v := 7) dX9_wouldEnd_98 (by decide) ?_
      refine J_iload_n dX9_wouldEnd_100 rfl rfl ?_
      obtain ⟨k4, hf⟩ := gds hf
      obtain ⟨n5, hf⟩ := gds hf
      refine J_iastore dX9_wouldEnd_101 k4 n5 ?_
      obtain ⟨h6, eh6, hf⟩ := bls hf
      refine J_h eh6 ?_
      refine J_iload_n dX9_wouldEnd_102 rfl rfl ?_
      cases hf
      exact J_iretN dX9_wouldEnd_103 rfl (by decide) (by decide)
    · refine J_icmp_ge (tgt := 94) dX9_wouldEnd_71 (by decide) (fun w => absurd w c1) (fun _ => ?_)
      refine J_aload_n dX9_wouldEnd_74 rfl rfl ?_
      obtain ⟨k7, hf⟩ := gds hf
      obtain ⟨b8, rb8, hf⟩ := rfs hf
      refine G_9_0 dX9_wouldEnd_75 tk_919 k7 rb8 ?_
      refine J_iload dX9_wouldEnd_78 rfl ?_
      refine J_aload_n dX9_wouldEnd_80 rfl rfl ?_
      obtain ⟨b9, rb9, hf⟩ := rfs hf
      refine G_9_10 dX9_wouldEnd_81 tk_929 k7 rb9 ?_
      refine J_iload dX9_wouldEnd_84 rfl ?_
      obtain ⟨k10, hf⟩ := gds hf
      obtain ⟨n11, hf⟩ := gds hf
      refine J_iaload dX9_wouldEnd_86 k10 n11 ?_
      obtain ⟨k12, hf⟩ := gds hf
      obtain ⟨n13, hf⟩ := gds hf
      refine J_iastore dX9_wouldEnd_87 k12 n13 ?_
      obtain ⟨h14, eh14, hf⟩ := bls hf
      refine J_h eh14 ?_
      refine S_iinc_4 (v := x4 + 1) dX9_wouldEnd_88 (congrArg (fun w => x4 + w) (by decide)) rfl (by decide) ?_
      refine J_goto (tgt := 66) dX9_wouldEnd_91 (by decide) ?_
      refine J.sub (jsub_s (jsub_s (jsub_s (jsub_n (jsub_s (jsub_nil _)))))) ?_
      exact hq66 _ _ _ _ _ _ _ hf
theorem wbX9_wouldEnd_59 {g : JG} (hst : (jl g).stackTraces = false) (q21 : Nat → Int32 → Int32 → Int32 → Nat → AH → Option (Int32 × Nat × AH)) (hq21 : ∀ (a0 : Nat) (x1 : Int32) (x2 : Int32) (x3 : Int32) (z : Nat) (h : AH) (o : Int32 × Nat × AH), q21 a0 x1 x2 x3 z h = some o → J g MX9_wouldEnd (jN g (some (.int o.1), o.2.1, o.2.2) rmX9_wouldEnd.cells rmX9_wouldEnd.slots) 21 [some (.ref a0), some (.int x1), some (.int x2), some (.int x3), none] [] z h 0 0) {a0 : Nat} {x1 : Int32} {x2 : Int32} {s0 : Int32} {z : Nat} {h : AH} {o : Int32 × Nat × AH} (hf : bX9_wouldEnd_59 q21 a0 x1 x2 s0 z h = some o) : J g MX9_wouldEnd (jN g (some (.int o.1), o.2.1, o.2.2) rmX9_wouldEnd.cells rmX9_wouldEnd.slots) 59 [some (.ref a0), some (.int x1), some (.int x2), none, none] [.int s0] z h 0 0 := by
  unfold bX9_wouldEnd_59 at hf
  refine S_istore_n_3 dX9_wouldEnd_59 rfl (by decide) ?_
  refine J_goto (tgt := 21) dX9_wouldEnd_60 (by decide) ?_
  refine J.sub (jsub_s (jsub_s (jsub_s (jsub_s (jsub_n (jsub_nil _)))))) ?_
  exact hq21 _ _ _ _ _ _ _ hf
theorem wbX9_wouldEnd_47 {g : JG} (hst : (jl g).stackTraces = false) (q21 : Nat → Int32 → Int32 → Int32 → Nat → AH → Option (Int32 × Nat × AH)) (hq21 : ∀ (a0 : Nat) (x1 : Int32) (x2 : Int32) (x3 : Int32) (z : Nat) (h : AH) (o : Int32 × Nat × AH), q21 a0 x1 x2 x3 z h = some o → J g MX9_wouldEnd (jN g (some (.int o.1), o.2.1, o.2.2) rmX9_wouldEnd.cells rmX9_wouldEnd.slots) 21 [some (.ref a0), some (.int x1), some (.int x2), some (.int x3), none] [] z h 0 0) {a0 : Nat} {x1 : Int32} {x2 : Int32} {x3 : Int32} {x4 : Int32} {z : Nat} {h : AH} {o : Int32 × Nat × AH} (hf : bX9_wouldEnd_47 q21 a0 x1 x2 x3 x4 z h = some o) : J g MX9_wouldEnd (jN g (some (.int o.1), o.2.1, o.2.2) rmX9_wouldEnd.cells rmX9_wouldEnd.slots) 47 [some (.ref a0), some (.int x1), some (.int x2), some (.int x3), some (.int x4)] [] z h 0 0 := by
  unfold bX9_wouldEnd_47 at hf
  refine J_iload dX9_wouldEnd_47 rfl ?_
  rcases br hf with ⟨c1, hf⟩ | ⟨c1, hf⟩
  · refine J_if_eq (tgt := 56) dX9_wouldEnd_49 (by decide) (fun _ => ?_) (fun w => absurd c1 w)
    refine J_iload_n dX9_wouldEnd_56 rfl rfl ?_
    refine J_iconst (v := 1) dX9_wouldEnd_57 (by decide) ?_
    refine J_iadd dX9_wouldEnd_58 ?_
    refine J.sub (jsub_s (jsub_s (jsub_s (jsub_n (jsub_n (jsub_nil _)))))) ?_
    exact wbX9_wouldEnd_59 hst _ hq21 hf
  · refine J_if_eq (tgt := 56) dX9_wouldEnd_49 (by decide) (fun w => absurd w c1) (fun _ => ?_)
    refine J_iconst (v := 0) dX9_wouldEnd_52 (by decide) ?_
    refine J_goto (tgt := 59) dX9_wouldEnd_53 (by decide) ?_
    refine J.sub (jsub_s (jsub_s (jsub_s (jsub_n (jsub_n (jsub_nil _)))))) ?_
    exact wbX9_wouldEnd_59 hst _ hq21 hf
theorem wlX9_wouldEnd_21 {g : JG} (hst : (jl g).stackTraces = false)   : ∀ (fuel : Nat) (a0 : Nat) (x1 : Int32) (x2 : Int32) (x3 : Int32) (z : Nat) (h : AH) (o : Int32 × Nat × AH), lX9_wouldEnd_21  fuel a0 x1 x2 x3 z h = some o → J g MX9_wouldEnd (jN g (some (.int o.1), o.2.1, o.2.2) rmX9_wouldEnd.cells rmX9_wouldEnd.slots) 21 [some (.ref a0), some (.int x1), some (.int x2), some (.int x3), none] [] z h 0 0 := by
  intro fuel
  induction fuel with
  | zero => intro a0 x1 x2 x3 z h o hf; cases hf
  | succ fuel ih =>
    intro a0 x1 x2 x3 z h o hf
    have hq21 := ih
    have hf : lX9_wouldEnd_21B  (lX9_wouldEnd_21  fuel) a0 x1 x2 x3 z h = some o := hf
    generalize lX9_wouldEnd_21  fuel = q21 at hf hq21
    unfold lX9_wouldEnd_21B at hf
    refine J_iload_n dX9_wouldEnd_21 rfl rfl ?_
    refine J_bipush (v := 10) dX9_wouldEnd_22 (by decide) ?_
    rcases br hf with ⟨c1, hf⟩ | ⟨c1, hf⟩
    · refine J_icmp_ge (tgt := 63) dX9_wouldEnd_24 (by decide) (fun _ => ?_) (fun w => absurd c1 w)
      refine J_iconst (v := 0) dX9_wouldEnd_63 (by decide) ?_
      refine S_istore_4 dX9_wouldEnd_64 rfl (by decide) ?_
      refine J.sub (jsub_s (jsub_s (jsub_s (jsub_n (jsub_s (jsub_nil _)))))) ?_
      exact wlX9_wouldEnd_66 hst   _ _ _ _ _ _ _ _ hf
    · refine J_icmp_ge (tgt := 63) dX9_wouldEnd_24 (by decide) (fun w => absurd w c1) (fun _ => ?_)
      refine J_aload_n dX9_wouldEnd_27 rfl rfl ?_
      refine J_iload_n dX9_wouldEnd_28 rfl rfl ?_
      obtain ⟨k2, hf⟩ := gds hf
      obtain ⟨vo3, zo3, ho3h, ho3, hf⟩ := rfs3 hf
      refine CV1i dX9_wouldEnd_29 (mX9_isRunning hst ho3) tk_1051 iX9_isRunning k2 (by decide) rfl ⟨by decide, by decide⟩ ⟨by decide, by decide⟩ (Nat.le_of_ble_eq_true rfl) ?_
      refine S_istore_4 dX9_wouldEnd_32 rfl (by decide) ?_
      refine J_iload dX9_wouldEnd_34 rfl ?_
      rcases br hf with ⟨c4, hf⟩ | ⟨c4, hf⟩
      · refine J_if_eq (tgt := 47) dX9_wouldEnd_36 (by decide) (fun _ => ?_) (fun w => absurd c4 w)
        refine J.sub (jsub_s (jsub_s (jsub_s (jsub_s (jsub_s (jsub_nil _)))))) ?_
        exact wbX9_wouldEnd_47 hst _ hq21 hf
      · refine J_if_eq (tgt := 47) dX9_wouldEnd_36 (by decide) (fun w => absurd w c4) (fun _ => ?_)
        refine J_aload_n dX9_wouldEnd_39 rfl rfl ?_
        refine J_iload_n dX9_wouldEnd_40 rfl rfl ?_
        obtain ⟨k5, hf⟩ := gds hf
        obtain ⟨zo6, ho6h, ho6, hf⟩ := rfs2 hf
        refine CV1v dX9_wouldEnd_41 (mX9_finishes hst ho6) tk_1134 iX9_finishes k5 (by decide) rfl ⟨by decide, by decide⟩ ⟨by decide, by decide⟩ (Nat.le_of_ble_eq_true rfl) ?_
        refine S_iinc_2 (v := x2 + 1) dX9_wouldEnd_44 (congrArg (fun w => x2 + w) (by decide)) rfl (by decide) ?_
        refine J.sub (jsub_s (jsub_s (jsub_s (jsub_s (jsub_s (jsub_nil _)))))) ?_
        exact wbX9_wouldEnd_47 hst _ hq21 hf
theorem wfX9_wouldEnd {g : JG} (hst : (jl g).stackTraces = false)   {a0 : Nat} {z : Nat} {h : AH} {o : Int32 × Nat × AH} (hf : fX9_wouldEnd  a0 z h = some o) : J g MX9_wouldEnd (jN g (some (.int o.1), o.2.1, o.2.2) rmX9_wouldEnd.cells rmX9_wouldEnd.slots) 0 [some (.ref a0), none, none, none, none] [] z h 0 0 := by
  unfold fX9_wouldEnd at hf
  refine J_aload_n dX9_wouldEnd_0 rfl rfl ?_
  refine J_iconst (v := 0) dX9_wouldEnd_1 (by decide) ?_
  obtain ⟨k1, hf⟩ := gds hf
  refine P_9_6 dX9_wouldEnd_2 tk_925 k1 ?_
  obtain ⟨h2, eh2, hf⟩ := bls hf
  refine J_h eh2 ?_
  refine J_aload_n dX9_wouldEnd_5 rfl rfl ?_
  have k3 : kd h2 a0 = 10 := by rw [eh2]; exact k1
  obtain ⟨zo4, ho4h, ho4, hf⟩ := rfs2 hf
  refine CV0v dX9_wouldEnd_6 (mX9_begins hst ho4) tk_999 iX9_begins k3 (by decide) rfl ⟨by decide, by decide⟩ ⟨by decide, by decide⟩ (Nat.le_of_ble_eq_true rfl) ?_
  refine J_aload_n dX9_wouldEnd_9 rfl rfl ?_
  obtain ⟨k5, hf⟩ := gds hf
  obtain ⟨b6, rb6, hf⟩ := rfs hf
  refine G_9_3 dX9_wouldEnd_10 tk_922 k5 rb6 ?_
  refine J_bipush (v := 7) dX9_wouldEnd_13 (by decide) ?_
  obtain ⟨k7, hf⟩ := gds hf
  obtain ⟨n8, hf⟩ := gds hf
  refine J_iaload dX9_wouldEnd_15 k7 n8 ?_
  obtain ⟨v9, ev9, hf⟩ := bls hf
  refine J_i ev9 ?_
  refine S_istore_n_1 dX9_wouldEnd_16 rfl (by decide) ?_
  refine J_iconst (v := 0) dX9_wouldEnd_17 (by decide) ?_
  refine S_istore_n_2 dX9_wouldEnd_18 rfl (by decide) ?_
  refine J_iconst (v := 0) dX9_wouldEnd_19 (by decide) ?_
  refine S_istore_n_3 dX9_wouldEnd_20 rfl (by decide) ?_
  refine J.sub (jsub_s (jsub_s (jsub_s (jsub_s (jsub_n (jsub_nil _)))))) ?_
  exact wlX9_wouldEnd_21 hst   _ _ _ _ _ _ _ _ hf
theorem mX9_wouldEnd {g : JG} (hst : (jl g).stackTraces = false) {a0 : Nat} {z : Nat} {h : AH} {o : Int32 × Nat × AH} (hf : fX9_wouldEnd a0 z h = some o) : jMet g yX9_wouldEnd (wj yX9_wouldEnd cX9_wouldEnd 5 (some .int)) rmX9_wouldEnd [.ref a0] z h (some (.int o.1), o.2.1, o.2.2) :=
  jMet_mk (by decide) (Nat.le_of_ble_eq_true rfl) [some (.ref a0), none, none, none, none] rfl (wfX9_wouldEnd hst hf)
def bX9_type_30  (a0 : Nat) (x1 : Int32) (u0 : Nat) (s1 : Int32) (z : Nat) (h : AH) : Option (Int32 × Nat × AH) :=
  gd (kd h u0 = 10) (bl (wI h u0 6 s1) (fun h2 => gd (kd h2 a0 = 10) ((if (iv h2 a0 6) ≤ 0 then (Option.bind (rv h2 a0 4) (fun b5 => gd (kd h2 b5 = 11) (gd (¬ (((iv h2 a0 5) : Int32) < 0 ∨ ln h2 b5 ≤ Int32.toNatClampNeg (iv h2 a0 5))) (bl (wI h2 b5 (Int32.toNatClampNeg (iv h2 a0 5)) (vp_nar .byte ((Int32.toInt8 x1).toInt32))) (fun h8 => bl (wI h8 a0 5 ((iv h8 a0 5) + 1)) (fun h10 => some ((iv h10 a0 5), z, h10))))))) else (some (0, z, h2))))))
def fX9_type  (a0 : Nat) (x1 : Int32) (z : Nat) (h : AH) : Option (Int32 × Nat × AH) :=
  bd3 (fX9_in x1 32 126 z h) (fun vo1 zo1 ho1h => (if vo1 = 0 then (bX9_type_30  a0 x1 a0 1 zo1 ho1h) else (gd (kd ho1h a0 = 10) ((if (iv ho1h a0 5) = 120 then (bX9_type_30  a0 x1 a0 2 zo1 ho1h) else (bX9_type_30  a0 x1 a0 0 zo1 ho1h))))))
theorem wbX9_type_30 {g : JG} (hst : (jl g).stackTraces = false)   {a0 : Nat} {x1 : Int32} {u0 : Nat} {s1 : Int32} {z : Nat} {h : AH} {o : Int32 × Nat × AH} (hf : bX9_type_30  a0 x1 u0 s1 z h = some o) : J g MX9_type (jN g (some (.int o.1), o.2.1, o.2.2) rmX9_type.cells rmX9_type.slots) 30 [some (.ref a0), some (.int x1)] [.int s1, .ref u0] z h 0 0 := by
  unfold bX9_type_30 at hf
  obtain ⟨k1, hf⟩ := gds hf
  refine P_9_6 dX9_type_30 tk_925 k1 ?_
  obtain ⟨h2, eh2, hf⟩ := bls hf
  refine J_h eh2 ?_
  refine J_aload_n dX9_type_33 rfl rfl ?_
  obtain ⟨k3, hf⟩ := gds hf
  refine G_9_6 dX9_type_34 tk_925 k3 ?_
  rcases br hf with ⟨c4, hf⟩ | ⟨c4, hf⟩
  · refine J_if_le (tgt := 42) dX9_type_37 (by decide) (fun _ => ?_) (fun w => absurd c4 w)
    refine J_aload_n dX9_type_42 rfl rfl ?_
    obtain ⟨b5, rb5, hf⟩ := rfs hf
    refine G_9_4 dX9_type_43 tk_923 k3 rb5 ?_
    refine J_aload_n dX9_type_46 rfl rfl ?_
    refine G_9_5 dX9_type_47 tk_924 k3 ?_
    refine J_iload_n dX9_type_50 rfl rfl ?_
    refine J_i2b dX9_type_51 ?_
    obtain ⟨k6, hf⟩ := gds hf
    obtain ⟨n7, hf⟩ := gds hf
    refine J_bastore dX9_type_52 k6 n7 ?_
    obtain ⟨h8, eh8, hf⟩ := bls hf
    refine J_h eh8 ?_
    refine J_aload_n dX9_type_53 rfl rfl ?_
    refine J_dup dX9_type_54 rfl ?_
    have k9 : kd h8 a0 = 10 := by rw [eh8]; exact k3
    refine G_9_5 dX9_type_55 tk_924 k9 ?_
    refine J_iconst (v := 1) dX9_type_58 (by decide) ?_
    refine J_iadd dX9_type_59 ?_
    refine P_9_5 dX9_type_60 tk_924 k9 ?_
    obtain ⟨h10, eh10, hf⟩ := bls hf
    refine J_h eh10 ?_
    refine J_aload_n dX9_type_63 rfl rfl ?_
    have k11 : kd h10 a0 = 10 := by rw [eh10]; exact k9
    refine G_9_5 dX9_type_64 tk_924 k11 ?_
    cases hf
    exact J_iretN dX9_type_67 rfl (by decide) (by decide)
  · refine J_if_le (tgt := 42) dX9_type_37 (by decide) (fun w => absurd w c4) (fun _ => ?_)
    refine J_iconst (v := 0) dX9_type_40 (by decide) ?_
    cases hf
    exact J_iretN dX9_type_41 rfl (by decide) (by decide)
theorem wfX9_type {g : JG} (hst : (jl g).stackTraces = false)   {a0 : Nat} {x1 : Int32} {z : Nat} {h : AH} {o : Int32 × Nat × AH} (hf : fX9_type  a0 x1 z h = some o) : J g MX9_type (jN g (some (.int o.1), o.2.1, o.2.2) rmX9_type.cells rmX9_type.slots) 0 [some (.ref a0), some (.int x1)] [] z h 0 0 := by
  unfold fX9_type at hf
  refine J_aload_n dX9_type_0 rfl rfl ?_
  refine J_iload_n dX9_type_1 rfl rfl ?_
  refine J_bipush (v := 32) dX9_type_2 (by decide) ?_
  refine J_bipush (v := 126) dX9_type_4 (by decide) ?_
  obtain ⟨vo1, zo1, ho1h, ho1, hf⟩ := rfs3 hf
  refine CS3i (host := "") dX9_type_6 (mX9_in hst ho1) tk_996 iX9_in ⟨by decide, by decide⟩ ⟨by decide, by decide⟩ (Nat.le_of_ble_eq_true rfl) ?_
  rcases br hf with ⟨c2, hf⟩ | ⟨c2, hf⟩
  · refine J_if_ne (tgt := 16) dX9_type_9 (by decide) (fun w => absurd c2 w) (fun _ => ?_)
    refine J_iconst (v := 1) dX9_type_12 (by decide) ?_
    refine J_goto (tgt := 30) dX9_type_13 (by decide) ?_
    refine J.sub (jsub_s (jsub_s (jsub_nil _))) ?_
    exact wbX9_type_30 hst   hf
  · refine J_if_ne (tgt := 16) dX9_type_9 (by decide) (fun _ => ?_) (fun w => absurd w c2)
    refine J_aload_n dX9_type_16 rfl rfl ?_
    obtain ⟨k3, hf⟩ := gds hf
    refine G_9_5 dX9_type_17 tk_924 k3 ?_
    refine J_bipush (v := 120) dX9_type_20 (by decide) ?_
    rcases br hf with ⟨c4, hf⟩ | ⟨c4, hf⟩
    · refine J_icmp_ne (tgt := 29) dX9_type_22 (by decide) (fun w => absurd c4 w) (fun _ => ?_)
      refine J_iconst (v := 2) dX9_type_25 (by decide) ?_
      refine J_goto (tgt := 30) dX9_type_26 (by decide) ?_
      refine J.sub (jsub_s (jsub_s (jsub_nil _))) ?_
      exact wbX9_type_30 hst   hf
    · refine J_icmp_ne (tgt := 29) dX9_type_22 (by decide) (fun _ => ?_) (fun w => absurd w c4)
      refine J_iconst (v := 0) dX9_type_29 (by decide) ?_
      refine J.sub (jsub_s (jsub_s (jsub_nil _))) ?_
      exact wbX9_type_30 hst   hf
theorem mX9_type {g : JG} (hst : (jl g).stackTraces = false) {a0 : Nat} {x1 : Int32} {z : Nat} {h : AH} {o : Int32 × Nat × AH} (hf : fX9_type a0 x1 z h = some o) : jMet g yX9_type (wj yX9_type cX9_type 2 (some .int)) rmX9_type [.ref a0, .int x1] z h (some (.int o.1), o.2.1, o.2.2) :=
  jMet_mk (by decide) (Nat.le_of_ble_eq_true rfl) [some (.ref a0), some (.int x1)] rfl (wfX9_type hst hf)
def fX9_clearText  (a0 : Nat) (z : Nat) (h : AH) : Option (Int32 × Nat × AH) :=
  gd (kd h a0 = 10) (bl (wI h a0 6 0) (fun h2 => bl ((iv h2 a0 5)) (fun v4 => bl (wI h2 a0 5 0) (fun h5 => some (v4, z, h5)))))
theorem wfX9_clearText {g : JG} (hst : (jl g).stackTraces = false)   {a0 : Nat} {z : Nat} {h : AH} {o : Int32 × Nat × AH} (hf : fX9_clearText  a0 z h = some o) : J g MX9_clearText (jN g (some (.int o.1), o.2.1, o.2.2) rmX9_clearText.cells rmX9_clearText.slots) 0 [some (.ref a0), none] [] z h 0 0 := by
  unfold fX9_clearText at hf
  refine J_aload_n dX9_clearText_0 rfl rfl ?_
  refine J_iconst (v := 0) dX9_clearText_1 (by decide) ?_
  obtain ⟨k1, hf⟩ := gds hf
  refine P_9_6 dX9_clearText_2 tk_925 k1 ?_
  obtain ⟨h2, eh2, hf⟩ := bls hf
  refine J_h eh2 ?_
  refine J_aload_n dX9_clearText_5 rfl rfl ?_
  have k3 : kd h2 a0 = 10 := by rw [eh2]; exact k1
  refine G_9_5 dX9_clearText_6 tk_924 k3 ?_
  obtain ⟨v4, ev4, hf⟩ := bls hf
  refine J_i ev4 ?_
  refine S_istore_n_1 dX9_clearText_9 rfl (by decide) ?_
  refine J_aload_n dX9_clearText_10 rfl rfl ?_
  refine J_iconst (v := 0) dX9_clearText_11 (by decide) ?_
  refine P_9_5 dX9_clearText_12 tk_924 k3 ?_
  obtain ⟨h5, eh5, hf⟩ := bls hf
  refine J_h eh5 ?_
  refine J_iload_n dX9_clearText_15 rfl rfl ?_
  cases hf
  exact J_iretN dX9_clearText_16 rfl (by decide) (by decide)
theorem mX9_clearText {g : JG} (hst : (jl g).stackTraces = false) {a0 : Nat} {z : Nat} {h : AH} {o : Int32 × Nat × AH} (hf : fX9_clearText a0 z h = some o) : jMet g yX9_clearText (wj yX9_clearText cX9_clearText 2 (some .int)) rmX9_clearText [.ref a0] z h (some (.int o.1), o.2.1, o.2.2) :=
  jMet_mk (by decide) (Nat.le_of_ble_eq_true rfl) [some (.ref a0), none] rfl (wfX9_clearText hst hf)
def fX9_here  (a0 : Nat) (x1 : Int32) (z : Nat) (h : AH) : Option (Int32 × Nat × AH) :=
  gd (kd h a0 = 10) ((if (iv h a0 5) ≤ x1 then (some ((-1), z, h)) else (Option.bind (rv h a0 4) (fun b3 => gd (kd h b3 = 11) (gd (¬ ((x1 : Int32) < 0 ∨ ln h b3 ≤ Int32.toNatClampNeg x1)) (some ((iv h b3 (Int32.toNatClampNeg x1)), z, h)))))))
theorem wfX9_here {g : JG} (hst : (jl g).stackTraces = false)   {a0 : Nat} {x1 : Int32} {z : Nat} {h : AH} {o : Int32 × Nat × AH} (hf : fX9_here  a0 x1 z h = some o) : J g MX9_here (jN g (some (.int o.1), o.2.1, o.2.2) rmX9_here.cells rmX9_here.slots) 0 [some (.ref a0), some (.int x1)] [] z h 0 0 := by
  unfold fX9_here at hf
  refine J_iload_n dX9_here_0 rfl rfl ?_
  refine J_aload_n dX9_here_1 rfl rfl ?_
  obtain ⟨k1, hf⟩ := gds hf
  refine G_9_5 dX9_here_2 tk_924 k1 ?_
  rcases br hf with ⟨c2, hf⟩ | ⟨c2, hf⟩
  · refine J_icmp_ge (tgt := 17) dX9_here_5 (by decide) (fun _ => ?_) (fun w => absurd c2 w)
    refine J_iconst (v := (-1)) dX9_here_17 (by decide) ?_
    cases hf
    exact J_iretN dX9_here_18 rfl (by decide) (by decide)
  · refine J_icmp_ge (tgt := 17) dX9_here_5 (by decide) (fun w => absurd w c2) (fun _ => ?_)
    refine J_aload_n dX9_here_8 rfl rfl ?_
    obtain ⟨b3, rb3, hf⟩ := rfs hf
    refine G_9_4 dX9_here_9 tk_923 k1 rb3 ?_
    refine J_iload_n dX9_here_12 rfl rfl ?_
    obtain ⟨k4, hf⟩ := gds hf
    obtain ⟨n5, hf⟩ := gds hf
    refine J_baload dX9_here_13 k4 n5 ?_
    refine J_goto (tgt := 18) dX9_here_14 (by decide) ?_
    cases hf
    exact J_iretN dX9_here_18 rfl (by decide) (by decide)
theorem mX9_here {g : JG} (hst : (jl g).stackTraces = false) {a0 : Nat} {x1 : Int32} {z : Nat} {h : AH} {o : Int32 × Nat × AH} (hf : fX9_here a0 x1 z h = some o) : jMet g yX9_here (wj yX9_here cX9_here 2 (some .int)) rmX9_here [.ref a0, .int x1] z h (some (.int o.1), o.2.1, o.2.2) :=
  jMet_mk (by decide) (Nat.le_of_ble_eq_true rfl) [some (.ref a0), some (.int x1)] rfl (wfX9_here hst hf)
def fX9_arguments  (x0 : Int32) (z : Nat) (h : AH) : Option (Int32 × Nat × AH) :=
  (if x0 = 97 then (some (1, z, h)) else (if x0 = 98 then (some (1, z, h)) else (if x0 = 99 then (some (0, z, h)) else (if x0 = 100 then (some (1, z, h)) else (if x0 = 101 then (some (0, z, h)) else (if x0 = 102 then (some (1, z, h)) else (if x0 = 103 then (some (0, z, h)) else (if x0 = 104 then (some (0, z, h)) else (if x0 = 105 then (some (0, z, h)) else (if x0 = 106 then (some (0, z, h)) else (if x0 = 107 then (some (0, z, h)) else (if x0 = 108 then (some (2, z, h)) else (if x0 = 109 then (some (0, z, h)) else (if x0 = 110 then (some (0, z, h)) else (if x0 = 111 then (some (0, z, h)) else (if x0 = 112 then (some (1, z, h)) else (if x0 = 113 then (some (2, z, h)) else (if x0 = 114 then (some (0, z, h)) else (if x0 = 115 then (some (0, z, h)) else (if x0 = 116 then (some (1, z, h)) else (some (0, z, h))))))))))))))))))))))
theorem wfX9_arguments {g : JG} (hst : (jl g).stackTraces = false)   {x0 : Int32} {z : Nat} {h : AH} {o : Int32 × Nat × AH} (hf : fX9_arguments  x0 z h = some o) : J g MX9_arguments (jN g (some (.int o.1), o.2.1, o.2.2) rmX9_arguments.cells rmX9_arguments.slots) 0 [some (.int x0)] [] z h 0 0 := by
  unfold fX9_arguments at hf
  refine J_iload_n dX9_arguments_0 rfl rfl ?_
  rcases br hf with ⟨c1, hf⟩ | ⟨c1, hf⟩
  · refine J_tableC (off := 97) (tgt := 98) c1 dX9_arguments_1 (by decide) (by decide) (by decide) (by decide) ?_
    refine J_iconst (v := 1) dX9_arguments_98 (by decide) ?_
    cases hf
    exact J_iretN dX9_arguments_99 rfl (by decide) (by decide)
  · skip
    rcases br hf with ⟨c2, hf⟩ | ⟨c2, hf⟩
    · refine J_tableC (off := 97) (tgt := 98) c2 dX9_arguments_1 (by decide) (by decide) (by decide) (by decide) ?_
      refine J_iconst (v := 1) dX9_arguments_98 (by decide) ?_
      cases hf
      exact J_iretN dX9_arguments_99 rfl (by decide) (by decide)
    · skip
      rcases br hf with ⟨c3, hf⟩ | ⟨c3, hf⟩
      · refine J_tableC (off := 99) (tgt := 100) c3 dX9_arguments_1 (by decide) (by decide) (by decide) (by decide) ?_
        refine J_iconst (v := 0) dX9_arguments_100 (by decide) ?_
        cases hf
        exact J_iretN dX9_arguments_101 rfl (by decide) (by decide)
      · skip
        rcases br hf with ⟨c4, hf⟩ | ⟨c4, hf⟩
        · refine J_tableC (off := 97) (tgt := 98) c4 dX9_arguments_1 (by decide) (by decide) (by decide) (by decide) ?_
          refine J_iconst (v := 1) dX9_arguments_98 (by decide) ?_
          cases hf
          exact J_iretN dX9_arguments_99 rfl (by decide) (by decide)
        · skip
          rcases br hf with ⟨c5, hf⟩ | ⟨c5, hf⟩
          · refine J_tableC (off := 99) (tgt := 100) c5 dX9_arguments_1 (by decide) (by decide) (by decide) (by decide) ?_
            refine J_iconst (v := 0) dX9_arguments_100 (by decide) ?_
            cases hf
            exact J_iretN dX9_arguments_101 rfl (by decide) (by decide)
          · skip
            rcases br hf with ⟨c6, hf⟩ | ⟨c6, hf⟩
            · refine J_tableC (off := 97) (tgt := 98) c6 dX9_arguments_1 (by decide) (by decide) (by decide) (by decide) ?_
              refine J_iconst (v := 1) dX9_arguments_98 (by decide) ?_
              cases hf
              exact J_iretN dX9_arguments_99 rfl (by decide) (by decide)
            · skip
              rcases br hf with ⟨c7, hf⟩ | ⟨c7, hf⟩
              · refine J_tableC (off := 99) (tgt := 100) c7 dX9_arguments_1 (by decide) (by decide) (by decide) (by decide) ?_
                refine J_iconst (v := 0) dX9_arguments_100 (by decide) ?_
                cases hf
                exact J_iretN dX9_arguments_101 rfl (by decide) (by decide)
              · skip
                rcases br hf with ⟨c8, hf⟩ | ⟨c8, hf⟩
                · refine J_tableC (off := 99) (tgt := 100) c8 dX9_arguments_1 (by decide) (by decide) (by decide) (by decide) ?_
                  refine J_iconst (v := 0) dX9_arguments_100 (by decide) ?_
                  cases hf
                  exact J_iretN dX9_arguments_101 rfl (by decide) (by decide)
                · skip
                  rcases br hf with ⟨c9, hf⟩ | ⟨c9, hf⟩
                  · refine J_tableC (off := 99) (tgt := 100) c9 dX9_arguments_1 (by decide) (by decide) (by decide) (by decide) ?_
                    refine J_iconst (v := 0) dX9_arguments_100 (by decide) ?_
                    cases hf
                    exact J_iretN dX9_arguments_101 rfl (by decide) (by decide)
                  · skip
                    rcases br hf with ⟨c10, hf⟩ | ⟨c10, hf⟩
                    · refine J_tableC (off := 99) (tgt := 100) c10 dX9_arguments_1 (by decide) (by decide) (by decide) (by decide) ?_
                      refine J_iconst (v := 0) dX9_arguments_100 (by decide) ?_
                      cases hf
                      exact J_iretN dX9_arguments_101 rfl (by decide) (by decide)
                    · skip
                      rcases br hf with ⟨c11, hf⟩ | ⟨c11, hf⟩
                      · refine J_tableC (off := 99) (tgt := 100) c11 dX9_arguments_1 (by decide) (by decide) (by decide) (by decide) ?_
                        refine J_iconst (v := 0) dX9_arguments_100 (by decide) ?_
                        cases hf
                        exact J_iretN dX9_arguments_101 rfl (by decide) (by decide)
                      · skip
                        rcases br hf with ⟨c12, hf⟩ | ⟨c12, hf⟩
                        · refine J_tableC (off := 95) (tgt := 96) c12 dX9_arguments_1 (by decide) (by decide) (by decide) (by decide) ?_
                          refine J_iconst (v := 2) dX9_arguments_96 (by decide) ?_
                          cases hf
                          exact J_iretN dX9_arguments_97 rfl (by decide) (by decide)
                        · skip
                          rcases br hf with ⟨c13, hf⟩ | ⟨c13, hf⟩
                          · refine J_tableC (off := 99) (tgt := 100) c13 dX9_arguments_1 (by decide) (by decide) (by decide) (by decide) ?_
                            refine J_iconst (v := 0) dX9_arguments_100 (by decide) ?_
                            cases hf
                            exact J_iretN dX9_arguments_101 rfl (by decide) (by decide)
                          · skip
                            rcases br hf with ⟨c14, hf⟩ | ⟨c14, hf⟩
                            · refine J_tableC (off := 99) (tgt := 100) c14 dX9_arguments_1 (by decide) (by decide) (by decide) (by decide) ?_
                              refine J_iconst (v := 0) dX9_arguments_100 (by decide) ?_
                              cases hf
                              exact J_iretN dX9_arguments_101 rfl (by decide) (by decide)
                            · skip
                              rcases br hf with ⟨c15, hf⟩ | ⟨c15, hf⟩
                              · refine J_tableC (off := 99) (tgt := 100) c15 dX9_arguments_1 (by decide) (by decide) (by decide) (by decide) ?_
                                refine J_iconst (v := 0) dX9_arguments_100 (by decide) ?_
                                cases hf
                                exact J_iretN dX9_arguments_101 rfl (by decide) (by decide)
                              · skip
                                rcases br hf with ⟨c16, hf⟩ | ⟨c16, hf⟩
                                · refine J_tableC (off := 97) (tgt := 98) c16 dX9_arguments_1 (by decide) (by decide) (by decide) (by decide) ?_
                                  refine J_iconst (v := 1) dX9_arguments_98 (by decide) ?_
                                  cases hf
                                  exact J_iretN dX9_arguments_99 rfl (by decide) (by decide)
                                · skip
                                  rcases br hf with ⟨c17, hf⟩ | ⟨c17, hf⟩
                                  · refine J_tableC (off := 95) (tgt := 96) c17 dX9_arguments_1 (by decide) (by decide) (by decide) (by decide) ?_
                                    refine J_iconst (v := 2) dX9_arguments_96 (by decide) ?_
                                    cases hf
                                    exact J_iretN dX9_arguments_97 rfl (by decide) (by decide)
                                  · skip
                                    rcases br hf with ⟨c18, hf⟩ | ⟨c18, hf⟩
                                    · refine J_tableC (off := 99) (tgt := 100) c18 dX9_arguments_1 (by decide) (by decide) (by decide) (by decide) ?_
                                      refine J_iconst (v := 0) dX9_arguments_100 (by decide) ?_
                                      cases hf
                                      exact J_iretN dX9_arguments_101 rfl (by decide) (by decide)
                                    · skip
                                      rcases br hf with ⟨c19, hf⟩ | ⟨c19, hf⟩
                                      · refine J_tableC (off := 99) (tgt := 100) c19 dX9_arguments_1 (by decide) (by decide) (by decide) (by decide) ?_
                                        refine J_iconst (v := 0) dX9_arguments_100 (by decide) ?_
                                        cases hf
                                        exact J_iretN dX9_arguments_101 rfl (by decide) (by decide)
                                      · skip
                                        rcases br hf with ⟨c20, hf⟩ | ⟨c20, hf⟩
                                        · refine J_tableC (off := 97) (tgt := 98) c20 dX9_arguments_1 (by decide) (by decide) (by decide) (by decide) ?_
                                          refine J_iconst (v := 1) dX9_arguments_98 (by decide) ?_
                                          cases hf
                                          exact J_iretN dX9_arguments_99 rfl (by decide) (by decide)
                                        · skip
                                          have tc1 := tn (i := 97) c1 (by decide)
                                          have tc2 := tn (i := 98) c2 (by decide)
                                          have tc3 := tn (i := 99) c3 (by decide)
                                          have tc4 := tn (i := 100) c4 (by decide)
                                          have tc5 := tn (i := 101) c5 (by decide)
                                          have tc6 := tn (i := 102) c6 (by decide)
                                          have tc7 := tn (i := 103) c7 (by decide)
                                          have tc8 := tn (i := 104) c8 (by decide)
                                          have tc9 := tn (i := 105) c9 (by decide)
                                          have tc10 := tn (i := 106) c10 (by decide)
                                          have tc11 := tn (i := 107) c11 (by decide)
                                          have tc12 := tn (i := 108) c12 (by decide)
                                          have tc13 := tn (i := 109) c13 (by decide)
                                          have tc14 := tn (i := 110) c14 (by decide)
                                          have tc15 := tn (i := 111) c15 (by decide)
                                          have tc16 := tn (i := 112) c16 (by decide)
                                          have tc17 := tn (i := 113) c17 (by decide)
                                          have tc18 := tn (i := 114) c18 (by decide)
                                          have tc19 := tn (i := 115) c19 (by decide)
                                          have tc20 := tn (i := 116) c20 (by decide)
                                          refine J_tableOut (tgt := 100) dX9_arguments_1 (by omega) (by decide) ?_
                                          refine J_iconst (v := 0) dX9_arguments_100 (by decide) ?_
                                          cases hf
                                          exact J_iretN dX9_arguments_101 rfl (by decide) (by decide)
theorem mX9_arguments {g : JG} (hst : (jl g).stackTraces = false) {x0 : Int32} {z : Nat} {h : AH} {o : Int32 × Nat × AH} (hf : fX9_arguments x0 z h = some o) : jMet g yX9_arguments (wj yX9_arguments cX9_arguments 1 (some .int)) rmX9_arguments [.int x0] z h (some (.int o.1), o.2.1, o.2.2) :=
  jMet_mk (by decide) (Nat.le_of_ble_eq_true rfl) [some (.int x0)] rfl (wfX9_arguments hst hf)
def bX9_readsNumber_74  (a0 : Nat) (x1 : Int32) (z : Nat) (h : AH) : Option (Int32 × Nat × AH) :=
  gd (kd h a0 = 10) ((if (iv h a0 16) ≤ x1 then (some (0, z, h)) else (some (1, z, h))))
def lX9_readsNumber_10B  (q10 : Nat → Int32 → Nat → AH → Option (Int32 × Nat × AH)) (a0 : Nat) (x1 : Int32) (z : Nat) (h : AH) : Option (Int32 × Nat × AH) :=
  gd (kd h a0 = 10) ((if (x1 + 2) ≤ (iv h a0 16) then (bX9_readsNumber_74  a0 x1 z h) else (bd3 (fX9_here a0 (iv h a0 16) z h) (fun vo3 zo3 ho3h => bd3 (fX9_in vo3 48 57 zo3 ho3h) (fun vo4 zo4 ho4h => (if vo4 = 0 then (bX9_readsNumber_74  a0 x1 zo4 ho4h) else (gd (kd ho4h a0 = 10) (bd3 (fX9_here a0 (iv ho4h a0 16) zo4 ho4h) (fun vo7 zo7 ho7h => gd (kd ho7h a0 = 10) (bl (wI ho7h a0 17 (((10 * (iv ho4h a0 17)) + vo7) - 48)) (fun h9 => bl (wI h9 a0 16 ((iv h9 a0 16) + 1)) (fun h11 => q10 a0 x1 zo7 h11))))))))))))
def lX9_readsNumber_10  : Nat → Nat → Int32 → Nat → AH → Option (Int32 × Nat × AH)
  | 0 => fun _ _ _ _ => none
  | fuel + 1 => lX9_readsNumber_10B  (lX9_readsNumber_10  fuel)
def fX9_readsNumber  (a0 : Nat) (z : Nat) (h : AH) : Option (Int32 × Nat × AH) :=
  gd (kd h a0 = 10) (bl (wI h a0 17 0) (fun h2 => bl ((iv h2 a0 16)) (fun v4 => lX9_readsNumber_10  fu a0 v4 z h2)))
theorem wbX9_readsNumber_74 {g : JG} (hst : (jl g).stackTraces = false)   {a0 : Nat} {x1 : Int32} {z : Nat} {h : AH} {o : Int32 × Nat × AH} (hf : bX9_readsNumber_74  a0 x1 z h = some o) : J g MX9_readsNumber (jN g (some (.int o.1), o.2.1, o.2.2) rmX9_readsNumber.cells rmX9_readsNumber.slots) 74 [some (.ref a0), some (.int x1)] [] z h 0 0 := by
  unfold bX9_readsNumber_74 at hf
  refine J_aload_n dX9_readsNumber_74 rfl rfl ?_
  obtain ⟨k1, hf⟩ := gds hf
  refine G_9_16 dX9_readsNumber_75 tk_935 k1 ?_
  refine J_iload_n dX9_readsNumber_78 rfl rfl ?_
  rcases br hf with ⟨c2, hf⟩ | ⟨c2, hf⟩
  · refine J_icmp_le (tgt := 86) dX9_readsNumber_79 (by decide) (fun _ => ?_) (fun w => absurd c2 w)
    refine J_iconst (v := 0) dX9_readsNumber_86 (by decide) ?_
    cases hf
    exact J_zretN dX9_readsNumber_87 rfl (Or.inl rfl) (by decide) (by decide)
  · refine J_icmp_le (tgt := 86) dX9_readsNumber_79 (by decide) (fun w => absurd w c2) (fun _ => ?_)
    refine J_iconst (v := 1) dX9_readsNumber_82 (by decide) ?_
    refine J_goto (tgt := 87) dX9_readsNumber_83 (by decide) ?_
    cases hf
    exact J_zretN dX9_readsNumber_87 rfl (Or.inr rfl) (by decide) (by decide)
theorem wlX9_readsNumber_10 {g : JG} (hst : (jl g).stackTraces = false)   : ∀ (fuel : Nat) (a0 : Nat) (x1 : Int32) (z : Nat) (h : AH) (o : Int32 × Nat × AH), lX9_readsNumber_10  fuel a0 x1 z h = some o → J g MX9_readsNumber (jN g (some (.int o.1), o.2.1, o.2.2) rmX9_readsNumber.cells rmX9_readsNumber.slots) 10 [some (.ref a0), some (.int x1)] [] z h 0 0 := by
  intro fuel
  induction fuel with
  | zero => intro a0 x1 z h o hf; cases hf
  | succ fuel ih =>
    intro a0 x1 z h o hf
    have hq10 := ih
    have hf : lX9_readsNumber_10B  (lX9_readsNumber_10  fuel) a0 x1 z h = some o := hf
    generalize lX9_readsNumber_10  fuel = q10 at hf hq10
    unfold lX9_readsNumber_10B at hf
    refine J_aload_n dX9_readsNumber_10 rfl rfl ?_
    obtain ⟨k1, hf⟩ := gds hf
    refine G_9_16 dX9_readsNumber_11 tk_935 k1 ?_
    refine J_iload_n dX9_readsNumber_14 rfl rfl ?_
    refine J_iconst (v := 2) dX9_readsNumber_15 (by decide) ?_
    refine J_iadd dX9_readsNumber_16 ?_
    rcases br hf with ⟨c2, hf⟩ | ⟨c2, hf⟩
    · refine J_icmp_ge (tgt := 74) dX9_readsNumber_17 (by decide) (fun _ => ?_) (fun w => absurd c2 w)
      refine J.sub (jsub_s (jsub_s (jsub_nil _))) ?_
      exact wbX9_readsNumber_74 hst   hf
    · refine J_icmp_ge (tgt := 74) dX9_readsNumber_17 (by decide) (fun w => absurd w c2) (fun _ => ?_)
      refine J_aload_n dX9_readsNumber_20 rfl rfl ?_
      refine J_aload_n dX9_readsNumber_21 rfl rfl ?_
      refine G_9_16 dX9_readsNumber_22 tk_935 k1 ?_
      obtain ⟨vo3, zo3, ho3h, ho3, hf⟩ := rfs3 hf
      refine CV1i dX9_readsNumber_25 (mX9_here hst ho3) tk_1318 iX9_here k1 (by decide) rfl ⟨by decide, by decide⟩ ⟨by decide, by decide⟩ (Nat.le_of_ble_eq_true rfl) ?_
      refine J_bipush (v := 48) dX9_readsNumber_28 (by decide) ?_
      refine J_bipush (v := 57) dX9_readsNumber_30 (by decide) ?_
      obtain ⟨vo4, zo4, ho4h, ho4, hf⟩ := rfs3 hf
      refine CS3i (host := "") dX9_readsNumber_32 (mX9_in hst ho4) tk_996 iX9_in ⟨by decide, by decide⟩ ⟨by decide, by decide⟩ (Nat.le_of_ble_eq_true rfl) ?_
      rcases br hf with ⟨c5, hf⟩ | ⟨c5, hf⟩
      · refine J_if_eq (tgt := 74) dX9_readsNumber_35 (by decide) (fun _ => ?_) (fun w => absurd c5 w)
        refine J.sub (jsub_s (jsub_s (jsub_nil _))) ?_
        exact wbX9_readsNumber_74 hst   hf
      · refine J_if_eq (tgt := 74) dX9_readsNumber_35 (by decide) (fun w => absurd w c5) (fun _ => ?_)
        refine J_aload_n dX9_readsNumber_38 rfl rfl ?_
        refine J_bipush (v := 10) dX9_readsNumber_39 (by decide) ?_
        refine J_aload_n dX9_readsNumber_41 rfl rfl ?_
        obtain ⟨k6, hf⟩ := gds hf
        refine G_9_17 dX9_readsNumber_42 tk_936 k6 ?_
        refine J_imul dX9_readsNumber_45 ?_
        refine J_aload_n dX9_readsNumber_46 rfl rfl ?_
        refine J_aload_n dX9_readsNumber_47 rfl rfl ?_
        refine G_9_16 dX9_readsNumber_48 tk_935 k6 ?_
        obtain ⟨vo7, zo7, ho7h, ho7, hf⟩ := rfs3 hf
        refine CV1i dX9_readsNumber_51 (mX9_here hst ho7) tk_1318 iX9_here k6 (by decide) rfl ⟨by decide, by decide⟩ ⟨by decide, by decide⟩ (Nat.le_of_ble_eq_true rfl) ?_
        refine J_iadd dX9_readsNumber_54 ?_
        refine J_bipush (v := 48) dX9_readsNumber_55 (by decide) ?_
        refine J_isub dX9_readsNumber_57 ?_
        obtain ⟨k8, hf⟩ := gds hf
        refine P_9_17 dX9_readsNumber_58 tk_936 k8 ?_
        obtain ⟨h9, eh9, hf⟩ := bls hf
        refine J_h eh9 ?_
        refine J_aload_n dX9_readsNumber_61 rfl rfl ?_
        refine J_dup dX9_readsNumber_62 rfl ?_
        have k10 : kd h9 a0 = 10 := by rw [eh9]; exact k8
        refine G_9_16 dX9_readsNumber_63 tk_935 k10 ?_
        refine J_iconst (v := 1) dX9_readsNumber_66 (by decide) ?_
        refine J_iadd dX9_readsNumber_67 ?_
        refine P_9_16 dX9_readsNumber_68 tk_935 k10 ?_
        obtain ⟨h11, eh11, hf⟩ := bls hf
        refine J_h eh11 ?_
        refine J_goto (tgt := 10) dX9_readsNumber_71 (by decide) ?_
        refine J.sub (jsub_s (jsub_s (jsub_nil _))) ?_
        exact hq10 _ _ _ _ _ hf
theorem wfX9_readsNumber {g : JG} (hst : (jl g).stackTraces = false)   {a0 : Nat} {z : Nat} {h : AH} {o : Int32 × Nat × AH} (hf : fX9_readsNumber  a0 z h = some o) : J g MX9_readsNumber (jN g (some (.int o.1), o.2.1, o.2.2) rmX9_readsNumber.cells rmX9_readsNumber.slots) 0 [some (.ref a0), none] [] z h 0 0 := by
  unfold fX9_readsNumber at hf
  refine J_aload_n dX9_readsNumber_0 rfl rfl ?_
  refine J_iconst (v := 0) dX9_readsNumber_1 (by decide) ?_
  obtain ⟨k1, hf⟩ := gds hf
  refine P_9_17 dX9_readsNumber_2 tk_936 k1 ?_
  obtain ⟨h2, eh2, hf⟩ := bls hf
  refine J_h eh2 ?_
  refine J_aload_n dX9_readsNumber_5 rfl rfl ?_
  have k3 : kd h2 a0 = 10 := by rw [eh2]; exact k1
  refine G_9_16 dX9_readsNumber_6 tk_935 k3 ?_
  obtain ⟨v4, ev4, hf⟩ := bls hf
  refine J_i ev4 ?_
  refine S_istore_n_1 dX9_readsNumber_9 rfl (by decide) ?_
  refine J.sub (jsub_s (jsub_s (jsub_nil _))) ?_
  exact wlX9_readsNumber_10 hst   _ _ _ _ _ _ hf
theorem mX9_readsNumber {g : JG} (hst : (jl g).stackTraces = false) {a0 : Nat} {z : Nat} {h : AH} {o : Int32 × Nat × AH} (hf : fX9_readsNumber a0 z h = some o) : jMet g yX9_readsNumber (wj yX9_readsNumber cX9_readsNumber 2 (some .boolean)) rmX9_readsNumber [.ref a0] z h (some (.int o.1), o.2.1, o.2.2) :=
  jMet_mk (by decide) (Nat.le_of_ble_eq_true rfl) [some (.ref a0), none] rfl (wfX9_readsNumber hst hf)
def bX9_readsCommand_79  (a0 : Nat) (z : Nat) (h : AH) : Option (Int32 × Nat × AH) :=
  gd (kd h a0 = 10) (bd3 (fX9_here a0 (iv h a0 16) z h) (fun vo2 zo2 ho2h => (if vo2 = 59 then (gd (kd ho2h a0 = 10) (bl (wI ho2h a0 16 ((iv ho2h a0 16) + 1)) (fun h5 => some (1, zo2, h5)))) else (some (0, zo2, ho2h)))))
def fX9_readsCommand  (a0 : Nat) (x1 : Int32) (z : Nat) (h : AH) : Option (Int32 × Nat × AH) :=
  gd (kd h a0 = 10) (bl (wI h a0 16 ((iv h a0 16) + 1)) (fun h2 => bd3 (fX9_readsNumber a0 z h2) (fun vo4 zo4 ho4h => (if vo4 = 0 then (some (0, zo4, ho4h)) else (gd (kd ho4h a0 = 10) (bl ((iv ho4h a0 17)) (fun v7 => bd3 (fX9_arguments x1 zo4 ho4h) (fun vo8 zo8 ho8h => (if vo8 = 2 then (gd (kd ho8h a0 = 10) (bd3 (fX9_here a0 (iv ho8h a0 16) zo8 ho8h) (fun vo11 zo11 ho11h => (if vo11 = 44 then (gd (kd ho11h a0 = 10) (bl (wI ho11h a0 16 ((iv ho11h a0 16) + 1)) (fun h14 => bd3 (fX9_readsNumber a0 zo11 h14) (fun vo16 zo16 ho16h => (if vo16 = 0 then (some (0, zo16, ho16h)) else (gd (kd ho16h a0 = 10) (bl (wI ho16h a0 18 (iv ho16h a0 17)) (fun h19 => bl (wI h19 a0 17 v7) (fun h21 => bX9_readsCommand_79  a0 zo16 h21))))))))) else (some (0, zo11, ho11h)))))) else (bX9_readsCommand_79  a0 zo8 ho8h))))))))))
theorem wbX9_readsCommand_79 {g : JG} (hst : (jl g).stackTraces = false)   {a0 : Nat} {z : Nat} {h : AH} {o : Int32 × Nat × AH} (hf : bX9_readsCommand_79  a0 z h = some o) : J g MX9_readsCommand (jN g (some (.int o.1), o.2.1, o.2.2) rmX9_readsCommand.cells rmX9_readsCommand.slots) 79 [some (.ref a0), none, none] [] z h 0 0 := by
  unfold bX9_readsCommand_79 at hf
  refine J_aload_n dX9_readsCommand_79 rfl rfl ?_
  refine J_aload_n dX9_readsCommand_80 rfl rfl ?_
  obtain ⟨k1, hf⟩ := gds hf
  refine G_9_16 dX9_readsCommand_81 tk_935 k1 ?_
  obtain ⟨vo2, zo2, ho2h, ho2, hf⟩ := rfs3 hf
  refine CV1i dX9_readsCommand_84 (mX9_here hst ho2) tk_1318 iX9_here k1 (by decide) rfl ⟨by decide, by decide⟩ ⟨by decide, by decide⟩ (Nat.le_of_ble_eq_true rfl) ?_
  refine J_bipush (v := 59) dX9_readsCommand_87 (by decide) ?_
  rcases br hf with ⟨c3, hf⟩ | ⟨c3, hf⟩
  · refine J_icmp_eq (tgt := 94) dX9_readsCommand_89 (by decide) (fun _ => ?_) (fun w => absurd c3 w)
    refine J_aload_n dX9_readsCommand_94 rfl rfl ?_
    refine J_dup dX9_readsCommand_95 rfl ?_
    obtain ⟨k4, hf⟩ := gds hf
    refine G_9_16 dX9_readsCommand_96 tk_935 k4 ?_
    refine J_iconst (v := 1) dX9_readsCommand_99 (by decide) ?_
    refine J_iadd dX9_readsCommand_100 ?_
    refine P_9_16 dX9_readsCommand_101 tk_935 k4 ?_
    obtain ⟨h5, eh5, hf⟩ := bls hf
    refine J_h eh5 ?_
    refine J_iconst (v := 1) dX9_readsCommand_104 (by decide) ?_
    cases hf
    exact J_zretN dX9_readsCommand_105 rfl (Or.inr rfl) (by decide) (by decide)
  · refine J_icmp_eq (tgt := 94) dX9_readsCommand_89 (by decide) (fun w => absurd w c3) (fun _ => ?_)
    refine J_iconst (v := 0) dX9_readsCommand_92 (by decide) ?_
    cases hf
    exact J_zretN dX9_readsCommand_93 rfl (Or.inl rfl) (by decide) (by decide)
theorem wfX9_readsCommand {g : JG} (hst : (jl g).stackTraces = false)   {a0 : Nat} {x1 : Int32} {z : Nat} {h : AH} {o : Int32 × Nat × AH} (hf : fX9_readsCommand  a0 x1 z h = some o) : J g MX9_readsCommand (jN g (some (.int o.1), o.2.1, o.2.2) rmX9_readsCommand.cells rmX9_readsCommand.slots) 0 [some (.ref a0), some (.int x1), none] [] z h 0 0 := by
  unfold fX9_readsCommand at hf
  refine J_aload_n dX9_readsCommand_0 rfl rfl ?_
  refine J_dup dX9_readsCommand_1 rfl ?_
  obtain ⟨k1, hf⟩ := gds hf
  refine G_9_16 dX9_readsCommand_2 tk_935 k1 ?_
  refine J_iconst (v := 1) dX9_readsCommand_5 (by decide) ?_
  refine J_iadd dX9_readsCommand_6 ?_
  refine P_9_16 dX9_readsCommand_7 tk_935 k1 ?_
  obtain ⟨h2, eh2, hf⟩ := bls hf
  refine J_h eh2 ?_
  refine J_aload_n dX9_readsCommand_10 rfl rfl ?_
  have k3 : kd h2 a0 = 10 := by rw [eh2]; exact k1
  obtain ⟨vo4, zo4, ho4h, ho4, hf⟩ := rfs3 hf
  refine CV0i dX9_readsCommand_11 (mX9_readsNumber hst ho4) tk_1329 iX9_readsNumber k3 (by decide) rfl ⟨by decide, by decide⟩ ⟨by decide, by decide⟩ (Nat.le_of_ble_eq_true rfl) ?_
  rcases br hf with ⟨c5, hf⟩ | ⟨c5, hf⟩
  · refine J_if_ne (tgt := 19) dX9_readsCommand_14 (by decide) (fun w => absurd c5 w) (fun _ => ?_)
    refine J_iconst (v := 0) dX9_readsCommand_17 (by decide) ?_
    cases hf
    exact J_zretN dX9_readsCommand_18 rfl (Or.inl rfl) (by decide) (by decide)
  · refine J_if_ne (tgt := 19) dX9_readsCommand_14 (by decide) (fun _ => ?_) (fun w => absurd w c5)
    refine J_aload_n dX9_readsCommand_19 rfl rfl ?_
    obtain ⟨k6, hf⟩ := gds hf
    refine G_9_17 dX9_readsCommand_20 tk_936 k6 ?_
    obtain ⟨v7, ev7, hf⟩ := bls hf
    refine J_i ev7 ?_
    refine S_istore_n_2 dX9_readsCommand_23 rfl (by decide) ?_
    refine J_iload_n dX9_readsCommand_24 rfl rfl ?_
    obtain ⟨vo8, zo8, ho8h, ho8, hf⟩ := rfs3 hf
    refine CS1i (host := "") dX9_readsCommand_25 (mX9_arguments hst ho8) tk_1322 iX9_arguments ⟨by decide, by decide⟩ ⟨by decide, by decide⟩ (Nat.le_of_ble_eq_true rfl) ?_
    refine J_iconst (v := 2) dX9_readsCommand_28 (by decide) ?_
    rcases br hf with ⟨c9, hf⟩ | ⟨c9, hf⟩
    · refine J_icmp_ne (tgt := 79) dX9_readsCommand_29 (by decide) (fun w => absurd c9 w) (fun _ => ?_)
      refine J_aload_n dX9_readsCommand_32 rfl rfl ?_
      refine J_aload_n dX9_readsCommand_33 rfl rfl ?_
      obtain ⟨k10, hf⟩ := gds hf
      refine G_9_16 dX9_readsCommand_34 tk_935 k10 ?_
      obtain ⟨vo11, zo11, ho11h, ho11, hf⟩ := rfs3 hf
      refine CV1i dX9_readsCommand_37 (mX9_here hst ho11) tk_1318 iX9_here k10 (by decide) rfl ⟨by decide, by decide⟩ ⟨by decide, by decide⟩ (Nat.le_of_ble_eq_true rfl) ?_
      refine J_bipush (v := 44) dX9_readsCommand_40 (by decide) ?_
      rcases br hf with ⟨c12, hf⟩ | ⟨c12, hf⟩
      · refine J_icmp_eq (tgt := 47) dX9_readsCommand_42 (by decide) (fun _ => ?_) (fun w => absurd c12 w)
        refine J_aload_n dX9_readsCommand_47 rfl rfl ?_
        refine J_dup dX9_readsCommand_48 rfl ?_
        obtain ⟨k13, hf⟩ := gds hf
        refine G_9_16 dX9_readsCommand_49 tk_935 k13 ?_
        refine J_iconst (v := 1) dX9_readsCommand_52 (by decide) ?_
        refine J_iadd dX9_readsCommand_53 ?_
        refine P_9_16 dX9_readsCommand_54 tk_935 k13 ?_
        obtain ⟨h14, eh14, hf⟩ := bls hf
        refine J_h eh14 ?_
        refine J_aload_n dX9_readsCommand_57 rfl rfl ?_
        have k15 : kd h14 a0 = 10 := by rw [eh14]; exact k13
        obtain ⟨vo16, zo16, ho16h, ho16, hf⟩ := rfs3 hf
        refine CV0i dX9_readsCommand_58 (mX9_readsNumber hst ho16) tk_1329 iX9_readsNumber k15 (by decide) rfl ⟨by decide, by decide⟩ ⟨by decide, by decide⟩ (Nat.le_of_ble_eq_true rfl) ?_
        rcases br hf with ⟨c17, hf⟩ | ⟨c17, hf⟩
        · refine J_if_ne (tgt := 66) dX9_readsCommand_61 (by decide) (fun w => absurd c17 w) (fun _ => ?_)
          refine J_iconst (v := 0) dX9_readsCommand_64 (by decide) ?_
          cases hf
          exact J_zretN dX9_readsCommand_65 rfl (Or.inl rfl) (by decide) (by decide)
        · refine J_if_ne (tgt := 66) dX9_readsCommand_61 (by decide) (fun _ => ?_) (fun w => absurd w c17)
          refine J_aload_n dX9_readsCommand_66 rfl rfl ?_
          refine J_aload_n dX9_readsCommand_67 rfl rfl ?_
          obtain ⟨k18, hf⟩ := gds hf
          refine G_9_17 dX9_readsCommand_68 tk_936 k18 ?_
          refine P_9_18 dX9_readsCommand_71 tk_937 k18 ?_
          obtain ⟨h19, eh19, hf⟩ := bls hf
          refine J_h eh19 ?_
          refine J_aload_n dX9_readsCommand_74 rfl rfl ?_
          refine J_iload_n dX9_readsCommand_75 rfl rfl ?_
          have k20 : kd h19 a0 = 10 := by rw [eh19]; exact k18
          refine P_9_17 dX9_readsCommand_76 tk_936 k20 ?_
          obtain ⟨h21, eh21, hf⟩ := bls hf
          refine J_h eh21 ?_
          refine J.sub (jsub_s (jsub_n (jsub_n (jsub_nil _)))) ?_
          exact wbX9_readsCommand_79 hst   hf
      · refine J_icmp_eq (tgt := 47) dX9_readsCommand_42 (by decide) (fun w => absurd w c12) (fun _ => ?_)
        refine J_iconst (v := 0) dX9_readsCommand_45 (by decide) ?_
        cases hf
        exact J_zretN dX9_readsCommand_46 rfl (Or.inl rfl) (by decide) (by decide)
    · refine J_icmp_ne (tgt := 79) dX9_readsCommand_29 (by decide) (fun _ => ?_) (fun w => absurd w c9)
      refine J.sub (jsub_s (jsub_n (jsub_n (jsub_nil _)))) ?_
      exact wbX9_readsCommand_79 hst   hf
theorem mX9_readsCommand {g : JG} (hst : (jl g).stackTraces = false) {a0 : Nat} {x1 : Int32} {z : Nat} {h : AH} {o : Int32 × Nat × AH} (hf : fX9_readsCommand a0 x1 z h = some o) : jMet g yX9_readsCommand (wj yX9_readsCommand cX9_readsCommand 3 (some .boolean)) rmX9_readsCommand [.ref a0, .int x1] z h (some (.int o.1), o.2.1, o.2.2) :=
  jMet_mk (by decide) (Nat.le_of_ble_eq_true rfl) [some (.ref a0), some (.int x1), none] rfl (wfX9_readsCommand hst hf)
def bX9_faultOf_40  (a0 : Nat) (z : Nat) (h : AH) : Option (Int32 × Nat × AH) :=
  gd (kd h a0 = 10) (some ((iv h a0 16), z, h))
def lX9_faultOf_5B  (q5 : Nat → Nat → AH → Option (Int32 × Nat × AH)) (a0 : Nat) (z : Nat) (h : AH) : Option (Int32 × Nat × AH) :=
  gd (kd h a0 = 10) ((if (iv h a0 5) ≤ (iv h a0 16) then (some ((-1), z, h)) else (bd3 (fX9_here a0 (iv h a0 16) z h) (fun vo3 zo3 ho3h => bd3 (fX9_arguments vo3 zo3 ho3h) (fun vo4 zo4 ho4h => (if vo4 = 0 then (bX9_faultOf_40  a0 zo4 ho4h) else (gd (kd ho4h a0 = 10) (bd3 (fX9_readsCommand a0 vo3 zo4 ho4h) (fun vo7 zo7 ho7h => (if vo7 = 0 then (bX9_faultOf_40  a0 zo7 ho7h) else (q5 a0 zo7 ho7h)))))))))))
def lX9_faultOf_5  : Nat → Nat → Nat → AH → Option (Int32 × Nat × AH)
  | 0 => fun _ _ _ => none
  | fuel + 1 => lX9_faultOf_5B  (lX9_faultOf_5  fuel)
def fX9_faultOf  (a0 : Nat) (z : Nat) (h : AH) : Option (Int32 × Nat × AH) :=
  gd (kd h a0 = 10) (bl (wI h a0 16 0) (fun h2 => lX9_faultOf_5  fu a0 z h2))
theorem wbX9_faultOf_40 {g : JG} (hst : (jl g).stackTraces = false)   {a0 : Nat} {z : Nat} {h : AH} {o : Int32 × Nat × AH} (hf : bX9_faultOf_40  a0 z h = some o) : J g MX9_faultOf (jN g (some (.int o.1), o.2.1, o.2.2) rmX9_faultOf.cells rmX9_faultOf.slots) 40 [some (.ref a0), none] [] z h 0 0 := by
  unfold bX9_faultOf_40 at hf
  refine J_aload_n dX9_faultOf_40 rfl rfl ?_
  obtain ⟨k1, hf⟩ := gds hf
  refine G_9_16 dX9_faultOf_41 tk_935 k1 ?_
  cases hf
  exact J_iretN dX9_faultOf_44 rfl (by decide) (by decide)
theorem wlX9_faultOf_5 {g : JG} (hst : (jl g).stackTraces = false)   : ∀ (fuel : Nat) (a0 : Nat) (z : Nat) (h : AH) (o : Int32 × Nat × AH), lX9_faultOf_5  fuel a0 z h = some o → J g MX9_faultOf (jN g (some (.int o.1), o.2.1, o.2.2) rmX9_faultOf.cells rmX9_faultOf.slots) 5 [some (.ref a0), none] [] z h 0 0 := by
  intro fuel
  induction fuel with
  | zero => intro a0 z h o hf; cases hf
  | succ fuel ih =>
    intro a0 z h o hf
    have hq5 := ih
    have hf : lX9_faultOf_5B  (lX9_faultOf_5  fuel) a0 z h = some o := hf
    generalize lX9_faultOf_5  fuel = q5 at hf hq5
    unfold lX9_faultOf_5B at hf
    refine J_aload_n dX9_faultOf_5 rfl rfl ?_
    obtain ⟨k1, hf⟩ := gds hf
    refine G_9_16 dX9_faultOf_6 tk_935 k1 ?_
    refine J_aload_n dX9_faultOf_9 rfl rfl ?_
    refine G_9_5 dX9_faultOf_10 tk_924 k1 ?_
    rcases br hf with ⟨c2, hf⟩ | ⟨c2, hf⟩
    · refine J_icmp_ge (tgt := 48) dX9_faultOf_13 (by decide) (fun _ => ?_) (fun w => absurd c2 w)
      refine J_iconst (v := (-1)) dX9_faultOf_48 (by decide) ?_
      cases hf
      exact J_iretN dX9_faultOf_49 rfl (by decide) (by decide)
    · refine J_icmp_ge (tgt := 48) dX9_faultOf_13 (by decide) (fun w => absurd w c2) (fun _ => ?_)
      refine J_aload_n dX9_faultOf_16 rfl rfl ?_
      refine J_aload_n dX9_faultOf_17 rfl rfl ?_
      refine G_9_16 dX9_faultOf_18 tk_935 k1 ?_
      obtain ⟨vo3, zo3, ho3h, ho3, hf⟩ := rfs3 hf
      refine CV1i dX9_faultOf_21 (mX9_here hst ho3) tk_1318 iX9_here k1 (by decide) rfl ⟨by decide, by decide⟩ ⟨by decide, by decide⟩ (Nat.le_of_ble_eq_true rfl) ?_
      refine S_istore_n_1 dX9_faultOf_24 rfl (by decide) ?_
      refine J_iload_n dX9_faultOf_25 rfl rfl ?_
      obtain ⟨vo4, zo4, ho4h, ho4, hf⟩ := rfs3 hf
      refine CS1i (host := "") dX9_faultOf_26 (mX9_arguments hst ho4) tk_1322 iX9_arguments ⟨by decide, by decide⟩ ⟨by decide, by decide⟩ (Nat.le_of_ble_eq_true rfl) ?_
      rcases br hf with ⟨c5, hf⟩ | ⟨c5, hf⟩
      · refine J_if_eq (tgt := 40) dX9_faultOf_29 (by decide) (fun _ => ?_) (fun w => absurd c5 w)
        refine J.sub (jsub_s (jsub_n (jsub_nil _))) ?_
        exact wbX9_faultOf_40 hst   hf
      · refine J_if_eq (tgt := 40) dX9_faultOf_29 (by decide) (fun w => absurd w c5) (fun _ => ?_)
        refine J_aload_n dX9_faultOf_32 rfl rfl ?_
        refine J_iload_n dX9_faultOf_33 rfl rfl ?_
        obtain ⟨k6, hf⟩ := gds hf
        obtain ⟨vo7, zo7, ho7h, ho7, hf⟩ := rfs3 hf
        refine CV1i dX9_faultOf_34 (mX9_readsCommand hst ho7) tk_1325 iX9_readsCommand k6 (by decide) rfl ⟨by decide, by decide⟩ ⟨by decide, by decide⟩ (Nat.le_of_ble_eq_true rfl) ?_
        rcases br hf with ⟨c8, hf⟩ | ⟨c8, hf⟩
        · refine J_if_ne (tgt := 45) dX9_faultOf_37 (by decide) (fun w => absurd c8 w) (fun _ => ?_)
          refine J.sub (jsub_s (jsub_n (jsub_nil _))) ?_
          exact wbX9_faultOf_40 hst   hf
        · refine J_if_ne (tgt := 45) dX9_faultOf_37 (by decide) (fun _ => ?_) (fun w => absurd w c8)
          refine J_goto (tgt := 5) dX9_faultOf_45 (by decide) ?_
          refine J.sub (jsub_s (jsub_n (jsub_nil _))) ?_
          exact hq5 _ _ _ _ hf
theorem wfX9_faultOf {g : JG} (hst : (jl g).stackTraces = false)   {a0 : Nat} {z : Nat} {h : AH} {o : Int32 × Nat × AH} (hf : fX9_faultOf  a0 z h = some o) : J g MX9_faultOf (jN g (some (.int o.1), o.2.1, o.2.2) rmX9_faultOf.cells rmX9_faultOf.slots) 0 [some (.ref a0), none] [] z h 0 0 := by
  unfold fX9_faultOf at hf
  refine J_aload_n dX9_faultOf_0 rfl rfl ?_
  refine J_iconst (v := 0) dX9_faultOf_1 (by decide) ?_
  obtain ⟨k1, hf⟩ := gds hf
  refine P_9_16 dX9_faultOf_2 tk_935 k1 ?_
  obtain ⟨h2, eh2, hf⟩ := bls hf
  refine J_h eh2 ?_
  refine J.sub (jsub_s (jsub_n (jsub_nil _))) ?_
  exact wlX9_faultOf_5 hst   _ _ _ _ _ hf
theorem mX9_faultOf {g : JG} (hst : (jl g).stackTraces = false) {a0 : Nat} {z : Nat} {h : AH} {o : Int32 × Nat × AH} (hf : fX9_faultOf a0 z h = some o) : jMet g yX9_faultOf (wj yX9_faultOf cX9_faultOf 2 (some .int)) rmX9_faultOf [.ref a0] z h (some (.int o.1), o.2.1, o.2.2) :=
  jMet_mk (by decide) (Nat.le_of_ble_eq_true rfl) [some (.ref a0), none] rfl (wfX9_faultOf hst hf)
def fX9_fault  (a0 : Nat) (z : Nat) (h : AH) : Option (Int32 × Nat × AH) :=
  gd (kd h a0 = 10) (bl (wI h a0 6 0) (fun h2 => bd3 (fX9_faultOf a0 z h2) (fun vo4 zo4 ho4h => some (vo4, zo4, ho4h))))
theorem wfX9_fault {g : JG} (hst : (jl g).stackTraces = false)   {a0 : Nat} {z : Nat} {h : AH} {o : Int32 × Nat × AH} (hf : fX9_fault  a0 z h = some o) : J g MX9_fault (jN g (some (.int o.1), o.2.1, o.2.2) rmX9_fault.cells rmX9_fault.slots) 0 [some (.ref a0)] [] z h 0 0 := by
  unfold fX9_fault at hf
  refine J_aload_n dX9_fault_0 rfl rfl ?_
  refine J_iconst (v := 0) dX9_fault_1 (by decide) ?_
  obtain ⟨k1, hf⟩ := gds hf
  refine P_9_6 dX9_fault_2 tk_925 k1 ?_
  obtain ⟨h2, eh2, hf⟩ := bls hf
  refine J_h eh2 ?_
  refine J_aload_n dX9_fault_5 rfl rfl ?_
  have k3 : kd h2 a0 = 10 := by rw [eh2]; exact k1
  obtain ⟨vo4, zo4, ho4h, ho4, hf⟩ := rfs3 hf
  refine CV0i dX9_fault_6 (mX9_faultOf hst ho4) tk_1314 iX9_faultOf k3 (by decide) rfl ⟨by decide, by decide⟩ ⟨by decide, by decide⟩ (Nat.le_of_ble_eq_true rfl) ?_
  cases hf
  exact J_iretN dX9_fault_9 rfl (by decide) (by decide)
theorem mX9_fault {g : JG} (hst : (jl g).stackTraces = false) {a0 : Nat} {z : Nat} {h : AH} {o : Int32 × Nat × AH} (hf : fX9_fault a0 z h = some o) : jMet g yX9_fault (wj yX9_fault cX9_fault 1 (some .int)) rmX9_fault [.ref a0] z h (some (.int o.1), o.2.1, o.2.2) :=
  jMet_mk (by decide) (Nat.le_of_ble_eq_true rfl) [some (.ref a0)] rfl (wfX9_fault hst hf)
def bX9_does_381  (x4 : Int32) (z : Nat) (h : AH) : Option (Int32 × Nat × AH) :=
  (if x4 = 0 then (some (1, z, h)) else (some (0, z, h)))
def bX9_does_379  (s0 : Int32) (z : Nat) (h : AH) : Option (Int32 × Nat × AH) :=
  bX9_does_381  s0 z h
def bX9_does_355  (a0 : Nat) (x2 : Int32) (s0 : Int32) (z : Nat) (h : AH) : Option (Int32 × Nat × AH) :=
  (if s0 = 0 then (gd (kd h a0 = 10) (bd3 (fX9_deliversUpTo a0 x2 z h) (fun vo3 zo3 ho3h => (if 0 ≤ vo3 then (bX9_does_379  0 zo3 ho3h) else (bX9_does_379  1 zo3 ho3h))))) else (bX9_does_381  s0 z h))
def bX9_does_340  (a0 : Nat) (x2 : Int32) (z : Nat) (h : AH) : Option (Int32 × Nat × AH) :=
  bd3 (fX9_in x2 1 99 z h) (fun vo1 zo1 ho1h => (if vo1 = 0 then (bX9_does_355  a0 x2 1 zo1 ho1h) else (bX9_does_355  a0 x2 0 zo1 ho1h)))
def bX9_does_147  (a0 : Nat) (x2 : Int32) (x5 : Int32) (s0 : Int32) (z : Nat) (h : AH) : Option (Int32 × Nat × AH) :=
  (if s0 = 0 then (gd (kd h a0 = 10) (bd2 (fX9_puts a0 x5 0 1 z h) (fun zo3 ho3h => gd (kd ho3h a0 = 10) (bd2 (fX9_puts a0 x5 1 x2 zo3 ho3h) (fun zo5 ho5h => gd (kd ho5h a0 = 10) (Option.bind (rv ho5h a0 0) (fun b7 => gd (kd ho5h b7 = 13) (gd (¬ ((20 : Int32) < 0 ∨ ln ho5h b7 ≤ Int32.toNatClampNeg 20)) (bd2 (fX9_puts a0 x5 2 (iv ho5h b7 (Int32.toNatClampNeg 20)) zo5 ho5h) (fun zo10 ho10h => gd (kd ho10h a0 = 10) (bd2 (fX9_puts a0 x5 3 0 zo10 ho10h) (fun zo12 ho12h => gd (kd ho12h a0 = 10) (bd2 (fX9_puts a0 x5 4 0 zo12 ho12h) (fun zo14 ho14h => gd (kd ho14h a0 = 10) (Option.bind (rv ho14h a0 0) (fun b16 => gd (kd ho14h b16 = 13) (gd (¬ ((20 : Int32) < 0 ∨ ln ho14h b16 ≤ Int32.toNatClampNeg 20)) (gd (¬ ((20 : Int32) < 0 ∨ ln ho14h b16 ≤ Int32.toNatClampNeg 20)) (bl (wI ho14h b16 (Int32.toNatClampNeg 20) ((iv ho14h b16 (Int32.toNatClampNeg 20)) + 1)) (fun h20 => bX9_does_381  s0 zo14 h20)))))))))))))))))))) else (bX9_does_381  s0 z h))
def bX9_does_142  (a0 : Nat) (x2 : Int32) (x5 : Int32) (z : Nat) (h : AH) : Option (Int32 × Nat × AH) :=
  bX9_does_147  a0 x2 x5 1 z h
def bX9_does_125  (a0 : Nat) (x2 : Int32) (x5 : Int32) (z : Nat) (h : AH) : Option (Int32 × Nat × AH) :=
  bd3 (fX9_in x2 1 99 z h) (fun vo1 zo1 ho1h => (if vo1 = 0 then (bX9_does_142  a0 x2 x5 zo1 ho1h) else ((if x5 = 10 then (bX9_does_142  a0 x2 x5 zo1 ho1h) else (bX9_does_147  a0 x2 x5 0 zo1 ho1h)))))
def lX9_does_103B  (q103 : Nat → Int32 → Int32 → Nat → AH → Option (Int32 × Nat × AH)) (a0 : Nat) (x2 : Int32) (x5 : Int32) (z : Nat) (h : AH) : Option (Int32 × Nat × AH) :=
  (if 10 ≤ x5 then (bX9_does_125  a0 x2 x5 z h) else (gd (kd h a0 = 10) (bd3 (fX9_isTask a0 x5 z h) (fun vo3 zo3 ho3h => (if vo3 = 0 then (bX9_does_125  a0 x2 x5 zo3 ho3h) else (q103 a0 x2 (x5 + 1) zo3 ho3h))))))
def lX9_does_103  : Nat → Nat → Int32 → Int32 → Nat → AH → Option (Int32 × Nat × AH)
  | 0 => fun _ _ _ _ _ => none
  | fuel + 1 => lX9_does_103B  (lX9_does_103  fuel)
def fX9_does  (a0 : Nat) (x1 : Int32) (x2 : Int32) (x3 : Int32) (z : Nat) (h : AH) : Option (Int32 × Nat × AH) :=
  (if x1 = 97 then (gd (kd h a0 = 10) (bd3 (fX9_abortFault a0 x2 z h) (fun vo3 zo3 ho3h => (if vo3 = 0 then (gd (kd ho3h a0 = 10) (bd2 (fX9_aborts a0 x2 zo3 ho3h) (fun zo6 ho6h => bX9_does_381  vo3 zo6 ho6h))) else (bX9_does_381  vo3 zo3 ho3h))))) else (if x1 = 98 then (gd (kd h a0 = 10) (bd3 (fX9_restartFault a0 x2 z h) (fun vo9 zo9 ho9h => (if vo9 = 0 then (gd (kd ho9h a0 = 10) (bd2 (fX9_puts a0 x2 4 0 zo9 ho9h) (fun zo12 ho12h => bX9_does_381  vo9 zo12 ho12h))) else (bX9_does_381  vo9 zo9 ho9h))))) else (if x1 = 99 then (bX9_does_340  a0 x2 z h) else (if x1 = 100 then (bX9_does_340  a0 x2 z h) else (if x1 = 101 then (bX9_does_340  a0 x2 z h) else (if x1 = 102 then (gd (kd h a0 = 10) (bd3 (fX9_finishFault a0 x2 z h) (fun vo18 zo18 ho18h => (if vo18 = 0 then (gd (kd ho18h a0 = 10) (bd2 (fX9_finishes a0 x2 zo18 ho18h) (fun zo21 ho21h => bX9_does_381  vo18 zo21 ho21h))) else (bX9_does_381  vo18 zo18 ho18h))))) else (if x1 = 103 then (bX9_does_340  a0 x2 z h) else (if x1 = 104 then (bX9_does_340  a0 x2 z h) else (if x1 = 105 then (bX9_does_340  a0 x2 z h) else (if x1 = 106 then (bX9_does_340  a0 x2 z h) else (if x1 = 107 then (bX9_does_340  a0 x2 z h) else (if x1 = 108 then (gd (kd h a0 = 10) (bd3 (fX9_releaseFault a0 x2 x3 z h) (fun vo29 zo29 ho29h => (if vo29 = 0 then (gd (kd ho29h a0 = 10) (bd2 (fX9_lets a0 x2 x3 zo29 ho29h) (fun zo32 ho32h => bX9_does_381  vo29 zo32 ho32h))) else (bX9_does_381  vo29 zo29 ho29h))))) else (if x1 = 109 then (bX9_does_340  a0 x2 z h) else (if x1 = 110 then (bX9_does_340  a0 x2 z h) else (if x1 = 111 then (bX9_does_340  a0 x2 z h) else (if x1 = 112 then (gd (kd h a0 = 10) (bd3 (fX9_probeFault a0 x2 z h) (fun vo38 zo38 ho38h => (if vo38 = 0 then (gd (kd ho38h a0 = 10) (bd2 (fX9_starts a0 x2 zo38 ho38h) (fun zo41 ho41h => bX9_does_381  vo38 zo41 ho41h))) else (bX9_does_381  vo38 zo38 ho38h))))) else (if x1 = 113 then (gd (kd h a0 = 10) (bd3 (fX9_requestFault a0 x2 x3 z h) (fun vo44 zo44 ho44h => (if vo44 = 0 then (gd (kd ho44h a0 = 10) (bd2 (fX9_asks a0 x2 x3 zo44 ho44h) (fun zo47 ho47h => bX9_does_381  vo44 zo47 ho47h))) else (bX9_does_381  vo44 zo44 ho44h))))) else (if x1 = 114 then (bX9_does_340  a0 x2 z h) else (if x1 = 115 then (bX9_does_340  a0 x2 z h) else (if x1 = 116 then (lX9_does_103  fu a0 x2 0 z h) else (bX9_does_340  a0 x2 z h)))))))))))))))))))))
theorem wbX9_does_381 {g : JG} (hst : (jl g).stackTraces = false)   {x4 : Int32} {z : Nat} {h : AH} {o : Int32 × Nat × AH} (hf : bX9_does_381  x4 z h = some o) : J g MX9_does (jN g (some (.int o.1), o.2.1, o.2.2) rmX9_does.cells rmX9_does.slots) 381 [none, none, none, none, some (.int x4), none, none] [] z h 0 0 := by
  unfold bX9_does_381 at hf
  refine J_iload dX9_does_381 rfl ?_
  rcases br hf with ⟨c1, hf⟩ | ⟨c1, hf⟩
  · refine J_if_ne (tgt := 390) dX9_does_383 (by decide) (fun w => absurd c1 w) (fun _ => ?_)
    refine J_iconst (v := 1) dX9_does_386 (by decide) ?_
    refine J_goto (tgt := 391) dX9_does_387 (by decide) ?_
    cases hf
    exact J_zretN dX9_does_391 rfl (Or.inr rfl) (by decide) (by decide)
  · refine J_if_ne (tgt := 390) dX9_does_383 (by decide) (fun _ => ?_) (fun w => absurd w c1)
    refine J_iconst (v := 0) dX9_does_390 (by decide) ?_
    cases hf
    exact J_zretN dX9_does_391 rfl (Or.inl rfl) (by decide) (by decide)
theorem wbX9_does_379 {g : JG} (hst : (jl g).stackTraces = false)   {s0 : Int32} {z : Nat} {h : AH} {o : Int32 × Nat × AH} (hf : bX9_does_379  s0 z h = some o) : J g MX9_does (jN g (some (.int o.1), o.2.1, o.2.2) rmX9_does.cells rmX9_does.slots) 379 [none, none, none, none, none, none, none] [.int s0] z h 0 0 := by
  unfold bX9_does_379 at hf
  refine S_istore_4 dX9_does_379 rfl (by decide) ?_
  refine J.sub (jsub_n (jsub_n (jsub_n (jsub_n (jsub_s (jsub_n (jsub_n (jsub_nil _)))))))) ?_
  exact wbX9_does_381 hst   hf
theorem wbX9_does_355 {g : JG} (hst : (jl g).stackTraces = false)   {a0 : Nat} {x2 : Int32} {s0 : Int32} {z : Nat} {h : AH} {o : Int32 × Nat × AH} (hf : bX9_does_355  a0 x2 s0 z h = some o) : J g MX9_does (jN g (some (.int o.1), o.2.1, o.2.2) rmX9_does.cells rmX9_does.slots) 355 [some (.ref a0), none, some (.int x2), none, none, none, none] [.int s0] z h 0 0 := by
  unfold bX9_does_355 at hf
  refine S_istore_4 dX9_does_355 rfl (by decide) ?_
  refine J_iload dX9_does_357 rfl ?_
  rcases br hf with ⟨c1, hf⟩ | ⟨c1, hf⟩
  · refine J_if_ne (tgt := 381) dX9_does_359 (by decide) (fun w => absurd c1 w) (fun _ => ?_)
    refine J_aload_n dX9_does_362 rfl rfl ?_
    refine J_iload_n dX9_does_363 rfl rfl ?_
    obtain ⟨k2, hf⟩ := gds hf
    obtain ⟨vo3, zo3, ho3h, ho3, hf⟩ := rfs3 hf
    refine CV1i dX9_does_364 (mX9_deliversUpTo hst ho3) tk_1218 iX9_deliversUpTo k2 (by decide) rfl ⟨by decide, by decide⟩ ⟨by decide, by decide⟩ (Nat.le_of_ble_eq_true rfl) ?_
    refine S_istore_6 dX9_does_367 rfl (by decide) ?_
    refine J_iload dX9_does_369 rfl ?_
    rcases br hf with ⟨c4, hf⟩ | ⟨c4, hf⟩
    · refine J_if_ge (tgt := 378) dX9_does_371 (by decide) (fun _ => ?_) (fun w => absurd c4 w)
      refine J_iconst (v := 0) dX9_does_378 (by decide) ?_
      refine J.sub (jsub_n (jsub_n (jsub_n (jsub_n (jsub_n (jsub_n (jsub_n (jsub_nil _)))))))) ?_
      exact wbX9_does_379 hst   hf
    · refine J_if_ge (tgt := 378) dX9_does_371 (by decide) (fun w => absurd w c4) (fun _ => ?_)
      refine J_iconst (v := 1) dX9_does_374 (by decide) ?_
      refine J_goto (tgt := 379) dX9_does_375 (by decide) ?_
      refine J.sub (jsub_n (jsub_n (jsub_n (jsub_n (jsub_n (jsub_n (jsub_n (jsub_nil _)))))))) ?_
      exact wbX9_does_379 hst   hf
  · refine J_if_ne (tgt := 381) dX9_does_359 (by decide) (fun _ => ?_) (fun w => absurd w c1)
    refine J.sub (jsub_n (jsub_n (jsub_n (jsub_n (jsub_s (jsub_n (jsub_n (jsub_nil _)))))))) ?_
    exact wbX9_does_381 hst   hf
theorem wbX9_does_340 {g : JG} (hst : (jl g).stackTraces = false)   {a0 : Nat} {x2 : Int32} {z : Nat} {h : AH} {o : Int32 × Nat × AH} (hf : bX9_does_340  a0 x2 z h = some o) : J g MX9_does (jN g (some (.int o.1), o.2.1, o.2.2) rmX9_does.cells rmX9_does.slots) 340 [some (.ref a0), none, some (.int x2), none, none, none, none] [] z h 0 0 := by
  unfold bX9_does_340 at hf
  refine J_iload_n dX9_does_340 rfl rfl ?_
  refine J_iconst (v := 1) dX9_does_341 (by decide) ?_
  refine J_bipush (v := 99) dX9_does_342 (by decide) ?_
  obtain ⟨vo1, zo1, ho1h, ho1, hf⟩ := rfs3 hf
  refine CS3i (host := "") dX9_does_344 (mX9_in hst ho1) tk_996 iX9_in ⟨by decide, by decide⟩ ⟨by decide, by decide⟩ (Nat.le_of_ble_eq_true rfl) ?_
  rcases br hf with ⟨c2, hf⟩ | ⟨c2, hf⟩
  · refine J_if_eq (tgt := 354) dX9_does_347 (by decide) (fun _ => ?_) (fun w => absurd c2 w)
    refine J_iconst (v := 1) dX9_does_354 (by decide) ?_
    refine J.sub (jsub_s (jsub_n (jsub_s (jsub_n (jsub_n (jsub_n (jsub_n (jsub_nil _)))))))) ?_
    exact wbX9_does_355 hst   hf
  · refine J_if_eq (tgt := 354) dX9_does_347 (by decide) (fun w => absurd w c2) (fun _ => ?_)
    refine J_iconst (v := 0) dX9_does_350 (by decide) ?_
    refine J_goto (tgt := 355) dX9_does_351 (by decide) ?_
    refine J.sub (jsub_s (jsub_n (jsub_s (jsub_n (jsub_n (jsub_n (jsub_n (jsub_nil _)))))))) ?_
    exact wbX9_does_355 hst   hf
theorem wbX9_does_147 {g : JG} (hst : (jl g).stackTraces = false)   {a0 : Nat} {x2 : Int32} {x5 : Int32} {s0 : Int32} {z : Nat} {h : AH} {o : Int32 × Nat × AH} (hf : bX9_does_147  a0 x2 x5 s0 z h = some o) : J g MX9_does (jN g (some (.int o.1), o.2.1, o.2.2) rmX9_does.cells rmX9_does.slots) 147 [some (.ref a0), none, some (.int x2), none, none, some (.int x5), none] [.int s0] z h 0 0 := by
  unfold bX9_does_147 at hf
  refine S_istore_4 dX9_does_147 rfl (by decide) ?_
  refine J_iload dX9_does_149 rfl ?_
  rcases br hf with ⟨c1, hf⟩ | ⟨c1, hf⟩
  · refine J_if_ne (tgt := 381) dX9_does_151 (by decide) (fun w => absurd c1 w) (fun _ => ?_)
    refine J_aload_n dX9_does_154 rfl rfl ?_
    refine J_iload dX9_does_155 rfl ?_
    refine J_iconst (v := 0) dX9_does_157 (by decide) ?_
    refine J_iconst (v := 1) dX9_does_158 (by decide) ?_
    obtain ⟨k2, hf⟩ := gds hf
    obtain ⟨zo3, ho3h, ho3, hf⟩ := rfs2 hf
    refine CV3v dX9_does_159 (mX9_puts hst ho3) tk_1039 iX9_puts k2 (by decide) rfl ⟨by decide, by decide⟩ ⟨by decide, by decide⟩ (Nat.le_of_ble_eq_true rfl) ?_
    refine J_aload_n dX9_does_162 rfl rfl ?_
    refine J_iload dX9_does_163 rfl ?_
    refine J_iconst (v := 1) dX9_does_165 (by decide) ?_
    refine J_iload_n dX9_does_166 rfl rfl ?_
    obtain ⟨k4, hf⟩ := gds hf
    obtain ⟨zo5, ho5h, ho5, hf⟩ := rfs2 hf
    refine CV3v dX9_does_167 (mX9_puts hst ho5) tk_1039 iX9_puts k4 (by decide) rfl ⟨by decide, by decide⟩ ⟨by decide, by decide⟩ (Nat.le_of_ble_eq_true rfl) ?_
    refine J_aload_n dX9_does_170 rfl rfl ?_
    refine J_iload dX9_does_171 rfl ?_
    refine J_iconst (v := 2) dX9_does_173 (by decide) ?_
    refine J_aload_n dX9_does_174 rfl rfl ?_
    obtain ⟨k6, hf⟩ := gds hf
    obtain ⟨b7, rb7, hf⟩ := rfs hf
    refine G_9_0 dX9_does_175 tk_919 k6 rb7 ?_
    refine J_bipush (v := 20) dX9_does_178 (by decide) ?_
    obtain ⟨k8, hf⟩ := gds hf
    obtain ⟨n9, hf⟩ := gds hf
    refine J_iaload dX9_does_180 k8 n9 ?_
    obtain ⟨zo10, ho10h, ho10, hf⟩ := rfs2 hf
    refine CV3v dX9_does_181 (mX9_puts hst ho10) tk_1039 iX9_puts k6 (by decide) rfl ⟨by decide, by decide⟩ ⟨by decide, by decide⟩ (Nat.le_of_ble_eq_true rfl) ?_
    refine J_aload_n dX9_does_184 rfl rfl ?_
    refine J_iload dX9_does_185 rfl ?_
    refine J_iconst (v := 3) dX9_does_187 (by decide) ?_
    refine J_iconst (v := 0) dX9_does_188 (by decide) ?_
    obtain ⟨k11, hf⟩ := gds hf
    obtain ⟨zo12, ho12h, ho12, hf⟩ := rfs2 hf
    refine CV3v dX9_does_189 (mX9_puts hst ho12) tk_1039 iX9_puts k11 (by decide) rfl ⟨by decide, by decide⟩ ⟨by decide, by decide⟩ (Nat.le_of_ble_eq_true rfl) ?_
    refine J_aload_n dX9_does_192 rfl rfl ?_
    refine J_iload dX9_does_193 rfl ?_
    refine J_iconst (v := 4) dX9_does_195 (by decide) ?_
    refine J_iconst (v := 0) dX9_does_196 (by decide) ?_
    obtain ⟨k13, hf⟩ := gds hf
    obtain ⟨zo14, ho14h, ho14, hf⟩ := rfs2 hf
    refine CV3v dX9_does_197 (mX9_puts hst ho14) tk_1039 iX9_puts k13 (by decide) rfl ⟨by decide, by decide⟩ ⟨by decide, by decide⟩ (Nat.le_of_ble_eq_true rfl) ?_
    refine J_aload_n dX9_does_200 rfl rfl ?_
    obtain ⟨k15, hf⟩ := gds hf
    obtain ⟨b16, rb16, hf⟩ := rfs hf
    refine G_9_0 dX9_does_201 tk_919 k15 rb16 ?_
    refine J_bipush (v := 20) dX9_does_204 (by decide) ?_
    refine J_dup2 dX9_does_206 rfl rfl ?_
    obtain ⟨k17, hf⟩ := gds hf
    obtain ⟨n18, hf⟩ := gds hf
    refine J_iaload dX9_does_207 k17 n18 ?_
    refine J_iconst (v := 1) dX9_does_208 (by decide) ?_
    refine J_iadd dX9_does_209 ?_
    obtain ⟨n19, hf⟩ := gds hf
    refine J_iastore dX9_does_210 k17 n19 ?_
    obtain ⟨h20, eh20, hf⟩ := bls hf
    refine J_h eh20 ?_
    refine J_goto (tgt := 381) dX9_does_211 (by decide) ?_
    refine J.sub (jsub_n (jsub_n (jsub_n (jsub_n (jsub_s (jsub_n (jsub_n (jsub_nil _)))))))) ?_
    exact wbX9_does_381 hst   hf
  · refine J_if_ne (tgt := 381) dX9_does_151 (by decide) (fun _ => ?_) (fun w => absurd w c1)
    refine J.sub (jsub_n (jsub_n (jsub_n (jsub_n (jsub_s (jsub_n (jsub_n (jsub_nil _)))))))) ?_
    exact wbX9_does_381 hst   hf
theorem wbX9_does_142 {g : JG} (hst : (jl g).stackTraces = false)   {a0 : Nat} {x2 : Int32} {x5 : Int32} {z : Nat} {h : AH} {o : Int32 × Nat × AH} (hf : bX9_does_142  a0 x2 x5 z h = some o) : J g MX9_does (jN g (some (.int o.1), o.2.1, o.2.2) rmX9_does.cells rmX9_does.slots) 142 [some (.ref a0), none, some (.int x2), none, none, some (.int x5), none] [] z h 0 0 := by
  unfold bX9_does_142 at hf
  refine J_iconst (v := 1) dX9_does_142 (by decide) ?_
  refine J_goto (tgt := 147) dX9_does_143 (by decide) ?_
  refine J.sub (jsub_s (jsub_n (jsub_s (jsub_n (jsub_n (jsub_s (jsub_n (jsub_nil _)))))))) ?_
  exact wbX9_does_147 hst   hf
theorem wbX9_does_125 {g : JG} (hst : (jl g).stackTraces = false)   {a0 : Nat} {x2 : Int32} {x5 : Int32} {z : Nat} {h : AH} {o : Int32 × Nat × AH} (hf : bX9_does_125  a0 x2 x5 z h = some o) : J g MX9_does (jN g (some (.int o.1), o.2.1, o.2.2) rmX9_does.cells rmX9_does.slots) 125 [some (.ref a0), none, some (.int x2), none, none, some (.int x5), none] [] z h 0 0 := by
  unfold bX9_does_125 at hf
  refine J_iload_n dX9_does_125 rfl rfl ?_
  refine J_iconst (v := 1) dX9_does_126 (by decide) ?_
  refine J_bipush (v := 99) dX9_does_127 (by decide) ?_
  obtain ⟨vo1, zo1, ho1h, ho1, hf⟩ := rfs3 hf
  refine CS3i (host := "") dX9_does_129 (mX9_in hst ho1) tk_996 iX9_in ⟨by decide, by decide⟩ ⟨by decide, by decide⟩ (Nat.le_of_ble_eq_true rfl) ?_
  rcases br hf with ⟨c2, hf⟩ | ⟨c2, hf⟩
  · refine J_if_eq (tgt := 142) dX9_does_132 (by decide) (fun _ => ?_) (fun w => absurd c2 w)
    refine J.sub (jsub_s (jsub_n (jsub_s (jsub_n (jsub_n (jsub_s (jsub_n (jsub_nil _)))))))) ?_
    exact wbX9_does_142 hst   hf
  · refine J_if_eq (tgt := 142) dX9_does_132 (by decide) (fun w => absurd w c2) (fun _ => ?_)
    refine J_iload dX9_does_135 rfl ?_
    refine J_bipush (v := 10) dX9_does_137 (by decide) ?_
    rcases br hf with ⟨c3, hf⟩ | ⟨c3, hf⟩
    · refine J_icmp_ne (tgt := 146) dX9_does_139 (by decide) (fun w => absurd c3 w) (fun _ => ?_)
      refine J.sub (jsub_s (jsub_n (jsub_s (jsub_n (jsub_n (jsub_s (jsub_n (jsub_nil _)))))))) ?_
      exact wbX9_does_142 hst   hf
    · refine J_icmp_ne (tgt := 146) dX9_does_139 (by decide) (fun _ => ?_) (fun w => absurd w c3)
      refine J_iconst (v := 0) dX9_does_146 (by decide) ?_
      refine J.sub (jsub_s (jsub_n (jsub_s (jsub_n (jsub_n (jsub_s (jsub_n (jsub_nil _)))))))) ?_
      exact wbX9_does_147 hst   hf
theorem wlX9_does_103 {g : JG} (hst : (jl g).stackTraces = false)   : ∀ (fuel : Nat) (a0 : Nat) (x2 : Int32) (x5 : Int32) (z : Nat) (h : AH) (o : Int32 × Nat × AH), lX9_does_103  fuel a0 x2 x5 z h = some o → J g MX9_does (jN g (some (.int o.1), o.2.1, o.2.2) rmX9_does.cells rmX9_does.slots) 103 [some (.ref a0), none, some (.int x2), none, none, some (.int x5), none] [] z h 0 0 := by
  intro fuel
  induction fuel with
  | zero => intro a0 x2 x5 z h o hf; cases hf
  | succ fuel ih =>
    intro a0 x2 x5 z h o hf
    have hq103 := ih
    have hf : lX9_does_103B  (lX9_does_103  fuel) a0 x2 x5 z h = some o := hf
    generalize lX9_does_103  fuel = q103 at hf hq103
    unfold lX9_does_103B at hf
    refine J_iload dX9_does_103 rfl ?_
    refine J_bipush (v := 10) dX9_does_105 (by decide) ?_
    rcases br hf with ⟨c1, hf⟩ | ⟨c1, hf⟩
    · refine J_icmp_ge (tgt := 125) dX9_does_107 (by decide) (fun _ => ?_) (fun w => absurd c1 w)
      refine J.sub (jsub_s (jsub_n (jsub_s (jsub_n (jsub_n (jsub_s (jsub_n (jsub_nil _)))))))) ?_
      exact wbX9_does_125 hst   hf
    · refine J_icmp_ge (tgt := 125) dX9_does_107 (by decide) (fun w => absurd w c1) (fun _ => ?_)
      refine J_aload_n dX9_does_110 rfl rfl ?_
      refine J_iload dX9_does_111 rfl ?_
      obtain ⟨k2, hf⟩ := gds hf
      obtain ⟨vo3, zo3, ho3h, ho3, hf⟩ := rfs3 hf
      refine CV1i dX9_does_113 (mX9_isTask hst ho3) tk_1019 iX9_isTask k2 (by decide) rfl ⟨by decide, by decide⟩ ⟨by decide, by decide⟩ (Nat.le_of_ble_eq_true rfl) ?_
      rcases br hf with ⟨c4, hf⟩ | ⟨c4, hf⟩
      · refine J_if_eq (tgt := 125) dX9_does_116 (by decide) (fun _ => ?_) (fun w => absurd c4 w)
        refine J.sub (jsub_s (jsub_n (jsub_s (jsub_n (jsub_n (jsub_s (jsub_n (jsub_nil _)))))))) ?_
        exact wbX9_does_125 hst   hf
      · refine J_if_eq (tgt := 125) dX9_does_116 (by decide) (fun w => absurd w c4) (fun _ => ?_)
        refine S_iinc_5 (v := x5 + 1) dX9_does_119 (congrArg (fun w => x5 + w) (by decide)) rfl (by decide) ?_
        refine J_goto (tgt := 103) dX9_does_122 (by decide) ?_
        refine J.sub (jsub_s (jsub_n (jsub_s (jsub_n (jsub_n (jsub_s (jsub_n (jsub_nil _)))))))) ?_
        exact hq103 _ _ _ _ _ _ hf
theorem wfX9_does {g : JG} (hst : (jl g).stackTraces = false)   {a0 : Nat} {x1 : Int32} {x2 : Int32} {x3 : Int32} {z : Nat} {h : AH} {o : Int32 × Nat × AH} (hf : fX9_does  a0 x1 x2 x3 z h = some o) : J g MX9_does (jN g (some (.int o.1), o.2.1, o.2.2) rmX9_does.cells rmX9_does.slots) 0 [some (.ref a0), some (.int x1), some (.int x2), some (.int x3), none, none, none] [] z h 0 0 := by
  unfold fX9_does at hf
  refine J_iconst (v := 0) dX9_does_0 (by decide) ?_
  refine S_istore_4 dX9_does_1 rfl (by decide) ?_
  refine J_iload_n dX9_does_3 rfl rfl ?_
  rcases br hf with ⟨c1, hf⟩ | ⟨c1, hf⟩
  · refine J_tableC (off := 274) (tgt := 278) c1 dX9_does_4 (by decide) (by decide) (by decide) (by decide) ?_
    refine J_aload_n dX9_does_278 rfl rfl ?_
    refine J_iload_n dX9_does_279 rfl rfl ?_
    obtain ⟨k2, hf⟩ := gds hf
    obtain ⟨vo3, zo3, ho3h, ho3, hf⟩ := rfs3 hf
    refine CV1i dX9_does_280 (mX9_abortFault hst ho3) tk_1142 iX9_abortFault k2 (by decide) rfl ⟨by decide, by decide⟩ ⟨by decide, by decide⟩ (Nat.le_of_ble_eq_true rfl) ?_
    refine S_istore_4 dX9_does_283 rfl (by decide) ?_
    refine J_iload dX9_does_285 rfl ?_
    rcases br hf with ⟨c4, hf⟩ | ⟨c4, hf⟩
    · refine J_if_ne (tgt := 381) dX9_does_287 (by decide) (fun w => absurd c4 w) (fun _ => ?_)
      refine J_aload_n dX9_does_290 rfl rfl ?_
      refine J_iload_n dX9_does_291 rfl rfl ?_
      obtain ⟨k5, hf⟩ := gds hf
      obtain ⟨zo6, ho6h, ho6, hf⟩ := rfs2 hf
      refine CV1v dX9_does_292 (mX9_aborts hst ho6) tk_1146 iX9_aborts k5 (by decide) rfl ⟨by decide, by decide⟩ ⟨by decide, by decide⟩ (Nat.le_of_ble_eq_true rfl) ?_
      refine J_goto (tgt := 381) dX9_does_295 (by decide) ?_
      refine J.sub (jsub_n (jsub_n (jsub_n (jsub_n (jsub_s (jsub_n (jsub_n (jsub_nil _)))))))) ?_
      exact wbX9_does_381 hst   hf
    · refine J_if_ne (tgt := 381) dX9_does_287 (by decide) (fun _ => ?_) (fun w => absurd w c4)
      refine J.sub (jsub_n (jsub_n (jsub_n (jsub_n (jsub_s (jsub_n (jsub_n (jsub_nil _)))))))) ?_
      exact wbX9_does_381 hst   hf
  · skip
    rcases br hf with ⟨c7, hf⟩ | ⟨c7, hf⟩
    · refine J_tableC (off := 294) (tgt := 298) c7 dX9_does_4 (by decide) (by decide) (by decide) (by decide) ?_
      refine J_aload_n dX9_does_298 rfl rfl ?_
      refine J_iload_n dX9_does_299 rfl rfl ?_
      obtain ⟨k8, hf⟩ := gds hf
      obtain ⟨vo9, zo9, ho9h, ho9, hf⟩ := rfs3 hf
      refine CV1i dX9_does_300 (mX9_restartFault hst ho9) tk_1154 iX9_restartFault k8 (by decide) rfl ⟨by decide, by decide⟩ ⟨by decide, by decide⟩ (Nat.le_of_ble_eq_true rfl) ?_
      refine S_istore_4 dX9_does_303 rfl (by decide) ?_
      refine J_iload dX9_does_305 rfl ?_
      rcases br hf with ⟨c10, hf⟩ | ⟨c10, hf⟩
      · refine J_if_ne (tgt := 381) dX9_does_307 (by decide) (fun w => absurd c10 w) (fun _ => ?_)
        refine J_aload_n dX9_does_310 rfl rfl ?_
        refine J_iload_n dX9_does_311 rfl rfl ?_
        refine J_iconst (v := 4) dX9_does_312 (by decide) ?_
        refine J_iconst (v := 0) dX9_does_313 (by decide) ?_
        obtain ⟨k11, hf⟩ := gds hf
        obtain ⟨zo12, ho12h, ho12, hf⟩ := rfs2 hf
        refine CV3v dX9_does_314 (mX9_puts hst ho12) tk_1039 iX9_puts k11 (by decide) rfl ⟨by decide, by decide⟩ ⟨by decide, by decide⟩ (Nat.le_of_ble_eq_true rfl) ?_
        refine J_goto (tgt := 381) dX9_does_317 (by decide) ?_
        refine J.sub (jsub_n (jsub_n (jsub_n (jsub_n (jsub_s (jsub_n (jsub_n (jsub_nil _)))))))) ?_
        exact wbX9_does_381 hst   hf
      · refine J_if_ne (tgt := 381) dX9_does_307 (by decide) (fun _ => ?_) (fun w => absurd w c10)
        refine J.sub (jsub_n (jsub_n (jsub_n (jsub_n (jsub_s (jsub_n (jsub_n (jsub_nil _)))))))) ?_
        exact wbX9_does_381 hst   hf
    · skip
      rcases br hf with ⟨c13, hf⟩ | ⟨c13, hf⟩
      · refine J_tableC (off := 336) (tgt := 340) c13 dX9_does_4 (by decide) (by decide) (by decide) (by decide) ?_
        refine J.sub (jsub_s (jsub_n (jsub_s (jsub_n (jsub_n (jsub_n (jsub_n (jsub_nil _)))))))) ?_
        exact wbX9_does_340 hst   hf
      · skip
        rcases br hf with ⟨c14, hf⟩ | ⟨c14, hf⟩
        · refine J_tableC (off := 336) (tgt := 340) c14 dX9_does_4 (by decide) (by decide) (by decide) (by decide) ?_
          refine J.sub (jsub_s (jsub_n (jsub_s (jsub_n (jsub_n (jsub_n (jsub_n (jsub_nil _)))))))) ?_
          exact wbX9_does_340 hst   hf
        · skip
          rcases br hf with ⟨c15, hf⟩ | ⟨c15, hf⟩
          · refine J_tableC (off := 336) (tgt := 340) c15 dX9_does_4 (by decide) (by decide) (by decide) (by decide) ?_
            refine J.sub (jsub_s (jsub_n (jsub_s (jsub_n (jsub_n (jsub_n (jsub_n (jsub_nil _)))))))) ?_
            exact wbX9_does_340 hst   hf
          · skip
            rcases br hf with ⟨c16, hf⟩ | ⟨c16, hf⟩
            · refine J_tableC (off := 254) (tgt := 258) c16 dX9_does_4 (by decide) (by decide) (by decide) (by decide) ?_
              refine J_aload_n dX9_does_258 rfl rfl ?_
              refine J_iload_n dX9_does_259 rfl rfl ?_
              obtain ⟨k17, hf⟩ := gds hf
              obtain ⟨vo18, zo18, ho18h, ho18, hf⟩ := rfs3 hf
              refine CV1i dX9_does_260 (mX9_finishFault hst ho18) tk_1130 iX9_finishFault k17 (by decide) rfl ⟨by decide, by decide⟩ ⟨by decide, by decide⟩ (Nat.le_of_ble_eq_true rfl) ?_
              refine S_istore_4 dX9_does_263 rfl (by decide) ?_
              refine J_iload dX9_does_265 rfl ?_
              rcases br hf with ⟨c19, hf⟩ | ⟨c19, hf⟩
              · refine J_if_ne (tgt := 381) dX9_does_267 (by decide) (fun w => absurd c19 w) (fun _ => ?_)
                refine J_aload_n dX9_does_270 rfl rfl ?_
                refine J_iload_n dX9_does_271 rfl rfl ?_
                obtain ⟨k20, hf⟩ := gds hf
                obtain ⟨zo21, ho21h, ho21, hf⟩ := rfs2 hf
                refine CV1v dX9_does_272 (mX9_finishes hst ho21) tk_1134 iX9_finishes k20 (by decide) rfl ⟨by decide, by decide⟩ ⟨by decide, by decide⟩ (Nat.le_of_ble_eq_true rfl) ?_
                refine J_goto (tgt := 381) dX9_does_275 (by decide) ?_
                refine J.sub (jsub_n (jsub_n (jsub_n (jsub_n (jsub_s (jsub_n (jsub_n (jsub_nil _)))))))) ?_
                exact wbX9_does_381 hst   hf
              · refine J_if_ne (tgt := 381) dX9_does_267 (by decide) (fun _ => ?_) (fun w => absurd w c19)
                refine J.sub (jsub_n (jsub_n (jsub_n (jsub_n (jsub_s (jsub_n (jsub_n (jsub_nil _)))))))) ?_
                exact wbX9_does_381 hst   hf
            · skip
              rcases br hf with ⟨c22, hf⟩ | ⟨c22, hf⟩
              · refine J_tableC (off := 336) (tgt := 340) c22 dX9_does_4 (by decide) (by decide) (by decide) (by decide) ?_
                refine J.sub (jsub_s (jsub_n (jsub_s (jsub_n (jsub_n (jsub_n (jsub_n (jsub_nil _)))))))) ?_
                exact wbX9_does_340 hst   hf
              · skip
                rcases br hf with ⟨c23, hf⟩ | ⟨c23, hf⟩
                · refine J_tableC (off := 336) (tgt := 340) c23 dX9_does_4 (by decide) (by decide) (by decide) (by decide) ?_
                  refine J.sub (jsub_s (jsub_n (jsub_s (jsub_n (jsub_n (jsub_n (jsub_n (jsub_nil _)))))))) ?_
                  exact wbX9_does_340 hst   hf
                · skip
                  rcases br hf with ⟨c24, hf⟩ | ⟨c24, hf⟩
                  · refine J_tableC (off := 336) (tgt := 340) c24 dX9_does_4 (by decide) (by decide) (by decide) (by decide) ?_
                    refine J.sub (jsub_s (jsub_n (jsub_s (jsub_n (jsub_n (jsub_n (jsub_n (jsub_nil _)))))))) ?_
                    exact wbX9_does_340 hst   hf
                  · skip
                    rcases br hf with ⟨c25, hf⟩ | ⟨c25, hf⟩
                    · refine J_tableC (off := 336) (tgt := 340) c25 dX9_does_4 (by decide) (by decide) (by decide) (by decide) ?_
                      refine J.sub (jsub_s (jsub_n (jsub_s (jsub_n (jsub_n (jsub_n (jsub_n (jsub_nil _)))))))) ?_
                      exact wbX9_does_340 hst   hf
                    · skip
                      rcases br hf with ⟨c26, hf⟩ | ⟨c26, hf⟩
                      · refine J_tableC (off := 336) (tgt := 340) c26 dX9_does_4 (by decide) (by decide) (by decide) (by decide) ?_
                        refine J.sub (jsub_s (jsub_n (jsub_s (jsub_n (jsub_n (jsub_n (jsub_n (jsub_nil _)))))))) ?_
                        exact wbX9_does_340 hst   hf
                      · skip
                        rcases br hf with ⟨c27, hf⟩ | ⟨c27, hf⟩
                        · refine J_tableC (off := 232) (tgt := 236) c27 dX9_does_4 (by decide) (by decide) (by decide) (by decide) ?_
                          refine J_aload_n dX9_does_236 rfl rfl ?_
                          refine J_iload_n dX9_does_237 rfl rfl ?_
                          refine J_iload_n dX9_does_238 rfl rfl ?_
                          obtain ⟨k28, hf⟩ := gds hf
                          obtain ⟨vo29, zo29, ho29h, ho29, hf⟩ := rfs3 hf
                          refine CV2i dX9_does_239 (mX9_releaseFault hst ho29) tk_1115 iX9_releaseFault k28 (by decide) rfl ⟨by decide, by decide⟩ ⟨by decide, by decide⟩ (Nat.le_of_ble_eq_true rfl) ?_
                          refine S_istore_4 dX9_does_242 rfl (by decide) ?_
                          refine J_iload dX9_does_244 rfl ?_
                          rcases br hf with ⟨c30, hf⟩ | ⟨c30, hf⟩
                          · refine J_if_ne (tgt := 381) dX9_does_246 (by decide) (fun w => absurd c30 w) (fun _ => ?_)
                            refine J_aload_n dX9_does_249 rfl rfl ?_
                            refine J_iload_n dX9_does_250 rfl rfl ?_
                            refine J_iload_n dX9_does_251 rfl rfl ?_
                            obtain ⟨k31, hf⟩ := gds hf
                            obtain ⟨zo32, ho32h, ho32, hf⟩ := rfs2 hf
                            refine CV2v dX9_does_252 (mX9_lets hst ho32) tk_1119 iX9_lets k31 (by decide) rfl ⟨by decide, by decide⟩ ⟨by decide, by decide⟩ (Nat.le_of_ble_eq_true rfl) ?_
                            refine J_goto (tgt := 381) dX9_does_255 (by decide) ?_
                            refine J.sub (jsub_n (jsub_n (jsub_n (jsub_n (jsub_s (jsub_n (jsub_n (jsub_nil _)))))))) ?_
                            exact wbX9_does_381 hst   hf
                          · refine J_if_ne (tgt := 381) dX9_does_246 (by decide) (fun _ => ?_) (fun w => absurd w c30)
                            refine J.sub (jsub_n (jsub_n (jsub_n (jsub_n (jsub_s (jsub_n (jsub_n (jsub_nil _)))))))) ?_
                            exact wbX9_does_381 hst   hf
                        · skip
                          rcases br hf with ⟨c33, hf⟩ | ⟨c33, hf⟩
                          · refine J_tableC (off := 336) (tgt := 340) c33 dX9_does_4 (by decide) (by decide) (by decide) (by decide) ?_
                            refine J.sub (jsub_s (jsub_n (jsub_s (jsub_n (jsub_n (jsub_n (jsub_n (jsub_nil _)))))))) ?_
                            exact wbX9_does_340 hst   hf
                          · skip
                            rcases br hf with ⟨c34, hf⟩ | ⟨c34, hf⟩
                            · refine J_tableC (off := 336) (tgt := 340) c34 dX9_does_4 (by decide) (by decide) (by decide) (by decide) ?_
                              refine J.sub (jsub_s (jsub_n (jsub_s (jsub_n (jsub_n (jsub_n (jsub_n (jsub_nil _)))))))) ?_
                              exact wbX9_does_340 hst   hf
                            · skip
                              rcases br hf with ⟨c35, hf⟩ | ⟨c35, hf⟩
                              · refine J_tableC (off := 336) (tgt := 340) c35 dX9_does_4 (by decide) (by decide) (by decide) (by decide) ?_
                                refine J.sub (jsub_s (jsub_n (jsub_s (jsub_n (jsub_n (jsub_n (jsub_n (jsub_nil _)))))))) ?_
                                exact wbX9_does_340 hst   hf
                              · skip
                                rcases br hf with ⟨c36, hf⟩ | ⟨c36, hf⟩
                                · refine J_tableC (off := 316) (tgt := 320) c36 dX9_does_4 (by decide) (by decide) (by decide) (by decide) ?_
                                  refine J_aload_n dX9_does_320 rfl rfl ?_
                                  refine J_iload_n dX9_does_321 rfl rfl ?_
                                  obtain ⟨k37, hf⟩ := gds hf
                                  obtain ⟨vo38, zo38, ho38h, ho38, hf⟩ := rfs3 hf
                                  refine CV1i dX9_does_322 (mX9_probeFault hst ho38) tk_1198 iX9_probeFault k37 (by decide) rfl ⟨by decide, by decide⟩ ⟨by decide, by decide⟩ (Nat.le_of_ble_eq_true rfl) ?_
                                  refine S_istore_4 dX9_does_325 rfl (by decide) ?_
                                  refine J_iload dX9_does_327 rfl ?_
                                  rcases br hf with ⟨c39, hf⟩ | ⟨c39, hf⟩
                                  · refine J_if_ne (tgt := 381) dX9_does_329 (by decide) (fun w => absurd c39 w) (fun _ => ?_)
                                    refine J_aload_n dX9_does_332 rfl rfl ?_
                                    refine J_iload_n dX9_does_333 rfl rfl ?_
                                    obtain ⟨k40, hf⟩ := gds hf
                                    obtain ⟨zo41, ho41h, ho41, hf⟩ := rfs2 hf
                                    refine CV1v dX9_does_334 (mX9_starts hst ho41) tk_1202 iX9_starts k40 (by decide) rfl ⟨by decide, by decide⟩ ⟨by decide, by decide⟩ (Nat.le_of_ble_eq_true rfl) ?_
                                    refine J_goto (tgt := 381) dX9_does_337 (by decide) ?_
                                    refine J.sub (jsub_n (jsub_n (jsub_n (jsub_n (jsub_s (jsub_n (jsub_n (jsub_nil _)))))))) ?_
                                    exact wbX9_does_381 hst   hf
                                  · refine J_if_ne (tgt := 381) dX9_does_329 (by decide) (fun _ => ?_) (fun w => absurd w c39)
                                    refine J.sub (jsub_n (jsub_n (jsub_n (jsub_n (jsub_s (jsub_n (jsub_n (jsub_nil _)))))))) ?_
                                    exact wbX9_does_381 hst   hf
                                · skip
                                  rcases br hf with ⟨c42, hf⟩ | ⟨c42, hf⟩
                                  · refine J_tableC (off := 210) (tgt := 214) c42 dX9_does_4 (by decide) (by decide) (by decide) (by decide) ?_
                                    refine J_aload_n dX9_does_214 rfl rfl ?_
                                    refine J_iload_n dX9_does_215 rfl rfl ?_
                                    refine J_iload_n dX9_does_216 rfl rfl ?_
                                    obtain ⟨k43, hf⟩ := gds hf
                                    obtain ⟨vo44, zo44, ho44h, ho44, hf⟩ := rfs3 hf
                                    refine CV2i dX9_does_217 (mX9_requestFault hst ho44) tk_1047 iX9_requestFault k43 (by decide) rfl ⟨by decide, by decide⟩ ⟨by decide, by decide⟩ (Nat.le_of_ble_eq_true rfl) ?_
                                    refine S_istore_4 dX9_does_220 rfl (by decide) ?_
                                    refine J_iload dX9_does_222 rfl ?_
                                    rcases br hf with ⟨c45, hf⟩ | ⟨c45, hf⟩
                                    · refine J_if_ne (tgt := 381) dX9_does_224 (by decide) (fun w => absurd c45 w) (fun _ => ?_)
                                      refine J_aload_n dX9_does_227 rfl rfl ?_
                                      refine J_iload_n dX9_does_228 rfl rfl ?_
                                      refine J_iload_n dX9_does_229 rfl rfl ?_
                                      obtain ⟨k46, hf⟩ := gds hf
                                      obtain ⟨zo47, ho47h, ho47, hf⟩ := rfs2 hf
                                      refine CV2v dX9_does_230 (mX9_asks hst ho47) tk_1055 iX9_asks k46 (by decide) rfl ⟨by decide, by decide⟩ ⟨by decide, by decide⟩ (Nat.le_of_ble_eq_true rfl) ?_
                                      refine J_goto (tgt := 381) dX9_does_233 (by decide) ?_
                                      refine J.sub (jsub_n (jsub_n (jsub_n (jsub_n (jsub_s (jsub_n (jsub_n (jsub_nil _)))))))) ?_
                                      exact wbX9_does_381 hst   hf
                                    · refine J_if_ne (tgt := 381) dX9_does_224 (by decide) (fun _ => ?_) (fun w => absurd w c45)
                                      refine J.sub (jsub_n (jsub_n (jsub_n (jsub_n (jsub_s (jsub_n (jsub_n (jsub_nil _)))))))) ?_
                                      exact wbX9_does_381 hst   hf
                                  · skip
                                    rcases br hf with ⟨c48, hf⟩ | ⟨c48, hf⟩
                                    · refine J_tableC (off := 336) (tgt := 340) c48 dX9_does_4 (by decide) (by decide) (by decide) (by decide) ?_
                                      refine J.sub (jsub_s (jsub_n (jsub_s (jsub_n (jsub_n (jsub_n (jsub_n (jsub_nil _)))))))) ?_
                                      exact wbX9_does_340 hst   hf
                                    · skip
                                      rcases br hf with ⟨c49, hf⟩ | ⟨c49, hf⟩
                                      · refine J_tableC (off := 336) (tgt := 340) c49 dX9_does_4 (by decide) (by decide) (by decide) (by decide) ?_
                                        refine J.sub (jsub_s (jsub_n (jsub_s (jsub_n (jsub_n (jsub_n (jsub_n (jsub_nil _)))))))) ?_
                                        exact wbX9_does_340 hst   hf
                                      · skip
                                        rcases br hf with ⟨c50, hf⟩ | ⟨c50, hf⟩
                                        · refine J_tableC (off := 96) (tgt := 100) c50 dX9_does_4 (by decide) (by decide) (by decide) (by decide) ?_
                                          refine J_iconst (v := 0) dX9_does_100 (by decide) ?_
                                          refine S_istore_5 dX9_does_101 rfl (by decide) ?_
                                          refine J.sub (jsub_s (jsub_n (jsub_s (jsub_n (jsub_n (jsub_s (jsub_n (jsub_nil _)))))))) ?_
                                          exact wlX9_does_103 hst   _ _ _ _ _ _ _ hf
                                        · skip
                                          have tc1 := tn (i := 97) c1 (by decide)
                                          have tc7 := tn (i := 98) c7 (by decide)
                                          have tc13 := tn (i := 99) c13 (by decide)
                                          have tc14 := tn (i := 100) c14 (by decide)
                                          have tc15 := tn (i := 101) c15 (by decide)
                                          have tc16 := tn (i := 102) c16 (by decide)
                                          have tc22 := tn (i := 103) c22 (by decide)
                                          have tc23 := tn (i := 104) c23 (by decide)
                                          have tc24 := tn (i := 105) c24 (by decide)
                                          have tc25 := tn (i := 106) c25 (by decide)
                                          have tc26 := tn (i := 107) c26 (by decide)
                                          have tc27 := tn (i := 108) c27 (by decide)
                                          have tc33 := tn (i := 109) c33 (by decide)
                                          have tc34 := tn (i := 110) c34 (by decide)
                                          have tc35 := tn (i := 111) c35 (by decide)
                                          have tc36 := tn (i := 112) c36 (by decide)
                                          have tc42 := tn (i := 113) c42 (by decide)
                                          have tc48 := tn (i := 114) c48 (by decide)
                                          have tc49 := tn (i := 115) c49 (by decide)
                                          have tc50 := tn (i := 116) c50 (by decide)
                                          refine J_tableOut (tgt := 340) dX9_does_4 (by omega) (by decide) ?_
                                          refine J.sub (jsub_s (jsub_n (jsub_s (jsub_n (jsub_n (jsub_n (jsub_n (jsub_nil _)))))))) ?_
                                          exact wbX9_does_340 hst   hf
theorem mX9_does {g : JG} (hst : (jl g).stackTraces = false) {a0 : Nat} {x1 : Int32} {x2 : Int32} {x3 : Int32} {z : Nat} {h : AH} {o : Int32 × Nat × AH} (hf : fX9_does a0 x1 x2 x3 z h = some o) : jMet g yX9_does (wj yX9_does cX9_does 7 (some .boolean)) rmX9_does [.ref a0, .int x1, .int x2, .int x3] z h (some (.int o.1), o.2.1, o.2.2) :=
  jMet_mk (by decide) (Nat.le_of_ble_eq_true rfl) [some (.ref a0), some (.int x1), some (.int x2), some (.int x3), none, none, none] rfl (wfX9_does hst hf)
def bX9_run_89 (q37 : Nat → Int32 → Nat → AH → Option (Int32 × Nat × AH)) (a0 : Nat) (s0 : Int32) (s1 : Int32) (z : Nat) (h : AH) : Option (Int32 × Nat × AH) :=
  bl ((s0 + s1)) (fun v1 => q37 a0 v1 z h)
def bX9_run_88 (q37 : Nat → Int32 → Nat → AH → Option (Int32 × Nat × AH)) (a0 : Nat) (s0 : Int32) (z : Nat) (h : AH) : Option (Int32 × Nat × AH) :=
  bX9_run_89 q37 a0 s0 0 z h
def lX9_run_37B  (q37 : Nat → Int32 → Nat → AH → Option (Int32 × Nat × AH)) (a0 : Nat) (x1 : Int32) (z : Nat) (h : AH) : Option (Int32 × Nat × AH) :=
  gd (kd h a0 = 10) ((if (iv h a0 5) ≤ (iv h a0 16) then (bd2 (fX9_records a0 z h) (fun zo3 ho3h => some (x1, zo3, ho3h))) else (bd3 (fX9_here a0 (iv h a0 16) z h) (fun vo4 zo4 ho4h => gd (kd ho4h a0 = 10) (bd3 (fX9_readsCommand a0 vo4 zo4 ho4h) (fun vo6 zo6 ho6h => (if vo6 = 0 then (bX9_run_88 q37 a0 x1 zo6 ho6h) else (gd (kd ho6h a0 = 10) (bd3 (fX9_does a0 vo4 (iv ho6h a0 17) (iv ho6h a0 18) zo6 ho6h) (fun vo9 zo9 ho9h => (if vo9 = 0 then (bX9_run_88 q37 a0 x1 zo9 ho9h) else (bX9_run_89 q37 a0 x1 1 zo9 ho9h))))))))))))
def lX9_run_37  : Nat → Nat → Int32 → Nat → AH → Option (Int32 × Nat × AH)
  | 0 => fun _ _ _ _ => none
  | fuel + 1 => lX9_run_37B  (lX9_run_37  fuel)
def bX9_run_14  (a0 : Nat) (u0 : Nat) (s1 : Int32) (z : Nat) (h : AH) : Option (Int32 × Nat × AH) :=
  gd (kd h u0 = 10) (bl (wI h u0 6 s1) (fun h2 => gd (kd h2 a0 = 10) ((if (iv h2 a0 6) ≤ 0 then (bd2 (fX9_begins a0 z h2) (fun zo5 ho5h => gd (kd ho5h a0 = 10) (bl (wI ho5h a0 16 0) (fun h7 => lX9_run_37  fu a0 0 zo5 h7)))) else (some (0, z, h2))))))
def fX9_run  (a0 : Nat) (z : Nat) (h : AH) : Option (Int32 × Nat × AH) :=
  gd (kd h a0 = 10) (bd3 (fX9_faultOf a0 z h) (fun vo2 zo2 ho2h => (if vo2 = (-1) then (bX9_run_14  a0 a0 0 zo2 ho2h) else (bX9_run_14  a0 a0 1 zo2 ho2h))))
theorem wbX9_run_89 {g : JG} (hst : (jl g).stackTraces = false) (q37 : Nat → Int32 → Nat → AH → Option (Int32 × Nat × AH)) (hq37 : ∀ (a0 : Nat) (x1 : Int32) (z : Nat) (h : AH) (o : Int32 × Nat × AH), q37 a0 x1 z h = some o → J g MX9_run (jN g (some (.int o.1), o.2.1, o.2.2) rmX9_run.cells rmX9_run.slots) 37 [some (.ref a0), some (.int x1), none, none] [] z h 0 0) {a0 : Nat} {s0 : Int32} {s1 : Int32} {z : Nat} {h : AH} {o : Int32 × Nat × AH} (hf : bX9_run_89 q37 a0 s0 s1 z h = some o) : J g MX9_run (jN g (some (.int o.1), o.2.1, o.2.2) rmX9_run.cells rmX9_run.slots) 89 [some (.ref a0), none, none, none] [.int s1, .int s0] z h 0 0 := by
  unfold bX9_run_89 at hf
  refine J_iadd dX9_run_89 ?_
  obtain ⟨v1, ev1, hf⟩ := bls hf
  refine J_i ev1 ?_
  refine S_istore_n_1 dX9_run_90 rfl (by decide) ?_
  refine J_goto (tgt := 37) dX9_run_91 (by decide) ?_
  refine J.sub (jsub_s (jsub_s (jsub_n (jsub_n (jsub_nil _))))) ?_
  exact hq37 _ _ _ _ _ hf
theorem wbX9_run_88 {g : JG} (hst : (jl g).stackTraces = false) (q37 : Nat → Int32 → Nat → AH → Option (Int32 × Nat × AH)) (hq37 : ∀ (a0 : Nat) (x1 : Int32) (z : Nat) (h : AH) (o : Int32 × Nat × AH), q37 a0 x1 z h = some o → J g MX9_run (jN g (some (.int o.1), o.2.1, o.2.2) rmX9_run.cells rmX9_run.slots) 37 [some (.ref a0), some (.int x1), none, none] [] z h 0 0) {a0 : Nat} {s0 : Int32} {z : Nat} {h : AH} {o : Int32 × Nat × AH} (hf : bX9_run_88 q37 a0 s0 z h = some o) : J g MX9_run (jN g (some (.int o.1), o.2.1, o.2.2) rmX9_run.cells rmX9_run.slots) 88 [some (.ref a0), none, none, none] [.int s0] z h 0 0 := by
  unfold bX9_run_88 at hf
  refine J_iconst (v := 0) dX9_run_88 (by decide) ?_
  refine J.sub (jsub_s (jsub_n (jsub_n (jsub_n (jsub_nil _))))) ?_
  exact wbX9_run_89 hst _ hq37 hf
theorem wlX9_run_37 {g : JG} (hst : (jl g).stackTraces = false)   : ∀ (fuel : Nat) (a0 : Nat) (x1 : Int32) (z : Nat) (h : AH) (o : Int32 × Nat × AH), lX9_run_37  fuel a0 x1 z h = some o → J g MX9_run (jN g (some (.int o.1), o.2.1, o.2.2) rmX9_run.cells rmX9_run.slots) 37 [some (.ref a0), some (.int x1), none, none] [] z h 0 0 := by
  intro fuel
  induction fuel with
  | zero => intro a0 x1 z h o hf; cases hf
  | succ fuel ih =>
    intro a0 x1 z h o hf
    have hq37 := ih
    have hf : lX9_run_37B  (lX9_run_37  fuel) a0 x1 z h = some o := hf
    generalize lX9_run_37  fuel = q37 at hf hq37
    unfold lX9_run_37B at hf
    refine J_aload_n dX9_run_37 rfl rfl ?_
    obtain ⟨k1, hf⟩ := gds hf
    refine G_9_16 dX9_run_38 tk_935 k1 ?_
    refine J_aload_n dX9_run_41 rfl rfl ?_
    refine G_9_5 dX9_run_42 tk_924 k1 ?_
    rcases br hf with ⟨c2, hf⟩ | ⟨c2, hf⟩
    · refine J_icmp_ge (tgt := 94) dX9_run_45 (by decide) (fun _ => ?_) (fun w => absurd c2 w)
      refine J_aload_n dX9_run_94 rfl rfl ?_
      obtain ⟨zo3, ho3h, ho3, hf⟩ := rfs2 hf
      refine CV0v dX9_run_95 (mX9_records hst ho3) tk_1003 iX9_records k1 (by decide) rfl ⟨by decide, by decide⟩ ⟨by decide, by decide⟩ (Nat.le_of_ble_eq_true rfl) ?_
      refine J_iload_n dX9_run_98 rfl rfl ?_
      cases hf
      exact J_iretN dX9_run_99 rfl (by decide) (by decide)
    · refine J_icmp_ge (tgt := 94) dX9_run_45 (by decide) (fun w => absurd w c2) (fun _ => ?_)
      refine J_aload_n dX9_run_48 rfl rfl ?_
      refine J_aload_n dX9_run_49 rfl rfl ?_
      refine G_9_16 dX9_run_50 tk_935 k1 ?_
      obtain ⟨vo4, zo4, ho4h, ho4, hf⟩ := rfs3 hf
      refine CV1i dX9_run_53 (mX9_here hst ho4) tk_1318 iX9_here k1 (by decide) rfl ⟨by decide, by decide⟩ ⟨by decide, by decide⟩ (Nat.le_of_ble_eq_true rfl) ?_
      refine S_istore_n_2 dX9_run_56 rfl (by decide) ?_
      refine J_aload_n dX9_run_57 rfl rfl ?_
      refine J_iload_n dX9_run_58 rfl rfl ?_
      obtain ⟨k5, hf⟩ := gds hf
      obtain ⟨vo6, zo6, ho6h, ho6, hf⟩ := rfs3 hf
      refine CV1i dX9_run_59 (mX9_readsCommand hst ho6) tk_1325 iX9_readsCommand k5 (by decide) rfl ⟨by decide, by decide⟩ ⟨by decide, by decide⟩ (Nat.le_of_ble_eq_true rfl) ?_
      refine S_istore_n_3 dX9_run_62 rfl (by decide) ?_
      refine J_iload_n dX9_run_63 rfl rfl ?_
      refine J_iload_n dX9_run_64 rfl rfl ?_
      rcases br hf with ⟨c7, hf⟩ | ⟨c7, hf⟩
      · refine J_if_eq (tgt := 88) dX9_run_65 (by decide) (fun _ => ?_) (fun w => absurd c7 w)
        refine J.sub (jsub_s (jsub_n (jsub_n (jsub_n (jsub_nil _))))) ?_
        exact wbX9_run_88 hst _ hq37 hf
      · refine J_if_eq (tgt := 88) dX9_run_65 (by decide) (fun w => absurd w c7) (fun _ => ?_)
        refine J_aload_n dX9_run_68 rfl rfl ?_
        refine J_iload_n dX9_run_69 rfl rfl ?_
        refine J_aload_n dX9_run_70 rfl rfl ?_
        obtain ⟨k8, hf⟩ := gds hf
        refine G_9_17 dX9_run_71 tk_936 k8 ?_
        refine J_aload_n dX9_run_74 rfl rfl ?_
        refine G_9_18 dX9_run_75 tk_937 k8 ?_
        obtain ⟨vo9, zo9, ho9h, ho9, hf⟩ := rfs3 hf
        refine CV3i dX9_run_78 (mX9_does hst ho9) tk_1337 iX9_does k8 (by decide) rfl ⟨by decide, by decide⟩ ⟨by decide, by decide⟩ (Nat.le_of_ble_eq_true rfl) ?_
        rcases br hf with ⟨c10, hf⟩ | ⟨c10, hf⟩
        · refine J_if_eq (tgt := 88) dX9_run_81 (by decide) (fun _ => ?_) (fun w => absurd c10 w)
          refine J.sub (jsub_s (jsub_n (jsub_n (jsub_n (jsub_nil _))))) ?_
          exact wbX9_run_88 hst _ hq37 hf
        · refine J_if_eq (tgt := 88) dX9_run_81 (by decide) (fun w => absurd w c10) (fun _ => ?_)
          refine J_iconst (v := 1) dX9_run_84 (by decide) ?_
          refine J_goto (tgt := 89) dX9_run_85 (by decide) ?_
          refine J.sub (jsub_s (jsub_n (jsub_n (jsub_n (jsub_nil _))))) ?_
          exact wbX9_run_89 hst _ hq37 hf
theorem wbX9_run_14 {g : JG} (hst : (jl g).stackTraces = false)   {a0 : Nat} {u0 : Nat} {s1 : Int32} {z : Nat} {h : AH} {o : Int32 × Nat × AH} (hf : bX9_run_14  a0 u0 s1 z h = some o) : J g MX9_run (jN g (some (.int o.1), o.2.1, o.2.2) rmX9_run.cells rmX9_run.slots) 14 [some (.ref a0), none, none, none] [.int s1, .ref u0] z h 0 0 := by
  unfold bX9_run_14 at hf
  obtain ⟨k1, hf⟩ := gds hf
  refine P_9_6 dX9_run_14 tk_925 k1 ?_
  obtain ⟨h2, eh2, hf⟩ := bls hf
  refine J_h eh2 ?_
  refine J_aload_n dX9_run_17 rfl rfl ?_
  obtain ⟨k3, hf⟩ := gds hf
  refine G_9_6 dX9_run_18 tk_925 k3 ?_
  rcases br hf with ⟨c4, hf⟩ | ⟨c4, hf⟩
  · refine J_if_le (tgt := 26) dX9_run_21 (by decide) (fun _ => ?_) (fun w => absurd c4 w)
    refine J_aload_n dX9_run_26 rfl rfl ?_
    obtain ⟨zo5, ho5h, ho5, hf⟩ := rfs2 hf
    refine CV0v dX9_run_27 (mX9_begins hst ho5) tk_999 iX9_begins k3 (by decide) rfl ⟨by decide, by decide⟩ ⟨by decide, by decide⟩ (Nat.le_of_ble_eq_true rfl) ?_
    refine J_iconst (v := 0) dX9_run_30 (by decide) ?_
    refine S_istore_n_1 dX9_run_31 rfl (by decide) ?_
    refine J_aload_n dX9_run_32 rfl rfl ?_
    refine J_iconst (v := 0) dX9_run_33 (by decide) ?_
    obtain ⟨k6, hf⟩ := gds hf
    refine P_9_16 dX9_run_34 tk_935 k6 ?_
    obtain ⟨h7, eh7, hf⟩ := bls hf
    refine J_h eh7 ?_
    refine J.sub (jsub_s (jsub_s (jsub_n (jsub_n (jsub_nil _))))) ?_
    exact wlX9_run_37 hst   _ _ _ _ _ _ hf
  · refine J_if_le (tgt := 26) dX9_run_21 (by decide) (fun w => absurd w c4) (fun _ => ?_)
    refine J_iconst (v := 0) dX9_run_24 (by decide) ?_
    cases hf
    exact J_iretN dX9_run_25 rfl (by decide) (by decide)
theorem wfX9_run {g : JG} (hst : (jl g).stackTraces = false)   {a0 : Nat} {z : Nat} {h : AH} {o : Int32 × Nat × AH} (hf : fX9_run  a0 z h = some o) : J g MX9_run (jN g (some (.int o.1), o.2.1, o.2.2) rmX9_run.cells rmX9_run.slots) 0 [some (.ref a0), none, none, none] [] z h 0 0 := by
  unfold fX9_run at hf
  refine J_aload_n dX9_run_0 rfl rfl ?_
  refine J_aload_n dX9_run_1 rfl rfl ?_
  obtain ⟨k1, hf⟩ := gds hf
  obtain ⟨vo2, zo2, ho2h, ho2, hf⟩ := rfs3 hf
  refine CV0i dX9_run_2 (mX9_faultOf hst ho2) tk_1314 iX9_faultOf k1 (by decide) rfl ⟨by decide, by decide⟩ ⟨by decide, by decide⟩ (Nat.le_of_ble_eq_true rfl) ?_
  refine J_iconst (v := (-1)) dX9_run_5 (by decide) ?_
  rcases br hf with ⟨c3, hf⟩ | ⟨c3, hf⟩
  · refine J_icmp_eq (tgt := 13) dX9_run_6 (by decide) (fun _ => ?_) (fun w => absurd c3 w)
    refine J_iconst (v := 0) dX9_run_13 (by decide) ?_
    refine J.sub (jsub_s (jsub_n (jsub_n (jsub_n (jsub_nil _))))) ?_
    exact wbX9_run_14 hst   hf
  · refine J_icmp_eq (tgt := 13) dX9_run_6 (by decide) (fun w => absurd w c3) (fun _ => ?_)
    refine J_iconst (v := 1) dX9_run_9 (by decide) ?_
    refine J_goto (tgt := 14) dX9_run_10 (by decide) ?_
    refine J.sub (jsub_s (jsub_n (jsub_n (jsub_n (jsub_nil _))))) ?_
    exact wbX9_run_14 hst   hf
theorem mX9_run {g : JG} (hst : (jl g).stackTraces = false) {a0 : Nat} {z : Nat} {h : AH} {o : Int32 × Nat × AH} (hf : fX9_run a0 z h = some o) : jMet g yX9_run (wj yX9_run cX9_run 4 (some .int)) rmX9_run [.ref a0] z h (some (.int o.1), o.2.1, o.2.2) :=
  jMet_mk (by decide) (Nat.le_of_ble_eq_true rfl) [some (.ref a0), none, none, none] rfl (wfX9_run hst hf)
def lX9_undo_37B  (q37 : Nat → Int32 → Nat → AH → Option (Int32 × Nat × AH)) (a0 : Nat) (x1 : Int32) (z : Nat) (h : AH) : Option (Int32 × Nat × AH) :=
  (if 613 ≤ x1 then (gd (kd h a0 = 10) (some ((iv h a0 2), z, h))) else (gd (kd h a0 = 10) (Option.bind (rv h a0 0) (fun b4 => Option.bind (rv h a0 1) (fun b5 => gd (kd h b5 = 13) (gd (¬ ((((613 * (iv h a0 2)) + x1) : Int32) < 0 ∨ ln h b5 ≤ Int32.toNatClampNeg ((613 * (iv h a0 2)) + x1))) (gd (kd h b4 = 13) (gd (¬ ((x1 : Int32) < 0 ∨ ln h b4 ≤ Int32.toNatClampNeg x1)) (bl (wI h b4 (Int32.toNatClampNeg x1) (iv h b5 (Int32.toNatClampNeg ((613 * (iv h a0 2)) + x1)))) (fun h10 => q37 a0 (x1 + 1) z h10))))))))))
def lX9_undo_37  : Nat → Nat → Int32 → Nat → AH → Option (Int32 × Nat × AH)
  | 0 => fun _ _ _ _ => none
  | fuel + 1 => lX9_undo_37B  (lX9_undo_37  fuel)
def bX9_undo_13  (a0 : Nat) (u0 : Nat) (s1 : Int32) (z : Nat) (h : AH) : Option (Int32 × Nat × AH) :=
  gd (kd h u0 = 10) (bl (wI h u0 6 s1) (fun h2 => gd (kd h2 a0 = 10) ((if (iv h2 a0 6) ≤ 0 then (bl (wI h2 a0 2 ((iv h2 a0 2) - 1)) (fun h5 => lX9_undo_37  fu a0 0 z h5)) else (some (0, z, h2))))))
def fX9_undo  (a0 : Nat) (z : Nat) (h : AH) : Option (Int32 × Nat × AH) :=
  gd (kd h a0 = 10) ((if (iv h a0 2) = 0 then (bX9_undo_13  a0 a0 1 z h) else (bX9_undo_13  a0 a0 0 z h)))
theorem wlX9_undo_37 {g : JG} (hst : (jl g).stackTraces = false)   : ∀ (fuel : Nat) (a0 : Nat) (x1 : Int32) (z : Nat) (h : AH) (o : Int32 × Nat × AH), lX9_undo_37  fuel a0 x1 z h = some o → J g MX9_undo (jN g (some (.int o.1), o.2.1, o.2.2) rmX9_undo.cells rmX9_undo.slots) 37 [some (.ref a0), some (.int x1)] [] z h 0 0 := by
  intro fuel
  induction fuel with
  | zero => intro a0 x1 z h o hf; cases hf
  | succ fuel ih =>
    intro a0 x1 z h o hf
    have hq37 := ih
    have hf : lX9_undo_37B  (lX9_undo_37  fuel) a0 x1 z h = some o := hf
    generalize lX9_undo_37  fuel = q37 at hf hq37
    unfold lX9_undo_37B at hf
    refine J_iload_n dX9_undo_37 rfl rfl ?_
    refine J_sipush (v := 613) dX9_undo_38 (by decide) ?_
    rcases br hf with ⟨c1, hf⟩ | ⟨c1, hf⟩
    · refine J_icmp_ge (tgt := 71) dX9_undo_41 (by decide) (fun _ => ?_) (fun w => absurd c1 w)
      refine J_aload_n dX9_undo_71 rfl rfl ?_
      obtain ⟨k2, hf⟩ := gds hf
      refine G_9_2 dX9_undo_72 tk_921 k2 ?_
      cases hf
      exact J_iretN dX9_undo_75 rfl (by decide) (by decide)
    · refine J_icmp_ge (tgt := 71) dX9_undo_41 (by decide) (fun w => absurd w c1) (fun _ => ?_)
      refine J_aload_n dX9_undo_44 rfl rfl ?_
      obtain ⟨k3, hf⟩ := gds hf
      obtain ⟨b4, rb4, hf⟩ := rfs hf
      refine G_9_0 dX9_undo_45 tk_919 k3 rb4 ?_
      refine J_iload_n dX9_undo_48 rfl rfl ?_
      refine J_aload_n dX9_undo_49 rfl rfl ?_
      obtain ⟨b5, rb5, hf⟩ := rfs hf
      refine G_9_1 dX9_undo_50 tk_920 k3 rb5 ?_
      refine J_sipush (v := 613) dX9_undo_53 (by decide) ?_
      refine J_aload_n dX9_undo_56 rfl rfl ?_
      refine G_9_2 dX9_undo_57 tk_921 k3 ?_
      refine J_imul dX9_undo_60 ?_
      refine J_iload_n dX9_undo_61 rfl rfl ?_
      refine J_iadd dX9_undo_62 ?_
      obtain ⟨k6, hf⟩ := gds hf
      obtain ⟨n7, hf⟩ := gds hf
      refine J_iaload dX9_undo_63 k6 n7 ?_
      obtain ⟨k8, hf⟩ := gds hf
      obtain ⟨n9, hf⟩ := gds hf
      refine J_iastore dX9_undo_64 k8 n9 ?_
      obtain ⟨h10, eh10, hf⟩ := bls hf
      refine J_h eh10 ?_
      refine S_iinc_1 (v := x1 + 1) dX9_undo_65 (congrArg (fun w => x1 + w) (by decide)) rfl (by decide) ?_
      refine J_goto (tgt := 37) dX9_undo_68 (by decide) ?_
      refine J.sub (jsub_s (jsub_s (jsub_nil _))) ?_
      exact hq37 _ _ _ _ _ hf
theorem wbX9_undo_13 {g : JG} (hst : (jl g).stackTraces = false)   {a0 : Nat} {u0 : Nat} {s1 : Int32} {z : Nat} {h : AH} {o : Int32 × Nat × AH} (hf : bX9_undo_13  a0 u0 s1 z h = some o) : J g MX9_undo (jN g (some (.int o.1), o.2.1, o.2.2) rmX9_undo.cells rmX9_undo.slots) 13 [some (.ref a0), none] [.int s1, .ref u0] z h 0 0 := by
  unfold bX9_undo_13 at hf
  obtain ⟨k1, hf⟩ := gds hf
  refine P_9_6 dX9_undo_13 tk_925 k1 ?_
  obtain ⟨h2, eh2, hf⟩ := bls hf
  refine J_h eh2 ?_
  refine J_aload_n dX9_undo_16 rfl rfl ?_
  obtain ⟨k3, hf⟩ := gds hf
  refine G_9_6 dX9_undo_17 tk_925 k3 ?_
  rcases br hf with ⟨c4, hf⟩ | ⟨c4, hf⟩
  · refine J_if_le (tgt := 25) dX9_undo_20 (by decide) (fun _ => ?_) (fun w => absurd c4 w)
    refine J_aload_n dX9_undo_25 rfl rfl ?_
    refine J_dup dX9_undo_26 rfl ?_
    refine G_9_2 dX9_undo_27 tk_921 k3 ?_
    refine J_iconst (v := 1) dX9_undo_30 (by decide) ?_
    refine J_isub dX9_undo_31 ?_
    refine P_9_2 dX9_undo_32 tk_921 k3 ?_
    obtain ⟨h5, eh5, hf⟩ := bls hf
    refine J_h eh5 ?_
    refine J_iconst (v := 0) dX9_undo_35 (by decide) ?_
    refine S_istore_n_1 dX9_undo_36 rfl (by decide) ?_
    refine J.sub (jsub_s (jsub_s (jsub_nil _))) ?_
    exact wlX9_undo_37 hst   _ _ _ _ _ _ hf
  · refine J_if_le (tgt := 25) dX9_undo_20 (by decide) (fun w => absurd w c4) (fun _ => ?_)
    refine J_iconst (v := 0) dX9_undo_23 (by decide) ?_
    cases hf
    exact J_iretN dX9_undo_24 rfl (by decide) (by decide)
theorem wfX9_undo {g : JG} (hst : (jl g).stackTraces = false)   {a0 : Nat} {z : Nat} {h : AH} {o : Int32 × Nat × AH} (hf : fX9_undo  a0 z h = some o) : J g MX9_undo (jN g (some (.int o.1), o.2.1, o.2.2) rmX9_undo.cells rmX9_undo.slots) 0 [some (.ref a0), none] [] z h 0 0 := by
  unfold fX9_undo at hf
  refine J_aload_n dX9_undo_0 rfl rfl ?_
  refine J_aload_n dX9_undo_1 rfl rfl ?_
  obtain ⟨k1, hf⟩ := gds hf
  refine G_9_2 dX9_undo_2 tk_921 k1 ?_
  rcases br hf with ⟨c2, hf⟩ | ⟨c2, hf⟩
  · refine J_if_ne (tgt := 12) dX9_undo_5 (by decide) (fun w => absurd c2 w) (fun _ => ?_)
    refine J_iconst (v := 1) dX9_undo_8 (by decide) ?_
    refine J_goto (tgt := 13) dX9_undo_9 (by decide) ?_
    refine J.sub (jsub_s (jsub_n (jsub_nil _))) ?_
    exact wbX9_undo_13 hst   hf
  · refine J_if_ne (tgt := 12) dX9_undo_5 (by decide) (fun _ => ?_) (fun w => absurd w c2)
    refine J_iconst (v := 0) dX9_undo_12 (by decide) ?_
    refine J.sub (jsub_s (jsub_n (jsub_nil _))) ?_
    exact wbX9_undo_13 hst   hf
theorem mX9_undo {g : JG} (hst : (jl g).stackTraces = false) {a0 : Nat} {z : Nat} {h : AH} {o : Int32 × Nat × AH} (hf : fX9_undo a0 z h = some o) : jMet g yX9_undo (wj yX9_undo cX9_undo 2 (some .int)) rmX9_undo [.ref a0] z h (some (.int o.1), o.2.1, o.2.2) :=
  jMet_mk (by decide) (Nat.le_of_ble_eq_true rfl) [some (.ref a0), none] rfl (wfX9_undo hst hf)
def fX9_mixes  (a0 : Nat) (x1 : Int32) (z : Nat) (h : AH) : Option (Nat × AH) :=
  gd (kd h a0 = 10) (bl (wJ h a0 19 ((31 * (jv h a0 19)) + (Int32.toInt64 x1))) (fun h2 => some (z, h2)))
theorem wfX9_mixes {g : JG} (hst : (jl g).stackTraces = false)   {a0 : Nat} {x1 : Int32} {z : Nat} {h : AH} {o : Nat × AH} (hf : fX9_mixes  a0 x1 z h = some o) : J g MX9_mixes (jN g (none, o.1, o.2) rmX9_mixes.cells rmX9_mixes.slots) 0 [some (.ref a0), some (.int x1)] [] z h 0 0 := by
  unfold fX9_mixes at hf
  refine J_aload_n dX9_mixes_0 rfl rfl ?_
  refine J_ldc2 (v := 31) dX9_mixes_1 tk_1350 ?_
  refine J_aload_n dX9_mixes_4 rfl rfl ?_
  obtain ⟨k1, hf⟩ := gds hf
  refine G_9_19 dX9_mixes_5 tk_938 k1 ?_
  refine J_lmul dX9_mixes_8 ?_
  refine J_iload_n dX9_mixes_9 rfl rfl ?_
  refine J_i2l dX9_mixes_10 ?_
  refine J_ladd dX9_mixes_11 ?_
  refine P_9_19 dX9_mixes_12 tk_938 k1 ?_
  obtain ⟨h2, eh2, hf⟩ := bls hf
  refine J_h eh2 ?_
  cases hf
  exact J_vretN dX9_mixes_15 rfl (by decide) (by decide)
theorem mX9_mixes {g : JG} (hst : (jl g).stackTraces = false) {a0 : Nat} {x1 : Int32} {z : Nat} {h : AH} {o : Nat × AH} (hf : fX9_mixes a0 x1 z h = some o) : jMet g yX9_mixes (wj yX9_mixes cX9_mixes 2 none) rmX9_mixes [.ref a0, .int x1] z h (none, o.1, o.2) :=
  jMet_mk (by decide) (Nat.le_of_ble_eq_true rfl) [some (.ref a0), some (.int x1)] rfl (wfX9_mixes hst hf)
def lX9_checksum_165B (q152 : Nat → Int32 → Nat → AH → Option (Int64 × Nat × AH)) (q165 : Nat → Int32 → Int32 → Nat → AH → Option (Int64 × Nat × AH)) (a0 : Nat) (x1 : Int32) (x2 : Int32) (z : Nat) (h : AH) : Option (Int64 × Nat × AH) :=
  (if 5 ≤ x2 then (q152 a0 (x1 + 1) z h) else (gd (kd h a0 = 10) (bd3 (fX9_mail a0 x1 x2 z h) (fun vo3 zo3 ho3h => gd (kd ho3h a0 = 10) (bd2 (fX9_mixes a0 vo3 zo3 ho3h) (fun zo5 ho5h => q165 a0 x1 (x2 + 1) zo5 ho5h))))))
def lX9_checksum_165 (q152 : Nat → Int32 → Nat → AH → Option (Int64 × Nat × AH)) : Nat → Nat → Int32 → Int32 → Nat → AH → Option (Int64 × Nat × AH)
  | 0 => fun _ _ _ _ _ => none
  | fuel + 1 => lX9_checksum_165B q152 (lX9_checksum_165 q152 fuel)
def lX9_checksum_152B  (q152 : Nat → Int32 → Nat → AH → Option (Int64 × Nat × AH)) (a0 : Nat) (x1 : Int32) (z : Nat) (h : AH) : Option (Int64 × Nat × AH) :=
  gd (kd h a0 = 10) (Option.bind (rv h a0 0) (fun b2 => gd (kd h b2 = 13) (gd (¬ ((92 : Int32) < 0 ∨ ln h b2 ≤ Int32.toNatClampNeg 92)) ((if (iv h b2 (Int32.toNatClampNeg 92)) ≤ x1 then (bd3 (fX9_cyclic a0 1023 z h) (fun vo6 zo6 ho6h => gd (kd ho6h a0 = 10) (bd2 (fX9_mixes a0 vo6 zo6 ho6h) (fun zo8 ho8h => gd (kd ho8h a0 = 10) (bd3 (fX9_stuckTasks a0 zo8 ho8h) (fun vo10 zo10 ho10h => gd (kd ho10h a0 = 10) (bd2 (fX9_mixes a0 vo10 zo10 ho10h) (fun zo12 ho12h => gd (kd ho12h a0 = 10) (bd2 (fX9_mixes a0 (iv ho12h a0 5) zo12 ho12h) (fun zo14 ho14h => gd (kd ho14h a0 = 10) (bd2 (fX9_mixes a0 (iv ho14h a0 2) zo14 ho14h) (fun zo16 ho16h => gd (kd ho16h a0 = 10) (some ((jv ho16h a0 19), zo16, ho16h)))))))))))))) else (lX9_checksum_165 q152 fu a0 x1 0 z h))))))
def lX9_checksum_152  : Nat → Nat → Int32 → Nat → AH → Option (Int64 × Nat × AH)
  | 0 => fun _ _ _ _ => none
  | fuel + 1 => lX9_checksum_152B  (lX9_checksum_152  fuel)
def bX9_checksum_100 (q62 : Nat → Int32 → Nat → AH → Option (Int64 × Nat × AH)) (a0 : Nat) (x1 : Int32) (z : Nat) (h : AH) : Option (Int64 × Nat × AH) :=
  q62 a0 (x1 + 1) z h
def lX9_checksum_70B (q62 : Nat → Int32 → Nat → AH → Option (Int64 × Nat × AH)) (q70 : Nat → Int32 → Int32 → Nat → AH → Option (Int64 × Nat × AH)) (a0 : Nat) (x1 : Int32) (x2 : Int32) (z : Nat) (h : AH) : Option (Int64 × Nat × AH) :=
  (if 7 ≤ x2 then (bX9_checksum_100 q62 a0 x1 z h) else (gd (kd h a0 = 10) (bd3 (fX9_isTask a0 x1 z h) (fun vo3 zo3 ho3h => (if vo3 = 0 then (bX9_checksum_100 q62 a0 x1 zo3 ho3h) else (gd (kd ho3h a0 = 10) (bd3 (fX9_part a0 x1 x2 zo3 ho3h) (fun vo6 zo6 ho6h => gd (kd ho6h a0 = 10) (bd2 (fX9_mixes a0 vo6 zo6 ho6h) (fun zo8 ho8h => q70 a0 x1 (x2 + 1) zo8 ho8h))))))))))
def lX9_checksum_70 (q62 : Nat → Int32 → Nat → AH → Option (Int64 × Nat × AH)) : Nat → Nat → Int32 → Int32 → Nat → AH → Option (Int64 × Nat × AH)
  | 0 => fun _ _ _ _ _ => none
  | fuel + 1 => lX9_checksum_70B q62 (lX9_checksum_70 q62 fuel)
def lX9_checksum_62B  (q62 : Nat → Int32 → Nat → AH → Option (Int64 × Nat × AH)) (a0 : Nat) (x1 : Int32) (z : Nat) (h : AH) : Option (Int64 × Nat × AH) :=
  (if 10 ≤ x1 then (gd (kd h a0 = 10) (Option.bind (rv h a0 0) (fun b3 => gd (kd h b3 = 13) (gd (¬ ((17 : Int32) < 0 ∨ ln h b3 ≤ Int32.toNatClampNeg 17)) (bd2 (fX9_mixes a0 (iv h b3 (Int32.toNatClampNeg 17)) z h) (fun zo6 ho6h => gd (kd ho6h a0 = 10) (Option.bind (rv ho6h a0 0) (fun b8 => gd (kd ho6h b8 = 13) (gd (¬ ((18 : Int32) < 0 ∨ ln ho6h b8 ≤ Int32.toNatClampNeg 18)) (bd2 (fX9_mixes a0 (iv ho6h b8 (Int32.toNatClampNeg 18)) zo6 ho6h) (fun zo11 ho11h => gd (kd ho11h a0 = 10) (Option.bind (rv ho11h a0 0) (fun b13 => gd (kd ho11h b13 = 13) (gd (¬ ((19 : Int32) < 0 ∨ ln ho11h b13 ≤ Int32.toNatClampNeg 19)) (bd2 (fX9_mixes a0 (iv ho11h b13 (Int32.toNatClampNeg 19)) zo11 ho11h) (fun zo16 ho16h => gd (kd ho16h a0 = 10) (Option.bind (rv ho16h a0 0) (fun b18 => gd (kd ho16h b18 = 13) (gd (¬ ((92 : Int32) < 0 ∨ ln ho16h b18 ≤ Int32.toNatClampNeg 92)) (bd2 (fX9_mixes a0 (iv ho16h b18 (Int32.toNatClampNeg 92)) zo16 ho16h) (fun zo21 ho21h => lX9_checksum_152  fu a0 0 zo21 ho21h))))))))))))))))))))) else (lX9_checksum_70 q62 fu a0 x1 0 z h))
def lX9_checksum_62  : Nat → Nat → Int32 → Nat → AH → Option (Int64 × Nat × AH)
  | 0 => fun _ _ _ _ => none
  | fuel + 1 => lX9_checksum_62B  (lX9_checksum_62  fuel)
def lX9_checksum_24B  (q24 : Nat → Int32 → Nat → AH → Option (Int64 × Nat × AH)) (a0 : Nat) (x1 : Int32) (z : Nat) (h : AH) : Option (Int64 × Nat × AH) :=
  gd (kd h a0 = 10) (Option.bind (rv h a0 0) (fun b2 => gd (kd h b2 = 13) (gd (¬ ((0 : Int32) < 0 ∨ ln h b2 ≤ Int32.toNatClampNeg 0)) ((if (iv h b2 (Int32.toNatClampNeg 0)) ≤ x1 then (bd3 (fX9_all a0 z h) (fun vo6 zo6 ho6h => gd (kd ho6h a0 = 10) (bd2 (fX9_mixes a0 vo6 zo6 ho6h) (fun zo8 ho8h => lX9_checksum_62  fu a0 0 zo8 ho8h)))) else (Option.bind (rv h a0 0) (fun b9 => gd (kd h b9 = 13) (gd (¬ (((1 + x1) : Int32) < 0 ∨ ln h b9 ≤ Int32.toNatClampNeg (1 + x1))) (bd2 (fX9_mixes a0 (iv h b9 (Int32.toNatClampNeg (1 + x1))) z h) (fun zo12 ho12h => q24 a0 (x1 + 1) zo12 ho12h))))))))))
def lX9_checksum_24  : Nat → Nat → Int32 → Nat → AH → Option (Int64 × Nat × AH)
  | 0 => fun _ _ _ _ => none
  | fuel + 1 => lX9_checksum_24B  (lX9_checksum_24  fuel)
def fX9_checksum  (a0 : Nat) (z : Nat) (h : AH) : Option (Int64 × Nat × AH) :=
  gd (kd h a0 = 10) (bl (wI h a0 6 0) (fun h2 => bl (wJ h2 a0 19 18547) (fun h4 => Option.bind (rv h4 a0 0) (fun b6 => gd (kd h4 b6 = 13) (gd (¬ ((0 : Int32) < 0 ∨ ln h4 b6 ≤ Int32.toNatClampNeg 0)) (bd2 (fX9_mixes a0 (iv h4 b6 (Int32.toNatClampNeg 0)) z h4) (fun zo9 ho9h => lX9_checksum_24  fu a0 0 zo9 ho9h)))))))
theorem wlX9_checksum_165 {g : JG} (hst : (jl g).stackTraces = false) (q152 : Nat → Int32 → Nat → AH → Option (Int64 × Nat × AH)) (hq152 : ∀ (a0 : Nat) (x1 : Int32) (z : Nat) (h : AH) (o : Int64 × Nat × AH), q152 a0 x1 z h = some o → J g MX9_checksum (jN g (some (.long o.1), o.2.1, o.2.2) rmX9_checksum.cells rmX9_checksum.slots) 152 [some (.ref a0), some (.int x1), none] [] z h 0 0) : ∀ (fuel : Nat) (a0 : Nat) (x1 : Int32) (x2 : Int32) (z : Nat) (h : AH) (o : Int64 × Nat × AH), lX9_checksum_165 q152 fuel a0 x1 x2 z h = some o → J g MX9_checksum (jN g (some (.long o.1), o.2.1, o.2.2) rmX9_checksum.cells rmX9_checksum.slots) 165 [some (.ref a0), some (.int x1), some (.int x2)] [] z h 0 0 := by
  intro fuel
  induction fuel with
  | zero => intro a0 x1 x2 z h o hf; cases hf
  | succ fuel ih =>
    intro a0 x1 x2 z h o hf
    have hq165 := ih
    have hf : lX9_checksum_165B q152 (lX9_checksum_165 q152 fuel) a0 x1 x2 z h = some o := hf
    generalize lX9_checksum_165 q152 fuel = q165 at hf hq165
    unfold lX9_checksum_165B at hf
    refine J_iload_n dX9_checksum_165 rfl rfl ?_
    refine J_iconst (v := 5) dX9_checksum_166 (by decide) ?_
    rcases br hf with ⟨c1, hf⟩ | ⟨c1, hf⟩
    · refine J_icmp_ge (tgt := 186) dX9_checksum_167 (by decide) (fun _ => ?_) (fun w => absurd c1 w)
      refine S_iinc_1 (v := x1 + 1) dX9_checksum_186 (congrArg (fun w => x1 + w) (by decide)) rfl (by decide) ?_
      refine J_goto (tgt := 152) dX9_checksum_189 (by decide) ?_
      refine J.sub (jsub_s (jsub_s (jsub_n (jsub_nil _)))) ?_
      exact hq152 _ _ _ _ _ hf
    · refine J_icmp_ge (tgt := 186) dX9_checksum_167 (by decide) (fun w => absurd w c1) (fun _ => ?_)
      refine J_aload_n dX9_checksum_170 rfl rfl ?_
      refine J_aload_n dX9_checksum_171 rfl rfl ?_
      refine J_iload_n dX9_checksum_172 rfl rfl ?_
      refine J_iload_n dX9_checksum_173 rfl rfl ?_
      obtain ⟨k2, hf⟩ := gds hf
      obtain ⟨vo3, zo3, ho3h, ho3, hf⟩ := rfs3 hf
      refine CV2i dX9_checksum_174 (mX9_mail hst ho3) tk_1258 iX9_mail k2 (by decide) rfl ⟨by decide, by decide⟩ ⟨by decide, by decide⟩ (Nat.le_of_ble_eq_true rfl) ?_
      obtain ⟨k4, hf⟩ := gds hf
      obtain ⟨zo5, ho5h, ho5, hf⟩ := rfs2 hf
      refine CV1v dX9_checksum_177 (mX9_mixes hst ho5) tk_1346 iX9_mixes k4 (by decide) rfl ⟨by decide, by decide⟩ ⟨by decide, by decide⟩ (Nat.le_of_ble_eq_true rfl) ?_
      refine S_iinc_2 (v := x2 + 1) dX9_checksum_180 (congrArg (fun w => x2 + w) (by decide)) rfl (by decide) ?_
      refine J_goto (tgt := 165) dX9_checksum_183 (by decide) ?_
      refine J.sub (jsub_s (jsub_s (jsub_s (jsub_nil _)))) ?_
      exact hq165 _ _ _ _ _ _ hf
theorem wlX9_checksum_152 {g : JG} (hst : (jl g).stackTraces = false)   : ∀ (fuel : Nat) (a0 : Nat) (x1 : Int32) (z : Nat) (h : AH) (o : Int64 × Nat × AH), lX9_checksum_152  fuel a0 x1 z h = some o → J g MX9_checksum (jN g (some (.long o.1), o.2.1, o.2.2) rmX9_checksum.cells rmX9_checksum.slots) 152 [some (.ref a0), some (.int x1), none] [] z h 0 0 := by
  intro fuel
  induction fuel with
  | zero => intro a0 x1 z h o hf; cases hf
  | succ fuel ih =>
    intro a0 x1 z h o hf
    have hq152 := ih
    have hf : lX9_checksum_152B  (lX9_checksum_152  fuel) a0 x1 z h = some o := hf
    generalize lX9_checksum_152  fuel = q152 at hf hq152
    unfold lX9_checksum_152B at hf
    refine J_iload_n dX9_checksum_152 rfl rfl ?_
    refine J_aload_n dX9_checksum_153 rfl rfl ?_
    obtain ⟨k1, hf⟩ := gds hf
    obtain ⟨b2, rb2, hf⟩ := rfs hf
    refine G_9_0 dX9_checksum_154 tk_919 k1 rb2 ?_
    refine J_bipush (v := 92) dX9_checksum_157 (by decide) ?_
    obtain ⟨k3, hf⟩ := gds hf
    obtain ⟨n4, hf⟩ := gds hf
    refine J_iaload dX9_checksum_159 k3 n4 ?_
    rcases br hf with ⟨c5, hf⟩ | ⟨c5, hf⟩
    · refine J_icmp_ge (tgt := 192) dX9_checksum_160 (by decide) (fun _ => ?_) (fun w => absurd c5 w)
      refine J_aload_n dX9_checksum_192 rfl rfl ?_
      refine J_aload_n dX9_checksum_193 rfl rfl ?_
      refine J_sipush (v := 1023) dX9_checksum_194 (by decide) ?_
      obtain ⟨vo6, zo6, ho6h, ho6, hf⟩ := rfs3 hf
      refine CV1i dX9_checksum_197 (mX9_cyclic hst ho6) tk_1242 iX9_cyclic k1 (by decide) rfl ⟨by decide, by decide⟩ ⟨by decide, by decide⟩ (Nat.le_of_ble_eq_true rfl) ?_
      obtain ⟨k7, hf⟩ := gds hf
      obtain ⟨zo8, ho8h, ho8, hf⟩ := rfs2 hf
      refine CV1v dX9_checksum_200 (mX9_mixes hst ho8) tk_1346 iX9_mixes k7 (by decide) rfl ⟨by decide, by decide⟩ ⟨by decide, by decide⟩ (Nat.le_of_ble_eq_true rfl) ?_
      refine J_aload_n dX9_checksum_203 rfl rfl ?_
      refine J_aload_n dX9_checksum_204 rfl rfl ?_
      obtain ⟨k9, hf⟩ := gds hf
      obtain ⟨vo10, zo10, ho10h, ho10, hf⟩ := rfs3 hf
      refine CV0i dX9_checksum_205 (mX9_stuckTasks hst ho10) tk_1274 iX9_stuckTasks k9 (by decide) rfl ⟨by decide, by decide⟩ ⟨by decide, by decide⟩ (Nat.le_of_ble_eq_true rfl) ?_
      obtain ⟨k11, hf⟩ := gds hf
      obtain ⟨zo12, ho12h, ho12, hf⟩ := rfs2 hf
      refine CV1v dX9_checksum_208 (mX9_mixes hst ho12) tk_1346 iX9_mixes k11 (by decide) rfl ⟨by decide, by decide⟩ ⟨by decide, by decide⟩ (Nat.le_of_ble_eq_true rfl) ?_
      refine J_aload_n dX9_checksum_211 rfl rfl ?_
      refine J_aload_n dX9_checksum_212 rfl rfl ?_
      obtain ⟨k13, hf⟩ := gds hf
      refine G_9_5 dX9_checksum_213 tk_924 k13 ?_
      obtain ⟨zo14, ho14h, ho14, hf⟩ := rfs2 hf
      refine CV1v dX9_checksum_216 (mX9_mixes hst ho14) tk_1346 iX9_mixes k13 (by decide) rfl ⟨by decide, by decide⟩ ⟨by decide, by decide⟩ (Nat.le_of_ble_eq_true rfl) ?_
      refine J_aload_n dX9_checksum_219 rfl rfl ?_
      refine J_aload_n dX9_checksum_220 rfl rfl ?_
      obtain ⟨k15, hf⟩ := gds hf
      refine G_9_2 dX9_checksum_221 tk_921 k15 ?_
      obtain ⟨zo16, ho16h, ho16, hf⟩ := rfs2 hf
      refine CV1v dX9_checksum_224 (mX9_mixes hst ho16) tk_1346 iX9_mixes k15 (by decide) rfl ⟨by decide, by decide⟩ ⟨by decide, by decide⟩ (Nat.le_of_ble_eq_true rfl) ?_
      refine J_aload_n dX9_checksum_227 rfl rfl ?_
      obtain ⟨k17, hf⟩ := gds hf
      refine G_9_19 dX9_checksum_228 tk_938 k17 ?_
      cases hf
      exact J_lretN dX9_checksum_231 rfl (by decide) (by decide)
    · refine J_icmp_ge (tgt := 192) dX9_checksum_160 (by decide) (fun w => absurd w c5) (fun _ => ?_)
      refine J_iconst (v := 0) dX9_checksum_163 (by decide) ?_
      refine S_istore_n_2 dX9_checksum_164 rfl (by decide) ?_
      refine J.sub (jsub_s (jsub_s (jsub_s (jsub_nil _)))) ?_
      exact wlX9_checksum_165 hst _ hq152 _ _ _ _ _ _ _ hf
theorem wbX9_checksum_100 {g : JG} (hst : (jl g).stackTraces = false) (q62 : Nat → Int32 → Nat → AH → Option (Int64 × Nat × AH)) (hq62 : ∀ (a0 : Nat) (x1 : Int32) (z : Nat) (h : AH) (o : Int64 × Nat × AH), q62 a0 x1 z h = some o → J g MX9_checksum (jN g (some (.long o.1), o.2.1, o.2.2) rmX9_checksum.cells rmX9_checksum.slots) 62 [some (.ref a0), some (.int x1), none] [] z h 0 0) {a0 : Nat} {x1 : Int32} {z : Nat} {h : AH} {o : Int64 × Nat × AH} (hf : bX9_checksum_100 q62 a0 x1 z h = some o) : J g MX9_checksum (jN g (some (.long o.1), o.2.1, o.2.2) rmX9_checksum.cells rmX9_checksum.slots) 100 [some (.ref a0), some (.int x1), none] [] z h 0 0 := by
  unfold bX9_checksum_100 at hf
  refine S_iinc_1 (v := x1 + 1) dX9_checksum_100 (congrArg (fun w => x1 + w) (by decide)) rfl (by decide) ?_
  refine J_goto (tgt := 62) dX9_checksum_103 (by decide) ?_
  refine J.sub (jsub_s (jsub_s (jsub_n (jsub_nil _)))) ?_
  exact hq62 _ _ _ _ _ hf
theorem wlX9_checksum_70 {g : JG} (hst : (jl g).stackTraces = false) (q62 : Nat → Int32 → Nat → AH → Option (Int64 × Nat × AH)) (hq62 : ∀ (a0 : Nat) (x1 : Int32) (z : Nat) (h : AH) (o : Int64 × Nat × AH), q62 a0 x1 z h = some o → J g MX9_checksum (jN g (some (.long o.1), o.2.1, o.2.2) rmX9_checksum.cells rmX9_checksum.slots) 62 [some (.ref a0), some (.int x1), none] [] z h 0 0) : ∀ (fuel : Nat) (a0 : Nat) (x1 : Int32) (x2 : Int32) (z : Nat) (h : AH) (o : Int64 × Nat × AH), lX9_checksum_70 q62 fuel a0 x1 x2 z h = some o → J g MX9_checksum (jN g (some (.long o.1), o.2.1, o.2.2) rmX9_checksum.cells rmX9_checksum.slots) 70 [some (.ref a0), some (.int x1), some (.int x2)] [] z h 0 0 := by
  intro fuel
  induction fuel with
  | zero => intro a0 x1 x2 z h o hf; cases hf
  | succ fuel ih =>
    intro a0 x1 x2 z h o hf
    have hq70 := ih
    have hf : lX9_checksum_70B q62 (lX9_checksum_70 q62 fuel) a0 x1 x2 z h = some o := hf
    generalize lX9_checksum_70 q62 fuel = q70 at hf hq70
    unfold lX9_checksum_70B at hf
    refine J_iload_n dX9_checksum_70 rfl rfl ?_
    refine J_bipush (v := 7) dX9_checksum_71 (by decide) ?_
    rcases br hf with ⟨c1, hf⟩ | ⟨c1, hf⟩
    · refine J_icmp_ge (tgt := 100) dX9_checksum_73 (by decide) (fun _ => ?_) (fun w => absurd c1 w)
      refine J.sub (jsub_s (jsub_s (jsub_n (jsub_nil _)))) ?_
      exact wbX9_checksum_100 hst _ hq62 hf
    · refine J_icmp_ge (tgt := 100) dX9_checksum_73 (by decide) (fun w => absurd w c1) (fun _ => ?_)
      refine J_aload_n dX9_checksum_76 rfl rfl ?_
      refine J_iload_n dX9_checksum_77 rfl rfl ?_
      obtain ⟨k2, hf⟩ := gds hf
      obtain ⟨vo3, zo3, ho3h, ho3, hf⟩ := rfs3 hf
      refine CV1i dX9_checksum_78 (mX9_isTask hst ho3) tk_1019 iX9_isTask k2 (by decide) rfl ⟨by decide, by decide⟩ ⟨by decide, by decide⟩ (Nat.le_of_ble_eq_true rfl) ?_
      rcases br hf with ⟨c4, hf⟩ | ⟨c4, hf⟩
      · refine J_if_eq (tgt := 100) dX9_checksum_81 (by decide) (fun _ => ?_) (fun w => absurd c4 w)
        refine J.sub (jsub_s (jsub_s (jsub_n (jsub_nil _)))) ?_
        exact wbX9_checksum_100 hst _ hq62 hf
      · refine J_if_eq (tgt := 100) dX9_checksum_81 (by decide) (fun w => absurd w c4) (fun _ => ?_)
        refine J_aload_n dX9_checksum_84 rfl rfl ?_
        refine J_aload_n dX9_checksum_85 rfl rfl ?_
        refine J_iload_n dX9_checksum_86 rfl rfl ?_
        refine J_iload_n dX9_checksum_87 rfl rfl ?_
        obtain ⟨k5, hf⟩ := gds hf
        obtain ⟨vo6, zo6, ho6h, ho6, hf⟩ := rfs3 hf
        refine CV2i dX9_checksum_88 (mX9_part hst ho6) tk_1170 iX9_part k5 (by decide) rfl ⟨by decide, by decide⟩ ⟨by decide, by decide⟩ (Nat.le_of_ble_eq_true rfl) ?_
        obtain ⟨k7, hf⟩ := gds hf
        obtain ⟨zo8, ho8h, ho8, hf⟩ := rfs2 hf
        refine CV1v dX9_checksum_91 (mX9_mixes hst ho8) tk_1346 iX9_mixes k7 (by decide) rfl ⟨by decide, by decide⟩ ⟨by decide, by decide⟩ (Nat.le_of_ble_eq_true rfl) ?_
        refine S_iinc_2 (v := x2 + 1) dX9_checksum_94 (congrArg (fun w => x2 + w) (by decide)) rfl (by decide) ?_
        refine J_goto (tgt := 70) dX9_checksum_97 (by decide) ?_
        refine J.sub (jsub_s (jsub_s (jsub_s (jsub_nil _)))) ?_
        exact hq70 _ _ _ _ _ _ hf
theorem wlX9_checksum_62 {g : JG} (hst : (jl g).stackTraces = false)   : ∀ (fuel : Nat) (a0 : Nat) (x1 : Int32) (z : Nat) (h : AH) (o : Int64 × Nat × AH), lX9_checksum_62  fuel a0 x1 z h = some o → J g MX9_checksum (jN g (some (.long o.1), o.2.1, o.2.2) rmX9_checksum.cells rmX9_checksum.slots) 62 [some (.ref a0), some (.int x1), none] [] z h 0 0 := by
  intro fuel
  induction fuel with
  | zero => intro a0 x1 z h o hf; cases hf
  | succ fuel ih =>
    intro a0 x1 z h o hf
    have hq62 := ih
    have hf : lX9_checksum_62B  (lX9_checksum_62  fuel) a0 x1 z h = some o := hf
    generalize lX9_checksum_62  fuel = q62 at hf hq62
    unfold lX9_checksum_62B at hf
    refine J_iload_n dX9_checksum_62 rfl rfl ?_
    refine J_bipush (v := 10) dX9_checksum_63 (by decide) ?_
    rcases br hf with ⟨c1, hf⟩ | ⟨c1, hf⟩
    · refine J_icmp_ge (tgt := 106) dX9_checksum_65 (by decide) (fun _ => ?_) (fun w => absurd c1 w)
      refine J_aload_n dX9_checksum_106 rfl rfl ?_
      refine J_aload_n dX9_checksum_107 rfl rfl ?_
      obtain ⟨k2, hf⟩ := gds hf
      obtain ⟨b3, rb3, hf⟩ := rfs hf
      refine G_9_0 dX9_checksum_108 tk_919 k2 rb3 ?_
      refine J_bipush (v := 17) dX9_checksum_111 (by decide) ?_
      obtain ⟨k4, hf⟩ := gds hf
      obtain ⟨n5, hf⟩ := gds hf
      refine J_iaload dX9_checksum_113 k4 n5 ?_
      obtain ⟨zo6, ho6h, ho6, hf⟩ := rfs2 hf
      refine CV1v dX9_checksum_114 (mX9_mixes hst ho6) tk_1346 iX9_mixes k2 (by decide) rfl ⟨by decide, by decide⟩ ⟨by decide, by decide⟩ (Nat.le_of_ble_eq_true rfl) ?_
      refine J_aload_n dX9_checksum_117 rfl rfl ?_
      refine J_aload_n dX9_checksum_118 rfl rfl ?_
      obtain ⟨k7, hf⟩ := gds hf
      obtain ⟨b8, rb8, hf⟩ := rfs hf
      refine G_9_0 dX9_checksum_119 tk_919 k7 rb8 ?_
      refine J_bipush (v := 18) dX9_checksum_122 (by decide) ?_
      obtain ⟨k9, hf⟩ := gds hf
      obtain ⟨n10, hf⟩ := gds hf
      refine J_iaload dX9_checksum_124 k9 n10 ?_
      obtain ⟨zo11, ho11h, ho11, hf⟩ := rfs2 hf
      refine CV1v dX9_checksum_125 (mX9_mixes hst ho11) tk_1346 iX9_mixes k7 (by decide) rfl ⟨by decide, by decide⟩ ⟨by decide, by decide⟩ (Nat.le_of_ble_eq_true rfl) ?_
      refine J_aload_n dX9_checksum_128 rfl rfl ?_
      refine J_aload_n dX9_checksum_129 rfl rfl ?_
      obtain ⟨k12, hf⟩ := gds hf
      obtain ⟨b13, rb13, hf⟩ := rfs hf
      refine G_9_0 dX9_checksum_130 tk_919 k12 rb13 ?_
      refine J_bipush (v := 19) dX9_checksum_133 (by decide) ?_
      obtain ⟨k14, hf⟩ := gds hf
      obtain ⟨n15, hf⟩ := gds hf
      refine J_iaload dX9_checksum_135 k14 n15 ?_
      obtain ⟨zo16, ho16h, ho16, hf⟩ := rfs2 hf
      refine CV1v dX9_checksum_136 (mX9_mixes hst ho16) tk_1346 iX9_mixes k12 (by decide) rfl ⟨by decide, by decide⟩ ⟨by decide, by decide⟩ (Nat.le_of_ble_eq_true rfl) ?_
      refine J_aload_n dX9_checksum_139 rfl rfl ?_
      refine J_aload_n dX9_checksum_140 rfl rfl ?_
      obtain ⟨k17, hf⟩ := gds hf
      obtain ⟨b18, rb18, hf⟩ := rfs hf
      refine G_9_0 dX9_checksum_141 tk_919 k17 rb18 ?_
      refine J_bipush (v := 92) dX9_checksum_144 (by decide) ?_
      obtain ⟨k19, hf⟩ := gds hf
      obtain ⟨n20, hf⟩ := gds hf
      refine J_iaload dX9_checksum_146 k19 n20 ?_
      obtain ⟨zo21, ho21h, ho21, hf⟩ := rfs2 hf
      refine CV1v dX9_checksum_147 (mX9_mixes hst ho21) tk_1346 iX9_mixes k17 (by decide) rfl ⟨by decide, by decide⟩ ⟨by decide, by decide⟩ (Nat.le_of_ble_eq_true rfl) ?_
      refine J_iconst (v := 0) dX9_checksum_150 (by decide) ?_
      refine S_istore_n_1 dX9_checksum_151 rfl (by decide) ?_
      refine J.sub (jsub_s (jsub_s (jsub_n (jsub_nil _)))) ?_
      exact wlX9_checksum_152 hst   _ _ _ _ _ _ hf
    · refine J_icmp_ge (tgt := 106) dX9_checksum_65 (by decide) (fun w => absurd w c1) (fun _ => ?_)
      refine J_iconst (v := 0) dX9_checksum_68 (by decide) ?_
      refine S_istore_n_2 dX9_checksum_69 rfl (by decide) ?_
      refine J.sub (jsub_s (jsub_s (jsub_s (jsub_nil _)))) ?_
      exact wlX9_checksum_70 hst _ hq62 _ _ _ _ _ _ _ hf
theorem wlX9_checksum_24 {g : JG} (hst : (jl g).stackTraces = false)   : ∀ (fuel : Nat) (a0 : Nat) (x1 : Int32) (z : Nat) (h : AH) (o : Int64 × Nat × AH), lX9_checksum_24  fuel a0 x1 z h = some o → J g MX9_checksum (jN g (some (.long o.1), o.2.1, o.2.2) rmX9_checksum.cells rmX9_checksum.slots) 24 [some (.ref a0), some (.int x1), none] [] z h 0 0 := by
  intro fuel
  induction fuel with
  | zero => intro a0 x1 z h o hf; cases hf
  | succ fuel ih =>
    intro a0 x1 z h o hf
    have hq24 := ih
    have hf : lX9_checksum_24B  (lX9_checksum_24  fuel) a0 x1 z h = some o := hf
    generalize lX9_checksum_24  fuel = q24 at hf hq24
    unfold lX9_checksum_24B at hf
    refine J_iload_n dX9_checksum_24 rfl rfl ?_
    refine J_aload_n dX9_checksum_25 rfl rfl ?_
    obtain ⟨k1, hf⟩ := gds hf
    obtain ⟨b2, rb2, hf⟩ := rfs hf
    refine G_9_0 dX9_checksum_26 tk_919 k1 rb2 ?_
    refine J_iconst (v := 0) dX9_checksum_29 (by decide) ?_
    obtain ⟨k3, hf⟩ := gds hf
    obtain ⟨n4, hf⟩ := gds hf
    refine J_iaload dX9_checksum_30 k3 n4 ?_
    rcases br hf with ⟨c5, hf⟩ | ⟨c5, hf⟩
    · refine J_icmp_ge (tgt := 52) dX9_checksum_31 (by decide) (fun _ => ?_) (fun w => absurd c5 w)
      refine J_aload_n dX9_checksum_52 rfl rfl ?_
      refine J_aload_n dX9_checksum_53 rfl rfl ?_
      obtain ⟨vo6, zo6, ho6h, ho6, hf⟩ := rfs3 hf
      refine CV0i dX9_checksum_54 (mX9_all hst ho6) tk_1162 iX9_all k1 (by decide) rfl ⟨by decide, by decide⟩ ⟨by decide, by decide⟩ (Nat.le_of_ble_eq_true rfl) ?_
      obtain ⟨k7, hf⟩ := gds hf
      obtain ⟨zo8, ho8h, ho8, hf⟩ := rfs2 hf
      refine CV1v dX9_checksum_57 (mX9_mixes hst ho8) tk_1346 iX9_mixes k7 (by decide) rfl ⟨by decide, by decide⟩ ⟨by decide, by decide⟩ (Nat.le_of_ble_eq_true rfl) ?_
      refine J_iconst (v := 0) dX9_checksum_60 (by decide) ?_
      refine S_istore_n_1 dX9_checksum_61 rfl (by decide) ?_
      refine J.sub (jsub_s (jsub_s (jsub_n (jsub_nil _)))) ?_
      exact wlX9_checksum_62 hst   _ _ _ _ _ _ hf
    · refine J_icmp_ge (tgt := 52) dX9_checksum_31 (by decide) (fun w => absurd w c5) (fun _ => ?_)
      refine J_aload_n dX9_checksum_34 rfl rfl ?_
      refine J_aload_n dX9_checksum_35 rfl rfl ?_
      obtain ⟨b9, rb9, hf⟩ := rfs hf
      refine G_9_0 dX9_checksum_36 tk_919 k1 rb9 ?_
      refine J_iconst (v := 1) dX9_checksum_39 (by decide) ?_
      refine J_iload_n dX9_checksum_40 rfl rfl ?_
      refine J_iadd dX9_checksum_41 ?_
      obtain ⟨k10, hf⟩ := gds hf
      obtain ⟨n11, hf⟩ := gds hf
      refine J_iaload dX9_checksum_42 k10 n11 ?_
      obtain ⟨zo12, ho12h, ho12, hf⟩ := rfs2 hf
      refine CV1v dX9_checksum_43 (mX9_mixes hst ho12) tk_1346 iX9_mixes k1 (by decide) rfl ⟨by decide, by decide⟩ ⟨by decide, by decide⟩ (Nat.le_of_ble_eq_true rfl) ?_
      refine S_iinc_1 (v := x1 + 1) dX9_checksum_46 (congrArg (fun w => x1 + w) (by decide)) rfl (by decide) ?_
      refine J_goto (tgt := 24) dX9_checksum_49 (by decide) ?_
      refine J.sub (jsub_s (jsub_s (jsub_n (jsub_nil _)))) ?_
      exact hq24 _ _ _ _ _ hf
theorem wfX9_checksum {g : JG} (hst : (jl g).stackTraces = false)   {a0 : Nat} {z : Nat} {h : AH} {o : Int64 × Nat × AH} (hf : fX9_checksum  a0 z h = some o) : J g MX9_checksum (jN g (some (.long o.1), o.2.1, o.2.2) rmX9_checksum.cells rmX9_checksum.slots) 0 [some (.ref a0), none, none] [] z h 0 0 := by
  unfold fX9_checksum at hf
  refine J_aload_n dX9_checksum_0 rfl rfl ?_
  refine J_iconst (v := 0) dX9_checksum_1 (by decide) ?_
  obtain ⟨k1, hf⟩ := gds hf
  refine P_9_6 dX9_checksum_2 tk_925 k1 ?_
  obtain ⟨h2, eh2, hf⟩ := bls hf
  refine J_h eh2 ?_
  refine J_aload_n dX9_checksum_5 rfl rfl ?_
  refine J_ldc2 (v := 18547) dX9_checksum_6 tk_1345 ?_
  have k3 : kd h2 a0 = 10 := by rw [eh2]; exact k1
  refine P_9_19 dX9_checksum_9 tk_938 k3 ?_
  obtain ⟨h4, eh4, hf⟩ := bls hf
  refine J_h eh4 ?_
  refine J_aload_n dX9_checksum_12 rfl rfl ?_
  refine J_aload_n dX9_checksum_13 rfl rfl ?_
  have k5 : kd h4 a0 = 10 := by rw [eh4]; exact k3
  obtain ⟨b6, rb6, hf⟩ := rfs hf
  refine G_9_0 dX9_checksum_14 tk_919 k5 rb6 ?_
  refine J_iconst (v := 0) dX9_checksum_17 (by decide) ?_
  obtain ⟨k7, hf⟩ := gds hf
  obtain ⟨n8, hf⟩ := gds hf
  refine J_iaload dX9_checksum_18 k7 n8 ?_
  obtain ⟨zo9, ho9h, ho9, hf⟩ := rfs2 hf
  refine CV1v dX9_checksum_19 (mX9_mixes hst ho9) tk_1346 iX9_mixes k5 (by decide) rfl ⟨by decide, by decide⟩ ⟨by decide, by decide⟩ (Nat.le_of_ble_eq_true rfl) ?_
  refine J_iconst (v := 0) dX9_checksum_22 (by decide) ?_
  refine S_istore_n_1 dX9_checksum_23 rfl (by decide) ?_
  refine J.sub (jsub_s (jsub_s (jsub_n (jsub_nil _)))) ?_
  exact wlX9_checksum_24 hst   _ _ _ _ _ _ hf
theorem mX9_checksum {g : JG} (hst : (jl g).stackTraces = false) {a0 : Nat} {z : Nat} {h : AH} {o : Int64 × Nat × AH} (hf : fX9_checksum a0 z h = some o) : jMet g yX9_checksum (wj yX9_checksum cX9_checksum 3 (some .long)) rmX9_checksum [.ref a0] z h (some (.long o.1), o.2.1, o.2.2) :=
  jMet_mk (by decide) (Nat.le_of_ble_eq_true rfl) [some (.ref a0), none, none] rfl (wfX9_checksum hst hf)
