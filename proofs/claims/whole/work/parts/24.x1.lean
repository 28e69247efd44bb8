/-! decompiled methods and their walks (printed by gen/gen.py) -/
def bX1_strikeAll_34 (q2 : Nat → Int32 → Int32 → Nat → AH → Option (Nat × AH)) (a0 : Nat) (x1 : Int32) (x2 : Int32) (z : Nat) (h : AH) : Option (Nat × AH) :=
  q2 a0 x1 (x2 + 1) z h
def lX1_strikeAll_2B  (q2 : Nat → Int32 → Int32 → Nat → AH → Option (Nat × AH)) (a0 : Nat) (x1 : Int32) (x2 : Int32) (z : Nat) (h : AH) : Option (Nat × AH) :=
  (if 10 ≤ x2 then (some (z, h)) else (bd3 (fX8_inSet x1 x2 z h) (fun vo2 zo2 ho2h => (if vo2 = 0 then (bX1_strikeAll_34 q2 a0 x1 x2 zo2 ho2h) else (gd (kd ho2h a0 = 2) (Option.bind (rv ho2h a0 0) (fun b5 => gd (kd ho2h b5 = 1) (bd2 (fX0_strike b5 x2 zo2 ho2h) (fun zo7 ho7h => gd (kd ho7h a0 = 2) (Option.bind (rv ho7h a0 1) (fun b9 => gd (kd ho7h b9 = 7) (bd2 (fX6_add b9 6 1 zo7 ho7h) (fun zo11 ho11h => bX1_strikeAll_34 q2 a0 x1 x2 zo11 ho11h)))))))))))))
def lX1_strikeAll_2  : Nat → Nat → Int32 → Int32 → Nat → AH → Option (Nat × AH)
  | 0 => fun _ _ _ _ _ => none
  | fuel + 1 => lX1_strikeAll_2B  (lX1_strikeAll_2  fuel)
def fX1_strikeAll  (a0 : Nat) (x1 : Int32) (z : Nat) (h : AH) : Option (Nat × AH) :=
  lX1_strikeAll_2  fu a0 x1 0 z h
theorem wbX1_strikeAll_34 {g : JG} (hst : (jl g).stackTraces = false) (q2 : Nat → Int32 → Int32 → Nat → AH → Option (Nat × AH)) (hq2 : ∀ (a0 : Nat) (x1 : Int32) (x2 : Int32) (z : Nat) (h : AH) (o : Nat × AH), q2 a0 x1 x2 z h = some o → J g MX1_strikeAll (jN g (none, o.1, o.2) rmX1_strikeAll.cells rmX1_strikeAll.slots) 2 [some (.ref a0), some (.int x1), some (.int x2)] [] z h 0 0) {a0 : Nat} {x1 : Int32} {x2 : Int32} {z : Nat} {h : AH} {o : Nat × AH} (hf : bX1_strikeAll_34 q2 a0 x1 x2 z h = some o) : J g MX1_strikeAll (jN g (none, o.1, o.2) rmX1_strikeAll.cells rmX1_strikeAll.slots) 34 [some (.ref a0), some (.int x1), some (.int x2)] [] z h 0 0 := by
  unfold bX1_strikeAll_34 at hf
  refine S_iinc_2 (v := x2 + 1) dX1_strikeAll_34 (congrArg (fun w => x2 + w) (by decide)) rfl (by decide) ?_
  refine J_goto (tgt := 2) dX1_strikeAll_37 (by decide) ?_
  refine J.sub (jsub_s (jsub_s (jsub_s (jsub_nil _)))) ?_
  exact hq2 _ _ _ _ _ _ hf
theorem wlX1_strikeAll_2 {g : JG} (hst : (jl g).stackTraces = false)   : ∀ (fuel : Nat) (a0 : Nat) (x1 : Int32) (x2 : Int32) (z : Nat) (h : AH) (o : Nat × AH), lX1_strikeAll_2  fuel a0 x1 x2 z h = some o → J g MX1_strikeAll (jN g (none, o.1, o.2) rmX1_strikeAll.cells rmX1_strikeAll.slots) 2 [some (.ref a0), some (.int x1), some (.int x2)] [] z h 0 0 := by
  intro fuel
  induction fuel with
  | zero => intro a0 x1 x2 z h o hf; cases hf
  | succ fuel ih =>
    intro a0 x1 x2 z h o hf
    have hq2 := ih
    have hf : lX1_strikeAll_2B  (lX1_strikeAll_2  fuel) a0 x1 x2 z h = some o := hf
    generalize lX1_strikeAll_2  fuel = q2 at hf hq2
    unfold lX1_strikeAll_2B at hf
    refine J_iload_n dX1_strikeAll_2 rfl rfl ?_
    refine J_bipush (v := 10) dX1_strikeAll_3 (by decide) ?_
    rcases br hf with ⟨c1, hf⟩ | ⟨c1, hf⟩
    · refine J_icmp_ge (tgt := 40) dX1_strikeAll_5 (by decide) (fun _ => ?_) (fun w => absurd c1 w)
      cases hf
      exact J_vretN dX1_strikeAll_40 rfl (by decide) (by decide)
    · refine J_icmp_ge (tgt := 40) dX1_strikeAll_5 (by decide) (fun w => absurd w c1) (fun _ => ?_)
      refine J_iload_n dX1_strikeAll_8 rfl rfl ?_
      refine J_iload_n dX1_strikeAll_9 rfl rfl ?_
      obtain ⟨vo2, zo2, ho2h, ho2, hf⟩ := rfs3 hf
      refine CSN2i dX1_strikeAll_10 (mX8_inSet hst ho2) tl_657 iX8_inSet ⟨by decide, by decide⟩ ⟨by decide, by decide⟩ (Nat.le_of_ble_eq_true rfl) ?_
      rcases br hf with ⟨c3, hf⟩ | ⟨c3, hf⟩
      · refine J_if_eq (tgt := 34) dX1_strikeAll_13 (by decide) (fun _ => ?_) (fun w => absurd c3 w)
        refine J.sub (jsub_s (jsub_s (jsub_s (jsub_nil _)))) ?_
        exact wbX1_strikeAll_34 hst _ hq2 hf
      · refine J_if_eq (tgt := 34) dX1_strikeAll_13 (by decide) (fun w => absurd w c3) (fun _ => ?_)
        refine J_aload_n dX1_strikeAll_16 rfl rfl ?_
        obtain ⟨k4, hf⟩ := gds hf
        obtain ⟨b5, rb5, hf⟩ := rfs hf
        refine G_1_0 dX1_strikeAll_17 tk_205 k4 rb5 ?_
        refine J_iload_n dX1_strikeAll_20 rfl rfl ?_
        obtain ⟨k6, hf⟩ := gds hf
        obtain ⟨zo7, ho7h, ho7, hf⟩ := rfs2 hf
        refine CV1v dX1_strikeAll_21 (mX0_strike hst ho7) tk_658 iX0_strike k6 (by decide) rfl ⟨by decide, by decide⟩ ⟨by decide, by decide⟩ (Nat.le_of_ble_eq_true rfl) ?_
        refine J_aload_n dX1_strikeAll_24 rfl rfl ?_
        obtain ⟨k8, hf⟩ := gds hf
        obtain ⟨b9, rb9, hf⟩ := rfs hf
        refine G_1_1 dX1_strikeAll_25 tk_206 k8 rb9 ?_
        refine J_bipush (v := 6) dX1_strikeAll_28 (by decide) ?_
        refine J_iconst (v := 1) dX1_strikeAll_30 (by decide) ?_
        obtain ⟨k10, hf⟩ := gds hf
        obtain ⟨zo11, ho11h, ho11, hf⟩ := rfs2 hf
        refine CV2v dX1_strikeAll_31 (mX6_add hst ho11) tk_666 iX6_add k10 (by decide) rfl ⟨by decide, by decide⟩ ⟨by decide, by decide⟩ (Nat.le_of_ble_eq_true rfl) ?_
        refine J.sub (jsub_s (jsub_s (jsub_s (jsub_nil _)))) ?_
        exact wbX1_strikeAll_34 hst _ hq2 hf
theorem wfX1_strikeAll {g : JG} (hst : (jl g).stackTraces = false)   {a0 : Nat} {x1 : Int32} {z : Nat} {h : AH} {o : Nat × AH} (hf : fX1_strikeAll  a0 x1 z h = some o) : J g MX1_strikeAll (jN g (none, o.1, o.2) rmX1_strikeAll.cells rmX1_strikeAll.slots) 0 [some (.ref a0), some (.int x1), none] [] z h 0 0 := by
  unfold fX1_strikeAll at hf
  refine J_iconst (v := 0) dX1_strikeAll_0 (by decide) ?_
  refine S_istore_n_2 dX1_strikeAll_1 rfl (by decide) ?_
  refine J.sub (jsub_s (jsub_s (jsub_s (jsub_nil _)))) ?_
  exact wlX1_strikeAll_2 hst   _ _ _ _ _ _ _ hf
theorem mX1_strikeAll {g : JG} (hst : (jl g).stackTraces = false) {a0 : Nat} {x1 : Int32} {z : Nat} {h : AH} {o : Nat × AH} (hf : fX1_strikeAll a0 x1 z h = some o) : jMet g yX1_strikeAll (wj yX1_strikeAll cX1_strikeAll 3 none) rmX1_strikeAll [.ref a0, .int x1] z h (none, o.1, o.2) :=
  jMet_mk (by decide) (Nat.le_of_ble_eq_true rfl) [some (.ref a0), some (.int x1), none] rfl (wfX1_strikeAll hst hf)
def fX1_kill  (a0 : Nat) (x1 : Int32) (z : Nat) (h : AH) : Option (Int32 × Nat × AH) :=
  gd (kd h a0 = 2) (Option.bind (rv h a0 0) (fun b2 => gd (kd h b2 = 1) (bd3 (fX0_heldBy b2 x1 z h) (fun vo4 zo4 ho4h => gd (kd ho4h a0 = 2) (bd2 (fX1_strikeAll a0 (1 <<< (x1 &&& 31)) zo4 ho4h) (fun zo6 ho6h => gd (kd ho6h a0 = 2) (Option.bind (rv ho6h a0 1) (fun b8 => Option.bind (rv ho6h a0 0) (fun b9 => gd (kd ho6h b9 = 1) (bd3 (fX0_settle b9 zo6 ho6h) (fun vo11 zo11 ho11h => gd (kd ho11h b8 = 7) (bd2 (fX6_add b8 7 vo11 zo11 ho11h) (fun zo13 ho13h => some (vo4, zo13, ho13h))))))))))))))
theorem wfX1_kill {g : JG} (hst : (jl g).stackTraces = false)   {a0 : Nat} {x1 : Int32} {z : Nat} {h : AH} {o : Int32 × Nat × AH} (hf : fX1_kill  a0 x1 z h = some o) : J g MX1_kill (jN g (some (.int o.1), o.2.1, o.2.2) rmX1_kill.cells rmX1_kill.slots) 0 [some (.ref a0), some (.int x1), none] [] z h 0 0 := by
  unfold fX1_kill at hf
  refine J_aload_n dX1_kill_0 rfl rfl ?_
  obtain ⟨k1, hf⟩ := gds hf
  obtain ⟨b2, rb2, hf⟩ := rfs hf
  refine G_1_0 dX1_kill_1 tk_205 k1 rb2 ?_
  refine J_iload_n dX1_kill_4 rfl rfl ?_
  obtain ⟨k3, hf⟩ := gds hf
  obtain ⟨vo4, zo4, ho4h, ho4, hf⟩ := rfs3 hf
  refine CV1i dX1_kill_5 (mX0_heldBy hst ho4) tk_697 iX0_heldBy k3 (by decide) rfl ⟨by decide, by decide⟩ ⟨by decide, by decide⟩ (Nat.le_of_ble_eq_true rfl) ?_
  refine S_istore_n_2 dX1_kill_8 rfl (by decide) ?_
  refine J_aload_n dX1_kill_9 rfl rfl ?_
  refine J_iconst (v := 1) dX1_kill_10 (by decide) ?_
  refine J_iload_n dX1_kill_11 rfl rfl ?_
  refine J_ishl dX1_kill_12 ?_
  obtain ⟨k5, hf⟩ := gds hf
  obtain ⟨zo6, ho6h, ho6, hf⟩ := rfs2 hf
  refine CV1v dX1_kill_13 (mX1_strikeAll hst ho6) tk_653 iX1_strikeAll k5 (by decide) rfl ⟨by decide, by decide⟩ ⟨by decide, by decide⟩ (Nat.le_of_ble_eq_true rfl) ?_
  refine J_aload_n dX1_kill_16 rfl rfl ?_
  obtain ⟨k7, hf⟩ := gds hf
  obtain ⟨b8, rb8, hf⟩ := rfs hf
  refine G_1_1 dX1_kill_17 tk_206 k7 rb8 ?_
  refine J_bipush (v := 7) dX1_kill_20 (by decide) ?_
  refine J_aload_n dX1_kill_22 rfl rfl ?_
  obtain ⟨b9, rb9, hf⟩ := rfs hf
  refine G_1_0 dX1_kill_23 tk_205 k7 rb9 ?_
  obtain ⟨k10, hf⟩ := gds hf
  obtain ⟨vo11, zo11, ho11h, ho11, hf⟩ := rfs3 hf
  refine CV0i dX1_kill_26 (mX0_settle hst ho11) tk_675 iX0_settle k10 (by decide) rfl ⟨by decide, by decide⟩ ⟨by decide, by decide⟩ (Nat.le_of_ble_eq_true rfl) ?_
  obtain ⟨k12, hf⟩ := gds hf
  obtain ⟨zo13, ho13h, ho13, hf⟩ := rfs2 hf
  refine CV2v dX1_kill_29 (mX6_add hst ho13) tk_666 iX6_add k12 (by decide) rfl ⟨by decide, by decide⟩ ⟨by decide, by decide⟩ (Nat.le_of_ble_eq_true rfl) ?_
  refine J_iload_n dX1_kill_32 rfl rfl ?_
  cases hf
  exact J_iretN dX1_kill_33 rfl (by decide) (by decide)
theorem mX1_kill {g : JG} (hst : (jl g).stackTraces = false) {a0 : Nat} {x1 : Int32} {z : Nat} {h : AH} {o : Int32 × Nat × AH} (hf : fX1_kill a0 x1 z h = some o) : jMet g yX1_kill (wj yX1_kill cX1_kill 3 (some .int)) rmX1_kill [.ref a0, .int x1] z h (some (.int o.1), o.2.1, o.2.2) :=
  jMet_mk (by decide) (Nat.le_of_ble_eq_true rfl) [some (.ref a0), some (.int x1), none] rfl (wfX1_kill hst hf)
def bX1_isRatherVictim_96  (a0 : Nat) (x1 : Int32) (x2 : Int32) (x3 : Int32) (z : Nat) (h : AH) : Option (Int32 × Nat × AH) :=
  (if x3 < 0 then (some (1, z, h)) else ((if x3 = 0 then (gd (kd h a0 = 2) (Option.bind (rv h a0 0) (fun b4 => gd (kd h b4 = 1) (Option.bind (rv h b4 3) (fun b6 => gd (kd h b6 = 13) (gd (¬ ((x1 : Int32) < 0 ∨ ln h b6 ≤ Int32.toNatClampNeg x1)) (Option.bind (rv h a0 0) (fun b9 => gd (kd h b9 = 1) (Option.bind (rv h b9 3) (fun b11 => gd (kd h b11 = 13) (gd (¬ ((x2 : Int32) < 0 ∨ ln h b11 ≤ Int32.toNatClampNeg x2)) ((if (iv h b6 (Int32.toNatClampNeg x1)) ≤ (iv h b11 (Int32.toNatClampNeg x2)) then (some (0, z, h)) else (some (1, z, h))))))))))))))) else (some (0, z, h)))))
def fX1_isRatherVictim  (a0 : Nat) (x1 : Int32) (x2 : Int32) (z : Nat) (h : AH) : Option (Int32 × Nat × AH) :=
  gd (kd h a0 = 2) (Option.bind (rv h a0 0) (fun b2 => gd (kd h b2 = 1) (bd3 (fX0_has b2 x1 z h) (fun vo4 zo4 ho4h => (if vo4 = 0 then (some (0, zo4, ho4h)) else (gd (kd ho4h a0 = 2) (Option.bind (rv ho4h a0 0) (fun b7 => gd (kd ho4h b7 = 1) (bd3 (fX0_has b7 x2 zo4 ho4h) (fun vo9 zo9 ho9h => (if vo9 = 0 then (some (0, zo9, ho9h)) else (gd (kd ho9h a0 = 2) (Option.bind (rv ho9h a0 0) (fun b12 => gd (kd ho9h b12 = 1) ((if (iv ho9h b12 11) = 0 then (Option.bind (rv ho9h a0 0) (fun b32 => gd (kd ho9h b32 = 1) (Option.bind (rv ho9h b32 2) (fun b34 => gd (kd ho9h b34 = 13) (gd (¬ ((x1 : Int32) < 0 ∨ ln ho9h b34 ≤ Int32.toNatClampNeg x1)) (Option.bind (rv ho9h a0 0) (fun b37 => gd (kd ho9h b37 = 1) (Option.bind (rv ho9h b37 2) (fun b39 => gd (kd ho9h b39 = 13) (gd (¬ ((x2 : Int32) < 0 ∨ ln ho9h b39 ≤ Int32.toNatClampNeg x2)) (bl (((iv ho9h b34 (Int32.toNatClampNeg x1)) - (iv ho9h b39 (Int32.toNatClampNeg x2)))) (fun v42 => bX1_isRatherVictim_96  a0 x1 x2 v42 zo9 ho9h)))))))))))) else (Option.bind (rv ho9h a0 0) (fun b15 => gd (kd ho9h b15 = 1) ((if (iv ho9h b15 11) = 2 then (Option.bind (rv ho9h a0 0) (fun b18 => gd (kd ho9h b18 = 1) (Option.bind (rv ho9h b18 5) (fun b20 => gd (kd ho9h b20 = 13) (gd (¬ ((x1 : Int32) < 0 ∨ ln ho9h b20 ≤ Int32.toNatClampNeg x1)) (bd3 (fJ6_bitCount_0f7a4 (iv ho9h b20 (Int32.toNatClampNeg x1)) zo9 ho9h) (fun vo23 zo23 ho23h => gd (kd ho23h a0 = 2) (Option.bind (rv ho23h a0 0) (fun b25 => gd (kd ho23h b25 = 1) (Option.bind (rv ho23h b25 5) (fun b27 => gd (kd ho23h b27 = 13) (gd (¬ ((x2 : Int32) < 0 ∨ ln ho23h b27 ≤ Int32.toNatClampNeg x2)) (bd3 (fJ6_bitCount_0f7a4 (iv ho23h b27 (Int32.toNatClampNeg x2)) zo23 ho23h) (fun vo30 zo30 ho30h => bl ((vo23 - vo30)) (fun v31 => bX1_isRatherVictim_96  a0 x1 x2 v31 zo30 ho30h))))))))))))))) else (bX1_isRatherVictim_96  a0 x1 x2 0 zo9 ho9h)))))))))))))))))))))
theorem wbX1_isRatherVictim_96 {g : JG} (hst : (jl g).stackTraces = false)   {a0 : Nat} {x1 : Int32} {x2 : Int32} {x3 : Int32} {z : Nat} {h : AH} {o : Int32 × Nat × AH} (hf : bX1_isRatherVictim_96  a0 x1 x2 x3 z h = some o) : J g MX1_isRatherVictim (jN g (some (.int o.1), o.2.1, o.2.2) rmX1_isRatherVictim.cells rmX1_isRatherVictim.slots) 96 [some (.ref a0), some (.int x1), some (.int x2), some (.int x3)] [] z h 0 0 := by
  unfold bX1_isRatherVictim_96 at hf
  refine J_iload_n dX1_isRatherVictim_96 rfl rfl ?_
  rcases br hf with ⟨c1, hf⟩ | ⟨c1, hf⟩
  · refine J_if_lt (tgt := 125) dX1_isRatherVictim_97 (by decide) (fun _ => ?_) (fun w => absurd c1 w)
    refine J_iconst (v := 1) dX1_isRatherVictim_125 (by decide) ?_
    refine J_goto (tgt := 130) dX1_isRatherVictim_126 (by decide) ?_
    cases hf
    exact J_zretN dX1_isRatherVictim_130 rfl (Or.inr rfl) (by decide) (by decide)
  · refine J_if_lt (tgt := 125) dX1_isRatherVictim_97 (by decide) (fun w => absurd w c1) (fun _ => ?_)
    refine J_iload_n dX1_isRatherVictim_100 rfl rfl ?_
    rcases br hf with ⟨c2, hf⟩ | ⟨c2, hf⟩
    · refine J_if_ne (tgt := 129) dX1_isRatherVictim_101 (by decide) (fun w => absurd c2 w) (fun _ => ?_)
      refine J_aload_n dX1_isRatherVictim_104 rfl rfl ?_
      obtain ⟨k3, hf⟩ := gds hf
      obtain ⟨b4, rb4, hf⟩ := rfs hf
      refine G_1_0 dX1_isRatherVictim_105 tk_205 k3 rb4 ?_
      obtain ⟨k5, hf⟩ := gds hf
      obtain ⟨b6, rb6, hf⟩ := rfs hf
      refine G_0_3 dX1_isRatherVictim_108 tk_101 k5 rb6 ?_
      refine J_iload_n dX1_isRatherVictim_111 rfl rfl ?_
      obtain ⟨k7, hf⟩ := gds hf
      obtain ⟨n8, hf⟩ := gds hf
      refine J_iaload dX1_isRatherVictim_112 k7 n8 ?_
      refine J_aload_n dX1_isRatherVictim_113 rfl rfl ?_
      obtain ⟨b9, rb9, hf⟩ := rfs hf
      refine G_1_0 dX1_isRatherVictim_114 tk_205 k3 rb9 ?_
      obtain ⟨k10, hf⟩ := gds hf
      obtain ⟨b11, rb11, hf⟩ := rfs hf
      refine G_0_3 dX1_isRatherVictim_117 tk_101 k10 rb11 ?_
      refine J_iload_n dX1_isRatherVictim_120 rfl rfl ?_
      obtain ⟨k12, hf⟩ := gds hf
      obtain ⟨n13, hf⟩ := gds hf
      refine J_iaload dX1_isRatherVictim_121 k12 n13 ?_
      rcases br hf with ⟨c14, hf⟩ | ⟨c14, hf⟩
      · refine J_icmp_le (tgt := 129) dX1_isRatherVictim_122 (by decide) (fun _ => ?_) (fun w => absurd c14 w)
        refine J_iconst (v := 0) dX1_isRatherVictim_129 (by decide) ?_
        cases hf
        exact J_zretN dX1_isRatherVictim_130 rfl (Or.inl rfl) (by decide) (by decide)
      · refine J_icmp_le (tgt := 129) dX1_isRatherVictim_122 (by decide) (fun w => absurd w c14) (fun _ => ?_)
        refine J_iconst (v := 1) dX1_isRatherVictim_125 (by decide) ?_
        refine J_goto (tgt := 130) dX1_isRatherVictim_126 (by decide) ?_
        cases hf
        exact J_zretN dX1_isRatherVictim_130 rfl (Or.inr rfl) (by decide) (by decide)
    · refine J_if_ne (tgt := 129) dX1_isRatherVictim_101 (by decide) (fun _ => ?_) (fun w => absurd w c2)
      refine J_iconst (v := 0) dX1_isRatherVictim_129 (by decide) ?_
      cases hf
      exact J_zretN dX1_isRatherVictim_130 rfl (Or.inl rfl) (by decide) (by decide)
theorem wfX1_isRatherVictim {g : JG} (hst : (jl g).stackTraces = false)   {a0 : Nat} {x1 : Int32} {x2 : Int32} {z : Nat} {h : AH} {o : Int32 × Nat × AH} (hf : fX1_isRatherVictim  a0 x1 x2 z h = some o) : J g MX1_isRatherVictim (jN g (some (.int o.1), o.2.1, o.2.2) rmX1_isRatherVictim.cells rmX1_isRatherVictim.slots) 0 [some (.ref a0), some (.int x1), some (.int x2), none] [] z h 0 0 := by
  unfold fX1_isRatherVictim at hf
  refine J_aload_n dX1_isRatherVictim_0 rfl rfl ?_
  obtain ⟨k1, hf⟩ := gds hf
  obtain ⟨b2, rb2, hf⟩ := rfs hf
  refine G_1_0 dX1_isRatherVictim_1 tk_205 k1 rb2 ?_
  refine J_iload_n dX1_isRatherVictim_4 rfl rfl ?_
  obtain ⟨k3, hf⟩ := gds hf
  obtain ⟨vo4, zo4, ho4h, ho4, hf⟩ := rfs3 hf
  refine CV1i dX1_isRatherVictim_5 (mX0_has hst ho4) tk_676 iX0_has k3 (by decide) rfl ⟨by decide, by decide⟩ ⟨by decide, by decide⟩ (Nat.le_of_ble_eq_true rfl) ?_
  rcases br hf with ⟨c5, hf⟩ | ⟨c5, hf⟩
  · refine J_if_eq (tgt := 22) dX1_isRatherVictim_8 (by decide) (fun _ => ?_) (fun w => absurd c5 w)
    refine J_iconst (v := 0) dX1_isRatherVictim_22 (by decide) ?_
    cases hf
    exact J_zretN dX1_isRatherVictim_23 rfl (Or.inl rfl) (by decide) (by decide)
  · refine J_if_eq (tgt := 22) dX1_isRatherVictim_8 (by decide) (fun w => absurd w c5) (fun _ => ?_)
    refine J_aload_n dX1_isRatherVictim_11 rfl rfl ?_
    obtain ⟨k6, hf⟩ := gds hf
    obtain ⟨b7, rb7, hf⟩ := rfs hf
    refine G_1_0 dX1_isRatherVictim_12 tk_205 k6 rb7 ?_
    refine J_iload_n dX1_isRatherVictim_15 rfl rfl ?_
    obtain ⟨k8, hf⟩ := gds hf
    obtain ⟨vo9, zo9, ho9h, ho9, hf⟩ := rfs3 hf
    refine CV1i dX1_isRatherVictim_16 (mX0_has hst ho9) tk_676 iX0_has k8 (by decide) rfl ⟨by decide, by decide⟩ ⟨by decide, by decide⟩ (Nat.le_of_ble_eq_true rfl) ?_
    rcases br hf with ⟨c10, hf⟩ | ⟨c10, hf⟩
    · refine J_if_ne (tgt := 24) dX1_isRatherVictim_19 (by decide) (fun w => absurd c10 w) (fun _ => ?_)
      refine J_iconst (v := 0) dX1_isRatherVictim_22 (by decide) ?_
      cases hf
      exact J_zretN dX1_isRatherVictim_23 rfl (Or.inl rfl) (by decide) (by decide)
    · refine J_if_ne (tgt := 24) dX1_isRatherVictim_19 (by decide) (fun _ => ?_) (fun w => absurd w c10)
      refine J_iconst (v := 0) dX1_isRatherVictim_24 (by decide) ?_
      refine S_istore_n_3 dX1_isRatherVictim_25 rfl (by decide) ?_
      refine J_aload_n dX1_isRatherVictim_26 rfl rfl ?_
      obtain ⟨k11, hf⟩ := gds hf
      obtain ⟨b12, rb12, hf⟩ := rfs hf
      refine G_1_0 dX1_isRatherVictim_27 tk_205 k11 rb12 ?_
      obtain ⟨k13, hf⟩ := gds hf
      refine G_0_11 dX1_isRatherVictim_30 tk_119 k13 ?_
      rcases br hf with ⟨c14, hf⟩ | ⟨c14, hf⟩
      · refine J_if_ne (tgt := 59) dX1_isRatherVictim_33 (by decide) (fun w => absurd c14 w) (fun _ => ?_)
        refine J_aload_n dX1_isRatherVictim_36 rfl rfl ?_
        obtain ⟨b32, rb32, hf⟩ := rfs hf
        refine G_1_0 dX1_isRatherVictim_37 tk_205 k11 rb32 ?_
        obtain ⟨k33, hf⟩ := gds hf
        obtain ⟨b34, rb34, hf⟩ := rfs hf
        refine G_0_2 dX1_isRatherVictim_40 tk_98 k33 rb34 ?_
        refine J_iload_n dX1_isRatherVictim_43 rfl rfl ?_
        obtain ⟨k35, hf⟩ := gds hf
        obtain ⟨n36, hf⟩ := gds hf
        refine J_iaload dX1_isRatherVictim_44 k35 n36 ?_
        refine J_aload_n dX1_isRatherVictim_45 rfl rfl ?_
        obtain ⟨b37, rb37, hf⟩ := rfs hf
        refine G_1_0 dX1_isRatherVictim_46 tk_205 k11 rb37 ?_
        obtain ⟨k38, hf⟩ := gds hf
        obtain ⟨b39, rb39, hf⟩ := rfs hf
        refine G_0_2 dX1_isRatherVictim_49 tk_98 k38 rb39 ?_
        refine J_iload_n dX1_isRatherVictim_52 rfl rfl ?_
        obtain ⟨k40, hf⟩ := gds hf
        obtain ⟨n41, hf⟩ := gds hf
        refine J_iaload dX1_isRatherVictim_53 k40 n41 ?_
        refine J_isub dX1_isRatherVictim_54 ?_
        obtain ⟨v42, ev42, hf⟩ := bls hf
        refine J_i ev42 ?_
        refine S_istore_n_3 dX1_isRatherVictim_55 rfl (by decide) ?_
        refine J_goto (tgt := 96) dX1_isRatherVictim_56 (by decide) ?_
        refine J.sub (jsub_s (jsub_s (jsub_s (jsub_s (jsub_nil _))))) ?_
        exact wbX1_isRatherVictim_96 hst   hf
      · refine J_if_ne (tgt := 59) dX1_isRatherVictim_33 (by decide) (fun _ => ?_) (fun w => absurd w c14)
        refine J_aload_n dX1_isRatherVictim_59 rfl rfl ?_
        obtain ⟨b15, rb15, hf⟩ := rfs hf
        refine G_1_0 dX1_isRatherVictim_60 tk_205 k11 rb15 ?_
        obtain ⟨k16, hf⟩ := gds hf
        refine G_0_11 dX1_isRatherVictim_63 tk_119 k16 ?_
        refine J_iconst (v := 2) dX1_isRatherVictim_66 (by decide) ?_
        rcases br hf with ⟨c17, hf⟩ | ⟨c17, hf⟩
        · refine J_icmp_ne (tgt := 96) dX1_isRatherVictim_67 (by decide) (fun w => absurd c17 w) (fun _ => ?_)
          refine J_aload_n dX1_isRatherVictim_70 rfl rfl ?_
          obtain ⟨b18, rb18, hf⟩ := rfs hf
          refine G_1_0 dX1_isRatherVictim_71 tk_205 k11 rb18 ?_
          obtain ⟨k19, hf⟩ := gds hf
          obtain ⟨b20, rb20, hf⟩ := rfs hf
          refine G_0_5 dX1_isRatherVictim_74 tk_107 k19 rb20 ?_
          refine J_iload_n dX1_isRatherVictim_77 rfl rfl ?_
          obtain ⟨k21, hf⟩ := gds hf
          obtain ⟨n22, hf⟩ := gds hf
          refine J_iaload dX1_isRatherVictim_78 k21 n22 ?_
          obtain ⟨vo23, zo23, ho23h, ho23, hf⟩ := rfs3 hf
          refine CS1i (host := "") dX1_isRatherVictim_79 (mJ6_bitCount_0f7a4 hst ho23) tk_833 iJ6_bitCount_0f7a4 ⟨by decide, by decide⟩ ⟨by decide, by decide⟩ (Nat.le_of_ble_eq_true rfl) ?_
          refine J_aload_n dX1_isRatherVictim_82 rfl rfl ?_
          obtain ⟨k24, hf⟩ := gds hf
          obtain ⟨b25, rb25, hf⟩ := rfs hf
          refine G_1_0 dX1_isRatherVictim_83 tk_205 k24 rb25 ?_
          obtain ⟨k26, hf⟩ := gds hf
          obtain ⟨b27, rb27, hf⟩ := rfs hf
          refine G_0_5 dX1_isRatherVictim_86 tk_107 k26 rb27 ?_
          refine J_iload_n dX1_isRatherVictim_89 rfl rfl ?_
          obtain ⟨k28, hf⟩ := gds hf
          obtain ⟨n29, hf⟩ := gds hf
          refine J_iaload dX1_isRatherVictim_90 k28 n29 ?_
          obtain ⟨vo30, zo30, ho30h, ho30, hf⟩ := rfs3 hf
          refine CS1i (host := "") dX1_isRatherVictim_91 (mJ6_bitCount_0f7a4 hst ho30) tk_833 iJ6_bitCount_0f7a4 ⟨by decide, by decide⟩ ⟨by decide, by decide⟩ (Nat.le_of_ble_eq_true rfl) ?_
          refine J_isub dX1_isRatherVictim_94 ?_
          obtain ⟨v31, ev31, hf⟩ := bls hf
          refine J_i ev31 ?_
          refine S_istore_n_3 dX1_isRatherVictim_95 rfl (by decide) ?_
          refine J.sub (jsub_s (jsub_s (jsub_s (jsub_s (jsub_nil _))))) ?_
          exact wbX1_isRatherVictim_96 hst   hf
        · refine J_icmp_ne (tgt := 96) dX1_isRatherVictim_67 (by decide) (fun _ => ?_) (fun w => absurd w c17)
          refine J.sub (jsub_s (jsub_s (jsub_s (jsub_s (jsub_nil _))))) ?_
          exact wbX1_isRatherVictim_96 hst   hf
theorem mX1_isRatherVictim {g : JG} (hst : (jl g).stackTraces = false) {a0 : Nat} {x1 : Int32} {x2 : Int32} {z : Nat} {h : AH} {o : Int32 × Nat × AH} (hf : fX1_isRatherVictim a0 x1 x2 z h = some o) : jMet g yX1_isRatherVictim (wj yX1_isRatherVictim cX1_isRatherVictim 4 (some .boolean)) rmX1_isRatherVictim [.ref a0, .int x1, .int x2] z h (some (.int o.1), o.2.1, o.2.2) :=
  jMet_mk (by decide) (Nat.le_of_ble_eq_true rfl) [some (.ref a0), some (.int x1), some (.int x2), none] rfl (wfX1_isRatherVictim hst hf)
def bX1_victimOf_34 (q4 : Nat → Int32 → Int32 → Int32 → Nat → AH → Option (Int32 × Nat × AH)) (a0 : Nat) (x1 : Int32) (x2 : Int32) (x3 : Int32) (z : Nat) (h : AH) : Option (Int32 × Nat × AH) :=
  q4 a0 x1 x2 (x3 + 1) z h
def bX1_victimOf_32 (q4 : Nat → Int32 → Int32 → Int32 → Nat → AH → Option (Int32 × Nat × AH)) (a0 : Nat) (x1 : Int32) (x3 : Int32) (z : Nat) (h : AH) : Option (Int32 × Nat × AH) :=
  bX1_victimOf_34 q4 a0 x1 x3 x3 z h
def lX1_victimOf_4B  (q4 : Nat → Int32 → Int32 → Int32 → Nat → AH → Option (Int32 × Nat × AH)) (a0 : Nat) (x1 : Int32) (x2 : Int32) (x3 : Int32) (z : Nat) (h : AH) : Option (Int32 × Nat × AH) :=
  (if 10 ≤ x3 then (some (x2, z, h)) else (bd3 (fX8_inSet x1 x3 z h) (fun vo2 zo2 ho2h => (if vo2 = 0 then (bX1_victimOf_34 q4 a0 x1 x2 x3 zo2 ho2h) else ((if x2 = (-1) then (bX1_victimOf_32 q4 a0 x1 x3 zo2 ho2h) else (gd (kd ho2h a0 = 2) (bd3 (fX1_isRatherVictim a0 x3 x2 zo2 ho2h) (fun vo6 zo6 ho6h => (if vo6 = 0 then (bX1_victimOf_34 q4 a0 x1 x2 x3 zo6 ho6h) else (bX1_victimOf_32 q4 a0 x1 x3 zo6 ho6h)))))))))))
def lX1_victimOf_4  : Nat → Nat → Int32 → Int32 → Int32 → Nat → AH → Option (Int32 × Nat × AH)
  | 0 => fun _ _ _ _ _ _ => none
  | fuel + 1 => lX1_victimOf_4B  (lX1_victimOf_4  fuel)
def fX1_victimOf  (a0 : Nat) (x1 : Int32) (z : Nat) (h : AH) : Option (Int32 × Nat × AH) :=
  lX1_victimOf_4  fu a0 x1 (-1) 0 z h
theorem wbX1_victimOf_34 {g : JG} (hst : (jl g).stackTraces = false) (q4 : Nat → Int32 → Int32 → Int32 → Nat → AH → Option (Int32 × Nat × AH)) (hq4 : ∀ (a0 : Nat) (x1 : Int32) (x2 : Int32) (x3 : Int32) (z : Nat) (h : AH) (o : Int32 × Nat × AH), q4 a0 x1 x2 x3 z h = some o → J g MX1_victimOf (jN g (some (.int o.1), o.2.1, o.2.2) rmX1_victimOf.cells rmX1_victimOf.slots) 4 [some (.ref a0), some (.int x1), some (.int x2), some (.int x3)] [] z h 0 0) {a0 : Nat} {x1 : Int32} {x2 : Int32} {x3 : Int32} {z : Nat} {h : AH} {o : Int32 × Nat × AH} (hf : bX1_victimOf_34 q4 a0 x1 x2 x3 z h = some o) : J g MX1_victimOf (jN g (some (.int o.1), o.2.1, o.2.2) rmX1_victimOf.cells rmX1_victimOf.slots) 34 [some (.ref a0), some (.int x1), some (.int x2), some (.int x3)] [] z h 0 0 := by
  unfold bX1_victimOf_34 at hf
  refine S_iinc_3 (v := x3 + 1) dX1_victimOf_34 (congrArg (fun w => x3 + w) (by decide)) rfl (by decide) ?_
  refine J_goto (tgt := 4) dX1_victimOf_37 (by decide) ?_
  refine J.sub (jsub_s (jsub_s (jsub_s (jsub_s (jsub_nil _))))) ?_
  exact hq4 _ _ _ _ _ _ _ hf
theorem wbX1_victimOf_32 {g : JG} (hst : (jl g).stackTraces = false) (q4 : Nat → Int32 → Int32 → Int32 → Nat → AH → Option (Int32 × Nat × AH)) (hq4 : ∀ (a0 : Nat) (x1 : Int32) (x2 : Int32) (x3 : Int32) (z : Nat) (h : AH) (o : Int32 × Nat × AH), q4 a0 x1 x2 x3 z h = some o → J g MX1_victimOf (jN g (some (.int o.1), o.2.1, o.2.2) rmX1_victimOf.cells rmX1_victimOf.slots) 4 [some (.ref a0), some (.int x1), some (.int x2), some (.int x3)] [] z h 0 0) {a0 : Nat} {x1 : Int32} {x3 : Int32} {z : Nat} {h : AH} {o : Int32 × Nat × AH} (hf : bX1_victimOf_32 q4 a0 x1 x3 z h = some o) : J g MX1_victimOf (jN g (some (.int o.1), o.2.1, o.2.2) rmX1_victimOf.cells rmX1_victimOf.slots) 32 [some (.ref a0), some (.int x1), none, some (.int x3)] [] z h 0 0 := by
  unfold bX1_victimOf_32 at hf
  refine J_iload_n dX1_victimOf_32 rfl rfl ?_
  refine S_istore_n_2 dX1_victimOf_33 rfl (by decide) ?_
  refine J.sub (jsub_s (jsub_s (jsub_s (jsub_s (jsub_nil _))))) ?_
  exact wbX1_victimOf_34 hst _ hq4 hf
theorem wlX1_victimOf_4 {g : JG} (hst : (jl g).stackTraces = false)   : ∀ (fuel : Nat) (a0 : Nat) (x1 : Int32) (x2 : Int32) (x3 : Int32) (z : Nat) (h : AH) (o : Int32 × Nat × AH), lX1_victimOf_4  fuel a0 x1 x2 x3 z h = some o → J g MX1_victimOf (jN g (some (.int o.1), o.2.1, o.2.2) rmX1_victimOf.cells rmX1_victimOf.slots) 4 [some (.ref a0), some (.int x1), some (.int x2), some (.int x3)] [] z h 0 0 := by
  intro fuel
  induction fuel with
  | zero => intro a0 x1 x2 x3 z h o hf; cases hf
  | succ fuel ih =>
    intro a0 x1 x2 x3 z h o hf
    have hq4 := ih
    have hf : lX1_victimOf_4B  (lX1_victimOf_4  fuel) a0 x1 x2 x3 z h = some o := hf
    generalize lX1_victimOf_4  fuel = q4 at hf hq4
    unfold lX1_victimOf_4B at hf
    refine J_iload_n dX1_victimOf_4 rfl rfl ?_
    refine J_bipush (v := 10) dX1_victimOf_5 (by decide) ?_
    rcases br hf with ⟨c1, hf⟩ | ⟨c1, hf⟩
    · refine J_icmp_ge (tgt := 40) dX1_victimOf_7 (by decide) (fun _ => ?_) (fun w => absurd c1 w)
      refine J_iload_n dX1_victimOf_40 rfl rfl ?_
      cases hf
      exact J_iretN dX1_victimOf_41 rfl (by decide) (by decide)
    · refine J_icmp_ge (tgt := 40) dX1_victimOf_7 (by decide) (fun w => absurd w c1) (fun _ => ?_)
      refine J_iload_n dX1_victimOf_10 rfl rfl ?_
      refine J_iload_n dX1_victimOf_11 rfl rfl ?_
      obtain ⟨vo2, zo2, ho2h, ho2, hf⟩ := rfs3 hf
      refine CSN2i dX1_victimOf_12 (mX8_inSet hst ho2) tl_657 iX8_inSet ⟨by decide, by decide⟩ ⟨by decide, by decide⟩ (Nat.le_of_ble_eq_true rfl) ?_
      rcases br hf with ⟨c3, hf⟩ | ⟨c3, hf⟩
      · refine J_if_eq (tgt := 34) dX1_victimOf_15 (by decide) (fun _ => ?_) (fun w => absurd c3 w)
        refine J.sub (jsub_s (jsub_s (jsub_s (jsub_s (jsub_nil _))))) ?_
        exact wbX1_victimOf_34 hst _ hq4 hf
      · refine J_if_eq (tgt := 34) dX1_victimOf_15 (by decide) (fun w => absurd w c3) (fun _ => ?_)
        refine J_iload_n dX1_victimOf_18 rfl rfl ?_
        refine J_iconst (v := (-1)) dX1_victimOf_19 (by decide) ?_
        rcases br hf with ⟨c4, hf⟩ | ⟨c4, hf⟩
        · refine J_icmp_eq (tgt := 32) dX1_victimOf_20 (by decide) (fun _ => ?_) (fun w => absurd c4 w)
          refine J.sub (jsub_s (jsub_s (jsub_n (jsub_s (jsub_nil _))))) ?_
          exact wbX1_victimOf_32 hst _ hq4 hf
        · refine J_icmp_eq (tgt := 32) dX1_victimOf_20 (by decide) (fun w => absurd w c4) (fun _ => ?_)
          refine J_aload_n dX1_victimOf_23 rfl rfl ?_
          refine J_iload_n dX1_victimOf_24 rfl rfl ?_
          refine J_iload_n dX1_victimOf_25 rfl rfl ?_
          obtain ⟨k5, hf⟩ := gds hf
          obtain ⟨vo6, zo6, ho6h, ho6, hf⟩ := rfs3 hf
          refine CV2i dX1_victimOf_26 (mX1_isRatherVictim hst ho6) tk_829 iX1_isRatherVictim k5 (by decide) rfl ⟨by decide, by decide⟩ ⟨by decide, by decide⟩ (Nat.le_of_ble_eq_true rfl) ?_
          rcases br hf with ⟨c7, hf⟩ | ⟨c7, hf⟩
          · refine J_if_eq (tgt := 34) dX1_victimOf_29 (by decide) (fun _ => ?_) (fun w => absurd c7 w)
            refine J.sub (jsub_s (jsub_s (jsub_s (jsub_s (jsub_nil _))))) ?_
            exact wbX1_victimOf_34 hst _ hq4 hf
          · refine J_if_eq (tgt := 34) dX1_victimOf_29 (by decide) (fun w => absurd w c7) (fun _ => ?_)
            refine J.sub (jsub_s (jsub_s (jsub_n (jsub_s (jsub_nil _))))) ?_
            exact wbX1_victimOf_32 hst _ hq4 hf
theorem wfX1_victimOf {g : JG} (hst : (jl g).stackTraces = false)   {a0 : Nat} {x1 : Int32} {z : Nat} {h : AH} {o : Int32 × Nat × AH} (hf : fX1_victimOf  a0 x1 z h = some o) : J g MX1_victimOf (jN g (some (.int o.1), o.2.1, o.2.2) rmX1_victimOf.cells rmX1_victimOf.slots) 0 [some (.ref a0), some (.int x1), none, none] [] z h 0 0 := by
  unfold fX1_victimOf at hf
  refine J_iconst (v := (-1)) dX1_victimOf_0 (by decide) ?_
  refine S_istore_n_2 dX1_victimOf_1 rfl (by decide) ?_
  refine J_iconst (v := 0) dX1_victimOf_2 (by decide) ?_
  refine S_istore_n_3 dX1_victimOf_3 rfl (by decide) ?_
  refine J.sub (jsub_s (jsub_s (jsub_s (jsub_s (jsub_nil _))))) ?_
  exact wlX1_victimOf_4 hst   _ _ _ _ _ _ _ _ hf
theorem mX1_victimOf {g : JG} (hst : (jl g).stackTraces = false) {a0 : Nat} {x1 : Int32} {z : Nat} {h : AH} {o : Int32 × Nat × AH} (hf : fX1_victimOf a0 x1 z h = some o) : jMet g yX1_victimOf (wj yX1_victimOf cX1_victimOf 4 (some .int)) rmX1_victimOf [.ref a0, .int x1] z h (some (.int o.1), o.2.1, o.2.2) :=
  jMet_mk (by decide) (Nat.le_of_ble_eq_true rfl) [some (.ref a0), some (.int x1), none, none] rfl (wfX1_victimOf hst hf)
def fX1_breakDeadlock  (a0 : Nat) (x1 : Int32) (x2 : Int32) (z : Nat) (h : AH) : Option (Nat × AH) :=
  gd (kd h a0 = 2) (bd3 (fX1_victimOf a0 x1 z h) (fun vo2 zo2 ho2h => gd (kd ho2h a0 = 2) (Option.bind (rv ho2h a0 1) (fun b4 => gd (kd ho2h b4 = 7) (bd2 (fX6_noteDeadlock b4 x1 vo2 x2 zo2 ho2h) (fun zo6 ho6h => gd (kd ho6h a0 = 2) (Option.bind (rv ho6h a0 0) (fun b8 => gd (kd ho6h b8 = 1) (bd2 (fX0_strike b8 vo2 zo6 ho6h) (fun zo10 ho10h => gd (kd ho10h a0 = 2) (Option.bind (rv ho10h a0 1) (fun b12 => gd (kd ho10h b12 = 7) (bd2 (fX6_add b12 6 1 zo10 ho10h) (fun zo14 ho14h => gd (kd ho14h a0 = 2) (Option.bind (rv ho14h a0 1) (fun b16 => Option.bind (rv ho14h a0 0) (fun b17 => gd (kd ho14h b17 = 1) (bd3 (fX0_settle b17 zo14 ho14h) (fun vo19 zo19 ho19h => gd (kd ho19h b16 = 7) (bd2 (fX6_add b16 7 vo19 zo19 ho19h) (fun zo21 ho21h => gd (kd ho21h a0 = 2) (Option.bind (rv ho21h a0 2) (fun b23 => Option.bind (rv ho21h a0 0) (fun b24 => gd (kd ho21h b23 = 8) (bd2 (fX7_read b23 b24 zo21 ho21h) (fun zo26 ho26h => some (zo26, ho26h)))))))))))))))))))))))))))
theorem wfX1_breakDeadlock {g : JG} (hst : (jl g).stackTraces = false)   {a0 : Nat} {x1 : Int32} {x2 : Int32} {z : Nat} {h : AH} {o : Nat × AH} (hf : fX1_breakDeadlock  a0 x1 x2 z h = some o) : J g MX1_breakDeadlock (jN g (none, o.1, o.2) rmX1_breakDeadlock.cells rmX1_breakDeadlock.slots) 0 [some (.ref a0), some (.int x1), some (.int x2), none] [] z h 0 0 := by
  unfold fX1_breakDeadlock at hf
  refine J_aload_n dX1_breakDeadlock_0 rfl rfl ?_
  refine J_iload_n dX1_breakDeadlock_1 rfl rfl ?_
  obtain ⟨k1, hf⟩ := gds hf
  obtain ⟨vo2, zo2, ho2h, ho2, hf⟩ := rfs3 hf
  refine CV1i dX1_breakDeadlock_2 (mX1_victimOf hst ho2) tk_825 iX1_victimOf k1 (by decide) rfl ⟨by decide, by decide⟩ ⟨by decide, by decide⟩ (Nat.le_of_ble_eq_true rfl) ?_
  refine S_istore_n_3 dX1_breakDeadlock_5 rfl (by decide) ?_
  refine J_aload_n dX1_breakDeadlock_6 rfl rfl ?_
  obtain ⟨k3, hf⟩ := gds hf
  obtain ⟨b4, rb4, hf⟩ := rfs hf
  refine G_1_1 dX1_breakDeadlock_7 tk_206 k3 rb4 ?_
  refine J_iload_n dX1_breakDeadlock_10 rfl rfl ?_
  refine J_iload_n dX1_breakDeadlock_11 rfl rfl ?_
  refine J_iload_n dX1_breakDeadlock_12 rfl rfl ?_
  obtain ⟨k5, hf⟩ := gds hf
  obtain ⟨zo6, ho6h, ho6, hf⟩ := rfs2 hf
  refine CV3v dX1_breakDeadlock_13 (mX6_noteDeadlock hst ho6) tk_834 iX6_noteDeadlock k5 (by decide) rfl ⟨by decide, by decide⟩ ⟨by decide, by decide⟩ (Nat.le_of_ble_eq_true rfl) ?_
  refine J_aload_n dX1_breakDeadlock_16 rfl rfl ?_
  obtain ⟨k7, hf⟩ := gds hf
  obtain ⟨b8, rb8, hf⟩ := rfs hf
  refine G_1_0 dX1_breakDeadlock_17 tk_205 k7 rb8 ?_
  refine J_iload_n dX1_breakDeadlock_20 rfl rfl ?_
  obtain ⟨k9, hf⟩ := gds hf
  obtain ⟨zo10, ho10h, ho10, hf⟩ := rfs2 hf
  refine CV1v dX1_breakDeadlock_21 (mX0_strike hst ho10) tk_658 iX0_strike k9 (by decide) rfl ⟨by decide, by decide⟩ ⟨by decide, by decide⟩ (Nat.le_of_ble_eq_true rfl) ?_
  refine J_aload_n dX1_breakDeadlock_24 rfl rfl ?_
  obtain ⟨k11, hf⟩ := gds hf
  obtain ⟨b12, rb12, hf⟩ := rfs hf
  refine G_1_1 dX1_breakDeadlock_25 tk_206 k11 rb12 ?_
  refine J_bipush (v := 6) dX1_breakDeadlock_28 (by decide) ?_
  refine J_iconst (v := 1) dX1_breakDeadlock_30 (by decide) ?_
  obtain ⟨k13, hf⟩ := gds hf
  obtain ⟨zo14, ho14h, ho14, hf⟩ := rfs2 hf
  refine CV2v dX1_breakDeadlock_31 (mX6_add hst ho14) tk_666 iX6_add k13 (by decide) rfl ⟨by decide, by decide⟩ ⟨by decide, by decide⟩ (Nat.le_of_ble_eq_true rfl) ?_
  refine J_aload_n dX1_breakDeadlock_34 rfl rfl ?_
  obtain ⟨k15, hf⟩ := gds hf
  obtain ⟨b16, rb16, hf⟩ := rfs hf
  refine G_1_1 dX1_breakDeadlock_35 tk_206 k15 rb16 ?_
  refine J_bipush (v := 7) dX1_breakDeadlock_38 (by decide) ?_
  refine J_aload_n dX1_breakDeadlock_40 rfl rfl ?_
  obtain ⟨b17, rb17, hf⟩ := rfs hf
  refine G_1_0 dX1_breakDeadlock_41 tk_205 k15 rb17 ?_
  obtain ⟨k18, hf⟩ := gds hf
  obtain ⟨vo19, zo19, ho19h, ho19, hf⟩ := rfs3 hf
  refine CV0i dX1_breakDeadlock_44 (mX0_settle hst ho19) tk_675 iX0_settle k18 (by decide) rfl ⟨by decide, by decide⟩ ⟨by decide, by decide⟩ (Nat.le_of_ble_eq_true rfl) ?_
  obtain ⟨k20, hf⟩ := gds hf
  obtain ⟨zo21, ho21h, ho21, hf⟩ := rfs2 hf
  refine CV2v dX1_breakDeadlock_47 (mX6_add hst ho21) tk_666 iX6_add k20 (by decide) rfl ⟨by decide, by decide⟩ ⟨by decide, by decide⟩ (Nat.le_of_ble_eq_true rfl) ?_
  refine J_aload_n dX1_breakDeadlock_50 rfl rfl ?_
  obtain ⟨k22, hf⟩ := gds hf
  obtain ⟨b23, rb23, hf⟩ := rfs hf
  refine G_1_2 dX1_breakDeadlock_51 tk_207 k22 rb23 ?_
  refine J_aload_n dX1_breakDeadlock_54 rfl rfl ?_
  obtain ⟨b24, rb24, hf⟩ := rfs hf
  refine G_1_0 dX1_breakDeadlock_55 tk_205 k22 rb24 ?_
  obtain ⟨k25, hf⟩ := gds hf
  obtain ⟨zo26, ho26h, ho26, hf⟩ := rfs2 hf
  refine CV1v dX1_breakDeadlock_58 (mX7_read hst ho26) tk_780 iX7_read k25 (by decide) rfl ⟨by decide, by decide⟩ ⟨by decide, by decide⟩ (Nat.le_of_ble_eq_true rfl) ?_
  cases hf
  exact J_vretN dX1_breakDeadlock_61 rfl (by decide) (by decide)
theorem mX1_breakDeadlock {g : JG} (hst : (jl g).stackTraces = false) {a0 : Nat} {x1 : Int32} {x2 : Int32} {z : Nat} {h : AH} {o : Nat × AH} (hf : fX1_breakDeadlock a0 x1 x2 z h = some o) : jMet g yX1_breakDeadlock (wj yX1_breakDeadlock cX1_breakDeadlock 4 none) rmX1_breakDeadlock [.ref a0, .int x1, .int x2] z h (none, o.1, o.2) :=
  jMet_mk (by decide) (Nat.le_of_ble_eq_true rfl) [some (.ref a0), some (.int x1), some (.int x2), none] rfl (wfX1_breakDeadlock hst hf)
def bX1_sendToAll_52 (q3 : Nat → Int32 → Int64 → Int32 → Int32 → Int32 → Nat → AH → Option (Nat × AH)) (a0 : Nat) (x1 : Int32) (y2 : Int64) (x4 : Int32) (x5 : Int32) (x6 : Int32) (z : Nat) (h : AH) : Option (Nat × AH) :=
  q3 a0 x1 y2 x4 x5 (x6 + 1) z h
def bX1_sendToAll_48 (q3 : Nat → Int32 → Int64 → Int32 → Int32 → Int32 → Nat → AH → Option (Nat × AH)) (a0 : Nat) (x1 : Int32) (y2 : Int64) (x4 : Int32) (x5 : Int32) (x6 : Int32) (u0 : Nat) (s1 : Int32) (z : Nat) (h : AH) : Option (Nat × AH) :=
  gd (kd h u0 = 7) (bd2 (fX6_add u0 s1 1 z h) (fun zo2 ho2h => bX1_sendToAll_52 q3 a0 x1 y2 x4 x5 x6 zo2 ho2h))
def lX1_sendToAll_3B  (q3 : Nat → Int32 → Int64 → Int32 → Int32 → Int32 → Nat → AH → Option (Nat × AH)) (a0 : Nat) (x1 : Int32) (y2 : Int64) (x4 : Int32) (x5 : Int32) (x6 : Int32) (z : Nat) (h : AH) : Option (Nat × AH) :=
  (if 10 ≤ x6 then (some (z, h)) else (bd3 (fX8_inSet x1 x6 z h) (fun vo2 zo2 ho2h => (if vo2 = 0 then (bX1_sendToAll_52 q3 a0 x1 y2 x4 x5 x6 zo2 ho2h) else (gd (kd ho2h a0 = 2) (Option.bind (rv ho2h a0 1) (fun b5 => Option.bind (rv ho2h a0 0) (fun b6 => gd (kd ho2h b6 = 1) (Option.bind (rv ho2h b6 1) (fun b8 => gd (kd ho2h b8 = 5) (bd3 (fX4_send b8 y2 x4 x6 x5 zo2 ho2h) (fun vo10 zo10 ho10h => (if vo10 = 0 then (bX1_sendToAll_48 q3 a0 x1 y2 x4 x5 x6 b5 1 zo10 ho10h) else (bX1_sendToAll_48 q3 a0 x1 y2 x4 x5 x6 b5 0 zo10 ho10h))))))))))))))
def lX1_sendToAll_3  : Nat → Nat → Int32 → Int64 → Int32 → Int32 → Int32 → Nat → AH → Option (Nat × AH)
  | 0 => fun _ _ _ _ _ _ _ _ => none
  | fuel + 1 => lX1_sendToAll_3B  (lX1_sendToAll_3  fuel)
def fX1_sendToAll  (a0 : Nat) (x1 : Int32) (y2 : Int64) (x4 : Int32) (x5 : Int32) (z : Nat) (h : AH) : Option (Nat × AH) :=
  lX1_sendToAll_3  fu a0 x1 y2 x4 x5 0 z h
theorem wbX1_sendToAll_52 {g : JG} (hst : (jl g).stackTraces = false) (q3 : Nat → Int32 → Int64 → Int32 → Int32 → Int32 → Nat → AH → Option (Nat × AH)) (hq3 : ∀ (a0 : Nat) (x1 : Int32) (y2 : Int64) (x4 : Int32) (x5 : Int32) (x6 : Int32) (z : Nat) (h : AH) (o : Nat × AH), q3 a0 x1 y2 x4 x5 x6 z h = some o → J g MX1_sendToAll (jN g (none, o.1, o.2) rmX1_sendToAll.cells rmX1_sendToAll.slots) 3 [some (.ref a0), some (.int x1), some (.long y2), none, some (.int x4), some (.int x5), some (.int x6)] [] z h 0 0) {a0 : Nat} {x1 : Int32} {y2 : Int64} {x4 : Int32} {x5 : Int32} {x6 : Int32} {z : Nat} {h : AH} {o : Nat × AH} (hf : bX1_sendToAll_52 q3 a0 x1 y2 x4 x5 x6 z h = some o) : J g MX1_sendToAll (jN g (none, o.1, o.2) rmX1_sendToAll.cells rmX1_sendToAll.slots) 52 [some (.ref a0), some (.int x1), some (.long y2), none, some (.int x4), some (.int x5), some (.int x6)] [] z h 0 0 := by
  unfold bX1_sendToAll_52 at hf
  refine S_iinc_6 (v := x6 + 1) dX1_sendToAll_52 (congrArg (fun w => x6 + w) (by decide)) rfl (by decide) ?_
  refine J_goto (tgt := 3) dX1_sendToAll_55 (by decide) ?_
  refine J.sub (jsub_s (jsub_s (jsub_s (jsub_n (jsub_s (jsub_s (jsub_s (jsub_nil _)))))))) ?_
  exact hq3 _ _ _ _ _ _ _ _ _ hf
theorem wbX1_sendToAll_48 {g : JG} (hst : (jl g).stackTraces = false) (q3 : Nat → Int32 → Int64 → Int32 → Int32 → Int32 → Nat → AH → Option (Nat × AH)) (hq3 : ∀ (a0 : Nat) (x1 : Int32) (y2 : Int64) (x4 : Int32) (x5 : Int32) (x6 : Int32) (z : Nat) (h : AH) (o : Nat × AH), q3 a0 x1 y2 x4 x5 x6 z h = some o → J g MX1_sendToAll (jN g (none, o.1, o.2) rmX1_sendToAll.cells rmX1_sendToAll.slots) 3 [some (.ref a0), some (.int x1), some (.long y2), none, some (.int x4), some (.int x5), some (.int x6)] [] z h 0 0) {a0 : Nat} {x1 : Int32} {y2 : Int64} {x4 : Int32} {x5 : Int32} {x6 : Int32} {u0 : Nat} {s1 : Int32} {z : Nat} {h : AH} {o : Nat × AH} (hf : bX1_sendToAll_48 q3 a0 x1 y2 x4 x5 x6 u0 s1 z h = some o) : J g MX1_sendToAll (jN g (none, o.1, o.2) rmX1_sendToAll.cells rmX1_sendToAll.slots) 48 [some (.ref a0), some (.int x1), some (.long y2), none, some (.int x4), some (.int x5), some (.int x6)] [.int s1, .ref u0] z h 0 0 := by
  unfold bX1_sendToAll_48 at hf
  refine J_iconst (v := 1) dX1_sendToAll_48 (by decide) ?_
  obtain ⟨k1, hf⟩ := gds hf
  obtain ⟨zo2, ho2h, ho2, hf⟩ := rfs2 hf
  refine CV2v dX1_sendToAll_49 (mX6_add hst ho2) tk_666 iX6_add k1 (by decide) rfl ⟨by decide, by decide⟩ ⟨by decide, by decide⟩ (Nat.le_of_ble_eq_true rfl) ?_
  refine J.sub (jsub_s (jsub_s (jsub_s (jsub_n (jsub_s (jsub_s (jsub_s (jsub_nil _)))))))) ?_
  exact wbX1_sendToAll_52 hst _ hq3 hf
theorem wlX1_sendToAll_3 {g : JG} (hst : (jl g).stackTraces = false)   : ∀ (fuel : Nat) (a0 : Nat) (x1 : Int32) (y2 : Int64) (x4 : Int32) (x5 : Int32) (x6 : Int32) (z : Nat) (h : AH) (o : Nat × AH), lX1_sendToAll_3  fuel a0 x1 y2 x4 x5 x6 z h = some o → J g MX1_sendToAll (jN g (none, o.1, o.2) rmX1_sendToAll.cells rmX1_sendToAll.slots) 3 [some (.ref a0), some (.int x1), some (.long y2), none, some (.int x4), some (.int x5), some (.int x6)] [] z h 0 0 := by
  intro fuel
  induction fuel with
  | zero => intro a0 x1 y2 x4 x5 x6 z h o hf; cases hf
  | succ fuel ih =>
    intro a0 x1 y2 x4 x5 x6 z h o hf
    have hq3 := ih
    have hf : lX1_sendToAll_3B  (lX1_sendToAll_3  fuel) a0 x1 y2 x4 x5 x6 z h = some o := hf
    generalize lX1_sendToAll_3  fuel = q3 at hf hq3
    unfold lX1_sendToAll_3B at hf
    refine J_iload dX1_sendToAll_3 rfl ?_
    refine J_bipush (v := 10) dX1_sendToAll_5 (by decide) ?_
    rcases br hf with ⟨c1, hf⟩ | ⟨c1, hf⟩
    · refine J_icmp_ge (tgt := 58) dX1_sendToAll_7 (by decide) (fun _ => ?_) (fun w => absurd c1 w)
      cases hf
      exact J_vretN dX1_sendToAll_58 rfl (by decide) (by decide)
    · refine J_icmp_ge (tgt := 58) dX1_sendToAll_7 (by decide) (fun w => absurd w c1) (fun _ => ?_)
      refine J_iload_n dX1_sendToAll_10 rfl rfl ?_
      refine J_iload dX1_sendToAll_11 rfl ?_
      obtain ⟨vo2, zo2, ho2h, ho2, hf⟩ := rfs3 hf
      refine CSN2i dX1_sendToAll_13 (mX8_inSet hst ho2) tl_657 iX8_inSet ⟨by decide, by decide⟩ ⟨by decide, by decide⟩ (Nat.le_of_ble_eq_true rfl) ?_
      rcases br hf with ⟨c3, hf⟩ | ⟨c3, hf⟩
      · refine J_if_eq (tgt := 52) dX1_sendToAll_16 (by decide) (fun _ => ?_) (fun w => absurd c3 w)
        refine J.sub (jsub_s (jsub_s (jsub_s (jsub_n (jsub_s (jsub_s (jsub_s (jsub_nil _)))))))) ?_
        exact wbX1_sendToAll_52 hst _ hq3 hf
      · refine J_if_eq (tgt := 52) dX1_sendToAll_16 (by decide) (fun w => absurd w c3) (fun _ => ?_)
        refine J_aload_n dX1_sendToAll_19 rfl rfl ?_
        obtain ⟨k4, hf⟩ := gds hf
        obtain ⟨b5, rb5, hf⟩ := rfs hf
        refine G_1_1 dX1_sendToAll_20 tk_206 k4 rb5 ?_
        refine J_aload_n dX1_sendToAll_23 rfl rfl ?_
        obtain ⟨b6, rb6, hf⟩ := rfs hf
        refine G_1_0 dX1_sendToAll_24 tk_205 k4 rb6 ?_
        obtain ⟨k7, hf⟩ := gds hf
        obtain ⟨b8, rb8, hf⟩ := rfs hf
        refine G_0_1 dX1_sendToAll_27 tk_94 k7 rb8 ?_
        refine J_lload_n dX1_sendToAll_30 rfl rfl ?_
        refine J_iload dX1_sendToAll_31 rfl ?_
        refine J_iload dX1_sendToAll_33 rfl ?_
        refine J_iload dX1_sendToAll_35 rfl ?_
        obtain ⟨k9, hf⟩ := gds hf
        obtain ⟨vo10, zo10, ho10h, ho10, hf⟩ := rfs3 hf
        refine CV4i dX1_sendToAll_37 (mX4_send hst ho10) tk_789 iX4_send k9 (by decide) rfl ⟨by decide, by decide⟩ ⟨by decide, by decide⟩ (Nat.le_of_ble_eq_true rfl) ?_
        rcases br hf with ⟨c11, hf⟩ | ⟨c11, hf⟩
        · refine J_if_eq (tgt := 47) dX1_sendToAll_40 (by decide) (fun _ => ?_) (fun w => absurd c11 w)
          refine J_iconst (v := 1) dX1_sendToAll_47 (by decide) ?_
          refine J.sub (jsub_s (jsub_s (jsub_s (jsub_n (jsub_s (jsub_s (jsub_s (jsub_nil _)))))))) ?_
          exact wbX1_sendToAll_48 hst _ hq3 hf
        · refine J_if_eq (tgt := 47) dX1_sendToAll_40 (by decide) (fun w => absurd w c11) (fun _ => ?_)
          refine J_iconst (v := 0) dX1_sendToAll_43 (by decide) ?_
          refine J_goto (tgt := 48) dX1_sendToAll_44 (by decide) ?_
          refine J.sub (jsub_s (jsub_s (jsub_s (jsub_n (jsub_s (jsub_s (jsub_s (jsub_nil _)))))))) ?_
          exact wbX1_sendToAll_48 hst _ hq3 hf
theorem wfX1_sendToAll {g : JG} (hst : (jl g).stackTraces = false)   {a0 : Nat} {x1 : Int32} {y2 : Int64} {x4 : Int32} {x5 : Int32} {z : Nat} {h : AH} {o : Nat × AH} (hf : fX1_sendToAll  a0 x1 y2 x4 x5 z h = some o) : J g MX1_sendToAll (jN g (none, o.1, o.2) rmX1_sendToAll.cells rmX1_sendToAll.slots) 0 [some (.ref a0), some (.int x1), some (.long y2), none, some (.int x4), some (.int x5), none] [] z h 0 0 := by
  unfold fX1_sendToAll at hf
  refine J_iconst (v := 0) dX1_sendToAll_0 (by decide) ?_
  refine S_istore_6 dX1_sendToAll_1 rfl (by decide) ?_
  refine J.sub (jsub_s (jsub_s (jsub_s (jsub_n (jsub_s (jsub_s (jsub_s (jsub_nil _)))))))) ?_
  exact wlX1_sendToAll_3 hst   _ _ _ _ _ _ _ _ _ _ hf
theorem mX1_sendToAll {g : JG} (hst : (jl g).stackTraces = false) {a0 : Nat} {x1 : Int32} {y2 : Int64} {x4 : Int32} {x5 : Int32} {z : Nat} {h : AH} {o : Nat × AH} (hf : fX1_sendToAll a0 x1 y2 x4 x5 z h = some o) : jMet g yX1_sendToAll (wj yX1_sendToAll cX1_sendToAll 7 none) rmX1_sendToAll [.ref a0, .int x1, .long y2, .int x4, .int x5] z h (none, o.1, o.2) :=
  jMet_mk (by decide) (Nat.le_of_ble_eq_true rfl) [some (.ref a0), some (.int x1), some (.long y2), none, some (.int x4), some (.int x5), none] rfl (wfX1_sendToAll hst hf)
def bX1_deliverFirst_231  (u0 : Nat) (s1 : Int32) (s2 : Int32) (z : Nat) (h : AH) : Option (Nat × AH) :=
  gd (kd h u0 = 7) (bd2 (fX6_add u0 s1 s2 z h) (fun zo2 ho2h => some (zo2, ho2h)))
def fX1_deliverFirst  (a0 : Nat) (z : Nat) (h : AH) : Option (Nat × AH) :=
  gd (kd h a0 = 2) (Option.bind (rv h a0 0) (fun b2 => gd (kd h b2 = 1) (Option.bind (rv h b2 1) (fun b4 => gd (kd h b4 = 5) (bd3 (fX4_rowOf b4 0 z h) (fun vo6 zo6 ho6h => gd (kd ho6h a0 = 2) (Option.bind (rv ho6h a0 0) (fun b8 => gd (kd ho6h b8 = 1) (Option.bind (rv ho6h b8 1) (fun b10 => gd (kd ho6h b10 = 5) (Option.bind (rv ho6h b10 0) (fun b12 => gd (kd ho6h b12 = 14) (gd (¬ ((vo6 : Int32) < 0 ∨ ln ho6h b12 ≤ Int32.toNatClampNeg vo6)) (bl ((jv ho6h b12 (Int32.toNatClampNeg vo6))) (fun v15 => Option.bind (rv ho6h a0 0) (fun b16 => gd (kd ho6h b16 = 1) (Option.bind (rv ho6h b16 1) (fun b18 => gd (kd ho6h b18 = 5) (Option.bind (rv ho6h b18 1) (fun b20 => gd (kd ho6h b20 = 13) (gd (¬ ((vo6 : Int32) < 0 ∨ ln ho6h b20 ≤ Int32.toNatClampNeg vo6)) (bl ((iv ho6h b20 (Int32.toNatClampNeg vo6))) (fun v23 => Option.bind (rv ho6h a0 0) (fun b24 => gd (kd ho6h b24 = 1) (Option.bind (rv ho6h b24 1) (fun b26 => gd (kd ho6h b26 = 5) (Option.bind (rv ho6h b26 2) (fun b28 => gd (kd ho6h b28 = 13) (gd (¬ ((vo6 : Int32) < 0 ∨ ln ho6h b28 ≤ Int32.toNatClampNeg vo6)) (bl ((iv ho6h b28 (Int32.toNatClampNeg vo6))) (fun v31 => Option.bind (rv ho6h a0 0) (fun b32 => gd (kd ho6h b32 = 1) (Option.bind (rv ho6h b32 1) (fun b34 => gd (kd ho6h b34 = 5) (Option.bind (rv ho6h b34 3) (fun b36 => gd (kd ho6h b36 = 13) (gd (¬ ((vo6 : Int32) < 0 ∨ ln ho6h b36 ≤ Int32.toNatClampNeg vo6)) (bl ((iv ho6h b36 (Int32.toNatClampNeg vo6))) (fun v39 => Option.bind (rv ho6h a0 0) (fun b40 => gd (kd ho6h b40 = 1) (Option.bind (rv ho6h b40 1) (fun b42 => gd (kd ho6h b42 = 5) (bd2 (fX4_dropFirst b42 zo6 ho6h) (fun zo44 ho44h => bd3 (fX4_taskAt v15 0 zo44 ho44h) (fun vo45 zo45 ho45h => bd3 (fX4_members v15 v23 zo45 ho45h) (fun vo46 zo46 ho46h => gd (kd ho46h a0 = 2) (Option.bind (rv ho46h a0 2) (fun b48 => gd (kd ho46h b48 = 8) (bd3 (fX7_follow b48 v15 v23 v31 zo46 ho46h) (fun vo50 zo50 ho50h => (if vo50 = 0 then (gd (kd ho50h a0 = 2) (Option.bind (rv ho50h a0 1) (fun b81 => gd (kd ho50h b81 = 7) (bd2 (fX6_add b81 2 1 zo50 ho50h) (fun zo83 ho83h => some (zo83, ho83h)))))) else ((if v31 = vo45 then (gd (kd ho50h a0 = 2) (bd2 (fX1_breakDeadlock a0 vo46 vo45 zo50 ho50h) (fun zo79 ho79h => some (zo79, ho79h)))) else (gd (kd ho50h a0 = 2) (Option.bind (rv ho50h a0 0) (fun b54 => gd (kd ho50h b54 = 1) (bd3 (fX0_isIn b54 v31 1 zo50 ho50h) (fun vo56 zo56 ho56h => (if vo56 = 0 then (some (zo56, ho56h)) else (bd3 (fX8_inSet vo46 v31 zo56 ho56h) (fun vo58 zo58 ho58h => (if vo58 = 0 then ((if v39 ≤ 0 then (gd (kd ho58h a0 = 2) (Option.bind (rv ho58h a0 1) (fun b62 => gd (kd ho58h b62 = 7) (bd2 (fX6_add b62 3 1 zo58 ho58h) (fun zo64 ho64h => gd (kd ho64h a0 = 2) (Option.bind (rv ho64h a0 1) (fun b66 => Option.bind (rv ho64h a0 2) (fun b67 => gd (kd ho64h b67 = 8) (bd3 (fX8_inSet (iv ho64h b67 2) vo45 zo64 ho64h) (fun vo69 zo69 ho69h => (if vo69 = 0 then (bX1_deliverFirst_231  b66 5 0 zo69 ho69h) else (bX1_deliverFirst_231  b66 5 1 zo69 ho69h)))))))))))) else (gd (kd ho58h a0 = 2) (Option.bind (rv ho58h a0 2) (fun b72 => gd (kd ho58h b72 = 8) (bd3 (fX7_of b72 v31 zo58 ho58h) (fun vo74 zo74 ho74h => bd3 (fX4_extended v15 v23 v31 zo74 ho74h) (fun vo75 zo75 ho75h => gd (kd ho75h a0 = 2) (bd2 (fX1_sendToAll a0 vo74 vo75 (v23 + 1) (v39 - 1) zo75 ho75h) (fun zo77 ho77h => some (zo77, ho77h))))))))))) else (some (zo58, ho58h))))))))))))))))))))))))))))))))))))))))))))))))))))))))))))))))
theorem wbX1_deliverFirst_231 {g : JG} (hst : (jl g).stackTraces = false)   {u0 : Nat} {s1 : Int32} {s2 : Int32} {z : Nat} {h : AH} {o : Nat × AH} (hf : bX1_deliverFirst_231  u0 s1 s2 z h = some o) : J g MX1_deliverFirst (jN g (none, o.1, o.2) rmX1_deliverFirst.cells rmX1_deliverFirst.slots) 231 [none, none, none, none, none, none, none, none, none] [.int s2, .int s1, .ref u0] z h 0 0 := by
  unfold bX1_deliverFirst_231 at hf
  obtain ⟨k1, hf⟩ := gds hf
  obtain ⟨zo2, ho2h, ho2, hf⟩ := rfs2 hf
  refine CV2v dX1_deliverFirst_231 (mX6_add hst ho2) tk_666 iX6_add k1 (by decide) rfl ⟨by decide, by decide⟩ ⟨by decide, by decide⟩ (Nat.le_of_ble_eq_true rfl) ?_
  cases hf
  exact J_vretN dX1_deliverFirst_234 rfl (by decide) (by decide)
theorem wfX1_deliverFirst {g : JG} (hst : (jl g).stackTraces = false)   {a0 : Nat} {z : Nat} {h : AH} {o : Nat × AH} (hf : fX1_deliverFirst  a0 z h = some o) : J g MX1_deliverFirst (jN g (none, o.1, o.2) rmX1_deliverFirst.cells rmX1_deliverFirst.slots) 0 [some (.ref a0), none, none, none, none, none, none, none, none] [] z h 0 0 := by
  unfold fX1_deliverFirst at hf
  refine J_aload_n dX1_deliverFirst_0 rfl rfl ?_
  obtain ⟨k1, hf⟩ := gds hf
  obtain ⟨b2, rb2, hf⟩ := rfs hf
  refine G_1_0 dX1_deliverFirst_1 tk_205 k1 rb2 ?_
  obtain ⟨k3, hf⟩ := gds hf
  obtain ⟨b4, rb4, hf⟩ := rfs hf
  refine G_0_1 dX1_deliverFirst_4 tk_94 k3 rb4 ?_
  refine J_iconst (v := 0) dX1_deliverFirst_7 (by decide) ?_
  obtain ⟨k5, hf⟩ := gds hf
  obtain ⟨vo6, zo6, ho6h, ho6, hf⟩ := rfs3 hf
  refine CV1i dX1_deliverFirst_8 (mX4_rowOf hst ho6) tk_808 iX4_rowOf k5 (by decide) rfl ⟨by decide, by decide⟩ ⟨by decide, by decide⟩ (Nat.le_of_ble_eq_true rfl) ?_
  refine S_istore_n_1 dX1_deliverFirst_11 rfl (by decide) ?_
  refine J_aload_n dX1_deliverFirst_12 rfl rfl ?_
  obtain ⟨k7, hf⟩ := gds hf
  obtain ⟨b8, rb8, hf⟩ := rfs hf
  refine G_1_0 dX1_deliverFirst_13 tk_205 k7 rb8 ?_
  obtain ⟨k9, hf⟩ := gds hf
  obtain ⟨b10, rb10, hf⟩ := rfs hf
  refine G_0_1 dX1_deliverFirst_16 tk_94 k9 rb10 ?_
  obtain ⟨k11, hf⟩ := gds hf
  obtain ⟨b12, rb12, hf⟩ := rfs hf
  refine G_4_0 dX1_deliverFirst_19 tk_66 k11 rb12 ?_
  refine J_iload_n dX1_deliverFirst_22 rfl rfl ?_
  obtain ⟨k13, hf⟩ := gds hf
  obtain ⟨n14, hf⟩ := gds hf
  refine J_laload dX1_deliverFirst_23 k13 n14 ?_
  obtain ⟨v15, ev15, hf⟩ := bls hf
  refine J_l ev15 ?_
  refine S_lstore_n_2 dX1_deliverFirst_24 rfl (by decide) ?_
  refine J_aload_n dX1_deliverFirst_25 rfl rfl ?_
  obtain ⟨b16, rb16, hf⟩ := rfs hf
  refine G_1_0 dX1_deliverFirst_26 tk_205 k7 rb16 ?_
  obtain ⟨k17, hf⟩ := gds hf
  obtain ⟨b18, rb18, hf⟩ := rfs hf
  refine G_0_1 dX1_deliverFirst_29 tk_94 k17 rb18 ?_
  obtain ⟨k19, hf⟩ := gds hf
  obtain ⟨b20, rb20, hf⟩ := rfs hf
  refine G_4_1 dX1_deliverFirst_32 tk_68 k19 rb20 ?_
  refine J_iload_n dX1_deliverFirst_35 rfl rfl ?_
  obtain ⟨k21, hf⟩ := gds hf
  obtain ⟨n22, hf⟩ := gds hf
  refine J_iaload dX1_deliverFirst_36 k21 n22 ?_
  obtain ⟨v23, ev23, hf⟩ := bls hf
  refine J_i ev23 ?_
  refine S_istore_4 dX1_deliverFirst_37 rfl (by decide) ?_
  refine J_aload_n dX1_deliverFirst_39 rfl rfl ?_
  obtain ⟨b24, rb24, hf⟩ := rfs hf
  refine G_1_0 dX1_deliverFirst_40 tk_205 k7 rb24 ?_
  obtain ⟨k25, hf⟩ := gds hf
  obtain ⟨b26, rb26, hf⟩ := rfs hf
  refine G_0_1 dX1_deliverFirst_43 tk_94 k25 rb26 ?_
  obtain ⟨k27, hf⟩ := gds hf
  obtain ⟨b28, rb28, hf⟩ := rfs hf
  refine G_4_2 dX1_deliverFirst_46 tk_70 k27 rb28 ?_
  refine J_iload_n dX1_deliverFirst_49 rfl rfl ?_
  obtain ⟨k29, hf⟩ := gds hf
  obtain ⟨n30, hf⟩ := gds hf
  refine J_iaload dX1_deliverFirst_50 k29 n30 ?_
  obtain ⟨v31, ev31, hf⟩ := bls hf
  refine J_i ev31 ?_
  refine S_istore_5 dX1_deliverFirst_51 rfl (by decide) ?_
  refine J_aload_n dX1_deliverFirst_53 rfl rfl ?_
  obtain ⟨b32, rb32, hf⟩ := rfs hf
  refine G_1_0 dX1_deliverFirst_54 tk_205 k7 rb32 ?_
  obtain ⟨k33, hf⟩ := gds hf
  obtain ⟨b34, rb34, hf⟩ := rfs hf
  refine G_0_1 dX1_deliverFirst_57 tk_94 k33 rb34 ?_
  obtain ⟨k35, hf⟩ := gds hf
  obtain ⟨b36, rb36, hf⟩ := rfs hf
  refine G_4_3 dX1_deliverFirst_60 tk_72 k35 rb36 ?_
  refine J_iload_n dX1_deliverFirst_63 rfl rfl ?_
  obtain ⟨k37, hf⟩ := gds hf
  obtain ⟨n38, hf⟩ := gds hf
  refine J_iaload dX1_deliverFirst_64 k37 n38 ?_
  obtain ⟨v39, ev39, hf⟩ := bls hf
  refine J_i ev39 ?_
  refine S_istore_6 dX1_deliverFirst_65 rfl (by decide) ?_
  refine J_aload_n dX1_deliverFirst_67 rfl rfl ?_
  obtain ⟨b40, rb40, hf⟩ := rfs hf
  refine G_1_0 dX1_deliverFirst_68 tk_205 k7 rb40 ?_
  obtain ⟨k41, hf⟩ := gds hf
  obtain ⟨b42, rb42, hf⟩ := rfs hf
  refine G_0_1 dX1_deliverFirst_71 tk_94 k41 rb42 ?_
  obtain ⟨k43, hf⟩ := gds hf
  obtain ⟨zo44, ho44h, ho44, hf⟩ := rfs2 hf
  refine CV0v dX1_deliverFirst_74 (mX4_dropFirst hst ho44) tk_809 iX4_dropFirst k43 (by decide) rfl ⟨by decide, by decide⟩ ⟨by decide, by decide⟩ (Nat.le_of_ble_eq_true rfl) ?_
  refine J_lload_n dX1_deliverFirst_77 rfl rfl ?_
  refine J_iconst (v := 0) dX1_deliverFirst_78 (by decide) ?_
  obtain ⟨vo45, zo45, ho45h, ho45, hf⟩ := rfs3 hf
  refine CS2i (host := "") dX1_deliverFirst_79 (mX4_taskAt hst ho45) tk_813 iX4_taskAt ⟨by decide, by decide⟩ ⟨by decide, by decide⟩ (Nat.le_of_ble_eq_true rfl) ?_
  refine S_istore_7 dX1_deliverFirst_82 rfl (by decide) ?_
  refine J_lload_n dX1_deliverFirst_84 rfl rfl ?_
  refine J_iload dX1_deliverFirst_85 rfl ?_
  obtain ⟨vo46, zo46, ho46h, ho46, hf⟩ := rfs3 hf
  refine CS2i (host := "") dX1_deliverFirst_87 (mX4_members hst ho46) tk_814 iX4_members ⟨by decide, by decide⟩ ⟨by decide, by decide⟩ (Nat.le_of_ble_eq_true rfl) ?_
  refine S_istore_8 dX1_deliverFirst_90 rfl (by decide) ?_
  refine J_aload_n dX1_deliverFirst_92 rfl rfl ?_
  obtain ⟨k47, hf⟩ := gds hf
  obtain ⟨b48, rb48, hf⟩ := rfs hf
  refine G_1_2 dX1_deliverFirst_93 tk_207 k47 rb48 ?_
  refine J_lload_n dX1_deliverFirst_96 rfl rfl ?_
  refine J_iload dX1_deliverFirst_97 rfl ?_
  refine J_iload dX1_deliverFirst_99 rfl ?_
  obtain ⟨k49, hf⟩ := gds hf
  obtain ⟨vo50, zo50, ho50h, ho50, hf⟩ := rfs3 hf
  refine CV3i dX1_deliverFirst_101 (mX7_follow hst ho50) tk_815 iX7_follow k49 (by decide) rfl ⟨by decide, by decide⟩ ⟨by decide, by decide⟩ (Nat.le_of_ble_eq_true rfl) ?_
  rcases br hf with ⟨c51, hf⟩ | ⟨c51, hf⟩
  · refine J_if_ne (tgt := 119) dX1_deliverFirst_104 (by decide) (fun w => absurd c51 w) (fun _ => ?_)
    refine J_aload_n dX1_deliverFirst_107 rfl rfl ?_
    obtain ⟨k80, hf⟩ := gds hf
    obtain ⟨b81, rb81, hf⟩ := rfs hf
    refine G_1_1 dX1_deliverFirst_108 tk_206 k80 rb81 ?_
    refine J_iconst (v := 2) dX1_deliverFirst_111 (by decide) ?_
    refine J_iconst (v := 1) dX1_deliverFirst_112 (by decide) ?_
    obtain ⟨k82, hf⟩ := gds hf
    obtain ⟨zo83, ho83h, ho83, hf⟩ := rfs2 hf
    refine CV2v dX1_deliverFirst_113 (mX6_add hst ho83) tk_666 iX6_add k82 (by decide) rfl ⟨by decide, by decide⟩ ⟨by decide, by decide⟩ (Nat.le_of_ble_eq_true rfl) ?_
    refine J_goto (tgt := 234) dX1_deliverFirst_116 (by decide) ?_
    cases hf
    exact J_vretN dX1_deliverFirst_234 rfl (by decide) (by decide)
  · refine J_if_ne (tgt := 119) dX1_deliverFirst_104 (by decide) (fun _ => ?_) (fun w => absurd w c51)
    refine J_iload dX1_deliverFirst_119 rfl ?_
    refine J_iload dX1_deliverFirst_121 rfl ?_
    rcases br hf with ⟨c52, hf⟩ | ⟨c52, hf⟩
    · refine J_icmp_ne (tgt := 137) dX1_deliverFirst_123 (by decide) (fun w => absurd c52 w) (fun _ => ?_)
      refine J_aload_n dX1_deliverFirst_126 rfl rfl ?_
      refine J_iload dX1_deliverFirst_127 rfl ?_
      refine J_iload dX1_deliverFirst_129 rfl ?_
      obtain ⟨k78, hf⟩ := gds hf
      obtain ⟨zo79, ho79h, ho79, hf⟩ := rfs2 hf
      refine CV2v dX1_deliverFirst_131 (mX1_breakDeadlock hst ho79) tk_821 iX1_breakDeadlock k78 (by decide) rfl ⟨by decide, by decide⟩ ⟨by decide, by decide⟩ (Nat.le_of_ble_eq_true rfl) ?_
      refine J_goto (tgt := 234) dX1_deliverFirst_134 (by decide) ?_
      cases hf
      exact J_vretN dX1_deliverFirst_234 rfl (by decide) (by decide)
    · refine J_icmp_ne (tgt := 137) dX1_deliverFirst_123 (by decide) (fun _ => ?_) (fun w => absurd w c52)
      refine J_aload_n dX1_deliverFirst_137 rfl rfl ?_
      obtain ⟨k53, hf⟩ := gds hf
      obtain ⟨b54, rb54, hf⟩ := rfs hf
      refine G_1_0 dX1_deliverFirst_138 tk_205 k53 rb54 ?_
      refine J_iload dX1_deliverFirst_141 rfl ?_
      refine J_iconst (v := 1) dX1_deliverFirst_143 (by decide) ?_
      obtain ⟨k55, hf⟩ := gds hf
      obtain ⟨vo56, zo56, ho56h, ho56, hf⟩ := rfs3 hf
      refine CV2i dX1_deliverFirst_144 (mX0_isIn hst ho56) tk_839 iX0_isIn k55 (by decide) rfl ⟨by decide, by decide⟩ ⟨by decide, by decide⟩ (Nat.le_of_ble_eq_true rfl) ?_
      rcases br hf with ⟨c57, hf⟩ | ⟨c57, hf⟩
      · refine J_if_eq (tgt := 234) dX1_deliverFirst_147 (by decide) (fun _ => ?_) (fun w => absurd c57 w)
        cases hf
        exact J_vretN dX1_deliverFirst_234 rfl (by decide) (by decide)
      · refine J_if_eq (tgt := 234) dX1_deliverFirst_147 (by decide) (fun w => absurd w c57) (fun _ => ?_)
        refine J_iload dX1_deliverFirst_150 rfl ?_
        refine J_iload dX1_deliverFirst_152 rfl ?_
        obtain ⟨vo58, zo58, ho58h, ho58, hf⟩ := rfs3 hf
        refine CSN2i dX1_deliverFirst_154 (mX8_inSet hst ho58) tl_657 iX8_inSet ⟨by decide, by decide⟩ ⟨by decide, by decide⟩ (Nat.le_of_ble_eq_true rfl) ?_
        rcases br hf with ⟨c59, hf⟩ | ⟨c59, hf⟩
        · refine J_if_ne (tgt := 234) dX1_deliverFirst_157 (by decide) (fun w => absurd c59 w) (fun _ => ?_)
          refine J_iload dX1_deliverFirst_160 rfl ?_
          rcases br hf with ⟨c60, hf⟩ | ⟨c60, hf⟩
          · refine J_if_le (tgt := 197) dX1_deliverFirst_162 (by decide) (fun _ => ?_) (fun w => absurd c60 w)
            refine J_aload_n dX1_deliverFirst_197 rfl rfl ?_
            obtain ⟨k61, hf⟩ := gds hf
            obtain ⟨b62, rb62, hf⟩ := rfs hf
            refine G_1_1 dX1_deliverFirst_198 tk_206 k61 rb62 ?_
            refine J_iconst (v := 3) dX1_deliverFirst_201 (by decide) ?_
            refine J_iconst (v := 1) dX1_deliverFirst_202 (by decide) ?_
            obtain ⟨k63, hf⟩ := gds hf
            obtain ⟨zo64, ho64h, ho64, hf⟩ := rfs2 hf
            refine CV2v dX1_deliverFirst_203 (mX6_add hst ho64) tk_666 iX6_add k63 (by decide) rfl ⟨by decide, by decide⟩ ⟨by decide, by decide⟩ (Nat.le_of_ble_eq_true rfl) ?_
            refine J_aload_n dX1_deliverFirst_206 rfl rfl ?_
            obtain ⟨k65, hf⟩ := gds hf
            obtain ⟨b66, rb66, hf⟩ := rfs hf
            refine G_1_1 dX1_deliverFirst_207 tk_206 k65 rb66 ?_
            refine J_iconst (v := 5) dX1_deliverFirst_210 (by decide) ?_
            refine J_aload_n dX1_deliverFirst_211 rfl rfl ?_
            obtain ⟨b67, rb67, hf⟩ := rfs hf
            refine G_1_2 dX1_deliverFirst_212 tk_207 k65 rb67 ?_
            obtain ⟨k68, hf⟩ := gds hf
            refine G_7_2 dX1_deliverFirst_215 tk_187 k68 ?_
            refine J_iload dX1_deliverFirst_218 rfl ?_
            obtain ⟨vo69, zo69, ho69h, ho69, hf⟩ := rfs3 hf
            refine CSN2i dX1_deliverFirst_220 (mX8_inSet hst ho69) tl_657 iX8_inSet ⟨by decide, by decide⟩ ⟨by decide, by decide⟩ (Nat.le_of_ble_eq_true rfl) ?_
            rcases br hf with ⟨c70, hf⟩ | ⟨c70, hf⟩
            · refine J_if_eq (tgt := 230) dX1_deliverFirst_223 (by decide) (fun _ => ?_) (fun w => absurd c70 w)
              refine J_iconst (v := 0) dX1_deliverFirst_230 (by decide) ?_
              refine J.sub (jsub_n (jsub_n (jsub_n (jsub_n (jsub_n (jsub_n (jsub_n (jsub_n (jsub_n (jsub_nil _)))))))))) ?_
              exact wbX1_deliverFirst_231 hst   hf
            · refine J_if_eq (tgt := 230) dX1_deliverFirst_223 (by decide) (fun w => absurd w c70) (fun _ => ?_)
              refine J_iconst (v := 1) dX1_deliverFirst_226 (by decide) ?_
              refine J_goto (tgt := 231) dX1_deliverFirst_227 (by decide) ?_
              refine J.sub (jsub_n (jsub_n (jsub_n (jsub_n (jsub_n (jsub_n (jsub_n (jsub_n (jsub_n (jsub_nil _)))))))))) ?_
              exact wbX1_deliverFirst_231 hst   hf
          · refine J_if_le (tgt := 197) dX1_deliverFirst_162 (by decide) (fun w => absurd w c60) (fun _ => ?_)
            refine J_aload_n dX1_deliverFirst_165 rfl rfl ?_
            refine J_aload_n dX1_deliverFirst_166 rfl rfl ?_
            obtain ⟨k71, hf⟩ := gds hf
            obtain ⟨b72, rb72, hf⟩ := rfs hf
            refine G_1_2 dX1_deliverFirst_167 tk_207 k71 rb72 ?_
            refine J_iload dX1_deliverFirst_170 rfl ?_
            obtain ⟨k73, hf⟩ := gds hf
            obtain ⟨vo74, zo74, ho74h, ho74, hf⟩ := rfs3 hf
            refine CV1i dX1_deliverFirst_172 (mX7_of hst ho74) tk_781 iX7_of k73 (by decide) rfl ⟨by decide, by decide⟩ ⟨by decide, by decide⟩ (Nat.le_of_ble_eq_true rfl) ?_
            refine J_lload_n dX1_deliverFirst_175 rfl rfl ?_
            refine J_iload dX1_deliverFirst_176 rfl ?_
            refine J_iload dX1_deliverFirst_178 rfl ?_
            obtain ⟨vo75, zo75, ho75h, ho75, hf⟩ := rfs3 hf
            refine CS3l (host := "") dX1_deliverFirst_180 (mX4_extended hst ho75) tk_840 iX4_extended ⟨by decide, by decide⟩ ⟨by decide, by decide⟩ (Nat.le_of_ble_eq_true rfl) ?_
            refine J_iload dX1_deliverFirst_183 rfl ?_
            refine J_iconst (v := 1) dX1_deliverFirst_185 (by decide) ?_
            refine J_iadd dX1_deliverFirst_186 ?_
            refine J_iload dX1_deliverFirst_187 rfl ?_
            refine J_iconst (v := 1) dX1_deliverFirst_189 (by decide) ?_
            refine J_isub dX1_deliverFirst_190 ?_
            obtain ⟨k76, hf⟩ := gds hf
            obtain ⟨zo77, ho77h, ho77, hf⟩ := rfs2 hf
            refine CV4v dX1_deliverFirst_191 (mX1_sendToAll hst ho77) tk_785 iX1_sendToAll k76 (by decide) rfl ⟨by decide, by decide⟩ ⟨by decide, by decide⟩ (Nat.le_of_ble_eq_true rfl) ?_
            refine J_goto (tgt := 234) dX1_deliverFirst_194 (by decide) ?_
            cases hf
            exact J_vretN dX1_deliverFirst_234 rfl (by decide) (by decide)
        · refine J_if_ne (tgt := 234) dX1_deliverFirst_157 (by decide) (fun _ => ?_) (fun w => absurd w c59)
          cases hf
          exact J_vretN dX1_deliverFirst_234 rfl (by decide) (by decide)
theorem mX1_deliverFirst {g : JG} (hst : (jl g).stackTraces = false) {a0 : Nat} {z : Nat} {h : AH} {o : Nat × AH} (hf : fX1_deliverFirst a0 z h = some o) : jMet g yX1_deliverFirst (wj yX1_deliverFirst cX1_deliverFirst 9 none) rmX1_deliverFirst [.ref a0] z h (none, o.1, o.2) :=
  jMet_mk (by decide) (Nat.le_of_ble_eq_true rfl) [some (.ref a0), none, none, none, none, none, none, none, none] rfl (wfX1_deliverFirst hst hf)
def lX1_deliverUpTo_13B  (q13 : Nat → Int32 → Int32 → Nat → AH → Option (Int32 × Nat × AH)) (a0 : Nat) (x1 : Int32) (x2 : Int32) (z : Nat) (h : AH) : Option (Int32 × Nat × AH) :=
  (if x1 ≤ x2 then (some (x2, z, h)) else (gd (kd h a0 = 2) (Option.bind (rv h a0 0) (fun b3 => gd (kd h b3 = 1) (Option.bind (rv h b3 1) (fun b5 => gd (kd h b5 = 5) ((if (iv h b5 5) ≤ 0 then (some (x2, z, h)) else (bd2 (fX1_deliverFirst a0 z h) (fun zo8 ho8h => q13 a0 x1 (x2 + 1) zo8 ho8h))))))))))
def lX1_deliverUpTo_13  : Nat → Nat → Int32 → Int32 → Nat → AH → Option (Int32 × Nat × AH)
  | 0 => fun _ _ _ _ _ => none
  | fuel + 1 => lX1_deliverUpTo_13B  (lX1_deliverUpTo_13  fuel)
def fX1_deliverUpTo  (a0 : Nat) (x1 : Int32) (z : Nat) (h : AH) : Option (Int32 × Nat × AH) :=
  gd (kd h a0 = 2) (Option.bind (rv h a0 2) (fun b2 => Option.bind (rv h a0 0) (fun b3 => gd (kd h b2 = 8) (bd2 (fX7_read b2 b3 z h) (fun zo5 ho5h => lX1_deliverUpTo_13  fu a0 x1 0 zo5 ho5h)))))
theorem wlX1_deliverUpTo_13 {g : JG} (hst : (jl g).stackTraces = false)   : ∀ (fuel : Nat) (a0 : Nat) (x1 : Int32) (x2 : Int32) (z : Nat) (h : AH) (o : Int32 × Nat × AH), lX1_deliverUpTo_13  fuel a0 x1 x2 z h = some o → J g MX1_deliverUpTo (jN g (some (.int o.1), o.2.1, o.2.2) rmX1_deliverUpTo.cells rmX1_deliverUpTo.slots) 13 [some (.ref a0), some (.int x1), some (.int x2)] [] z h 0 0 := by
  intro fuel
  induction fuel with
  | zero => intro a0 x1 x2 z h o hf; cases hf
  | succ fuel ih =>
    intro a0 x1 x2 z h o hf
    have hq13 := ih
    have hf : lX1_deliverUpTo_13B  (lX1_deliverUpTo_13  fuel) a0 x1 x2 z h = some o := hf
    generalize lX1_deliverUpTo_13  fuel = q13 at hf hq13
    unfold lX1_deliverUpTo_13B at hf
    refine J_iload_n dX1_deliverUpTo_13 rfl rfl ?_
    refine J_iload_n dX1_deliverUpTo_14 rfl rfl ?_
    rcases br hf with ⟨c1, hf⟩ | ⟨c1, hf⟩
    · refine J_icmp_ge (tgt := 41) dX1_deliverUpTo_15 (by decide) (fun _ => ?_) (fun w => absurd c1 w)
      refine J_iload_n dX1_deliverUpTo_41 rfl rfl ?_
      cases hf
      exact J_iretN dX1_deliverUpTo_42 rfl (by decide) (by decide)
    · refine J_icmp_ge (tgt := 41) dX1_deliverUpTo_15 (by decide) (fun w => absurd w c1) (fun _ => ?_)
      refine J_aload_n dX1_deliverUpTo_18 rfl rfl ?_
      obtain ⟨k2, hf⟩ := gds hf
      obtain ⟨b3, rb3, hf⟩ := rfs hf
      refine G_1_0 dX1_deliverUpTo_19 tk_205 k2 rb3 ?_
      obtain ⟨k4, hf⟩ := gds hf
      obtain ⟨b5, rb5, hf⟩ := rfs hf
      refine G_0_1 dX1_deliverUpTo_22 tk_94 k4 rb5 ?_
      obtain ⟨k6, hf⟩ := gds hf
      refine G_4_5 dX1_deliverUpTo_25 tk_75 k6 ?_
      rcases br hf with ⟨c7, hf⟩ | ⟨c7, hf⟩
      · refine J_if_le (tgt := 41) dX1_deliverUpTo_28 (by decide) (fun _ => ?_) (fun w => absurd c7 w)
        refine J_iload_n dX1_deliverUpTo_41 rfl rfl ?_
        cases hf
        exact J_iretN dX1_deliverUpTo_42 rfl (by decide) (by decide)
      · refine J_if_le (tgt := 41) dX1_deliverUpTo_28 (by decide) (fun w => absurd w c7) (fun _ => ?_)
        refine J_aload_n dX1_deliverUpTo_31 rfl rfl ?_
        obtain ⟨zo8, ho8h, ho8, hf⟩ := rfs2 hf
        refine CV0v dX1_deliverUpTo_32 (mX1_deliverFirst hst ho8) tk_804 iX1_deliverFirst k2 (by decide) rfl ⟨by decide, by decide⟩ ⟨by decide, by decide⟩ (Nat.le_of_ble_eq_true rfl) ?_
        refine S_iinc_2 (v := x2 + 1) dX1_deliverUpTo_35 (congrArg (fun w => x2 + w) (by decide)) rfl (by decide) ?_
        refine J_goto (tgt := 13) dX1_deliverUpTo_38 (by decide) ?_
        refine J.sub (jsub_s (jsub_s (jsub_s (jsub_nil _)))) ?_
        exact hq13 _ _ _ _ _ _ hf
theorem wfX1_deliverUpTo {g : JG} (hst : (jl g).stackTraces = false)   {a0 : Nat} {x1 : Int32} {z : Nat} {h : AH} {o : Int32 × Nat × AH} (hf : fX1_deliverUpTo  a0 x1 z h = some o) : J g MX1_deliverUpTo (jN g (some (.int o.1), o.2.1, o.2.2) rmX1_deliverUpTo.cells rmX1_deliverUpTo.slots) 0 [some (.ref a0), some (.int x1), none] [] z h 0 0 := by
  unfold fX1_deliverUpTo at hf
  refine J_aload_n dX1_deliverUpTo_0 rfl rfl ?_
  obtain ⟨k1, hf⟩ := gds hf
  obtain ⟨b2, rb2, hf⟩ := rfs hf
  refine G_1_2 dX1_deliverUpTo_1 tk_207 k1 rb2 ?_
  refine J_aload_n dX1_deliverUpTo_4 rfl rfl ?_
  obtain ⟨b3, rb3, hf⟩ := rfs hf
  refine G_1_0 dX1_deliverUpTo_5 tk_205 k1 rb3 ?_
  obtain ⟨k4, hf⟩ := gds hf
  obtain ⟨zo5, ho5h, ho5, hf⟩ := rfs2 hf
  refine CV1v dX1_deliverUpTo_8 (mX7_read hst ho5) tk_780 iX7_read k4 (by decide) rfl ⟨by decide, by decide⟩ ⟨by decide, by decide⟩ (Nat.le_of_ble_eq_true rfl) ?_
  refine J_iconst (v := 0) dX1_deliverUpTo_11 (by decide) ?_
  refine S_istore_n_2 dX1_deliverUpTo_12 rfl (by decide) ?_
  refine J.sub (jsub_s (jsub_s (jsub_s (jsub_nil _)))) ?_
  exact wlX1_deliverUpTo_13 hst   _ _ _ _ _ _ _ hf
theorem mX1_deliverUpTo {g : JG} (hst : (jl g).stackTraces = false) {a0 : Nat} {x1 : Int32} {z : Nat} {h : AH} {o : Int32 × Nat × AH} (hf : fX1_deliverUpTo a0 x1 z h = some o) : jMet g yX1_deliverUpTo (wj yX1_deliverUpTo cX1_deliverUpTo 3 (some .int)) rmX1_deliverUpTo [.ref a0, .int x1] z h (some (.int o.1), o.2.1, o.2.2) :=
  jMet_mk (by decide) (Nat.le_of_ble_eq_true rfl) [some (.ref a0), some (.int x1), none] rfl (wfX1_deliverUpTo hst hf)
def fX1_end  (a0 : Nat) (x1 : Int32) (z : Nat) (h : AH) : Option (Int32 × Nat × AH) :=
  gd (kd h a0 = 2) (Option.bind (rv h a0 0) (fun b2 => gd (kd h b2 = 1) (bd3 (fX0_heldBy b2 x1 z h) (fun vo4 zo4 ho4h => gd (kd ho4h a0 = 2) (Option.bind (rv ho4h a0 0) (fun b6 => gd (kd ho4h b6 = 1) (bd2 (fX0_dismiss b6 x1 zo4 ho4h) (fun zo8 ho8h => gd (kd ho8h a0 = 2) (Option.bind (rv ho8h a0 1) (fun b10 => Option.bind (rv ho8h a0 0) (fun b11 => gd (kd ho8h b11 = 1) (bd3 (fX0_settle b11 zo8 ho8h) (fun vo13 zo13 ho13h => gd (kd ho13h b10 = 7) (bd2 (fX6_add b10 7 vo13 zo13 ho13h) (fun zo15 ho15h => some (vo4, zo15, ho15h))))))))))))))))
theorem wfX1_end {g : JG} (hst : (jl g).stackTraces = false)   {a0 : Nat} {x1 : Int32} {z : Nat} {h : AH} {o : Int32 × Nat × AH} (hf : fX1_end  a0 x1 z h = some o) : J g MX1_end (jN g (some (.int o.1), o.2.1, o.2.2) rmX1_end.cells rmX1_end.slots) 0 [some (.ref a0), some (.int x1), none] [] z h 0 0 := by
  unfold fX1_end at hf
  refine J_aload_n dX1_end_0 rfl rfl ?_
  obtain ⟨k1, hf⟩ := gds hf
  obtain ⟨b2, rb2, hf⟩ := rfs hf
  refine G_1_0 dX1_end_1 tk_205 k1 rb2 ?_
  refine J_iload_n dX1_end_4 rfl rfl ?_
  obtain ⟨k3, hf⟩ := gds hf
  obtain ⟨vo4, zo4, ho4h, ho4, hf⟩ := rfs3 hf
  refine CV1i dX1_end_5 (mX0_heldBy hst ho4) tk_697 iX0_heldBy k3 (by decide) rfl ⟨by decide, by decide⟩ ⟨by decide, by decide⟩ (Nat.le_of_ble_eq_true rfl) ?_
  refine S_istore_n_2 dX1_end_8 rfl (by decide) ?_
  refine J_aload_n dX1_end_9 rfl rfl ?_
  obtain ⟨k5, hf⟩ := gds hf
  obtain ⟨b6, rb6, hf⟩ := rfs hf
  refine G_1_0 dX1_end_10 tk_205 k5 rb6 ?_
  refine J_iload_n dX1_end_13 rfl rfl ?_
  obtain ⟨k7, hf⟩ := gds hf
  obtain ⟨zo8, ho8h, ho8, hf⟩ := rfs2 hf
  refine CV1v dX1_end_14 (mX0_dismiss hst ho8) tk_713 iX0_dismiss k7 (by decide) rfl ⟨by decide, by decide⟩ ⟨by decide, by decide⟩ (Nat.le_of_ble_eq_true rfl) ?_
  refine J_aload_n dX1_end_17 rfl rfl ?_
  obtain ⟨k9, hf⟩ := gds hf
  obtain ⟨b10, rb10, hf⟩ := rfs hf
  refine G_1_1 dX1_end_18 tk_206 k9 rb10 ?_
  refine J_bipush (v := 7) dX1_end_21 (by decide) ?_
  refine J_aload_n dX1_end_23 rfl rfl ?_
  obtain ⟨b11, rb11, hf⟩ := rfs hf
  refine G_1_0 dX1_end_24 tk_205 k9 rb11 ?_
  obtain ⟨k12, hf⟩ := gds hf
  obtain ⟨vo13, zo13, ho13h, ho13, hf⟩ := rfs3 hf
  refine CV0i dX1_end_27 (mX0_settle hst ho13) tk_675 iX0_settle k12 (by decide) rfl ⟨by decide, by decide⟩ ⟨by decide, by decide⟩ (Nat.le_of_ble_eq_true rfl) ?_
  obtain ⟨k14, hf⟩ := gds hf
  obtain ⟨zo15, ho15h, ho15, hf⟩ := rfs2 hf
  refine CV2v dX1_end_30 (mX6_add hst ho15) tk_666 iX6_add k14 (by decide) rfl ⟨by decide, by decide⟩ ⟨by decide, by decide⟩ (Nat.le_of_ble_eq_true rfl) ?_
  refine J_iload_n dX1_end_33 rfl rfl ?_
  cases hf
  exact J_iretN dX1_end_34 rfl (by decide) (by decide)
theorem mX1_end {g : JG} (hst : (jl g).stackTraces = false) {a0 : Nat} {x1 : Int32} {z : Nat} {h : AH} {o : Int32 × Nat × AH} (hf : fX1_end a0 x1 z h = some o) : jMet g yX1_end (wj yX1_end cX1_end 3 (some .int)) rmX1_end [.ref a0, .int x1] z h (some (.int o.1), o.2.1, o.2.2) :=
  jMet_mk (by decide) (Nat.le_of_ble_eq_true rfl) [some (.ref a0), some (.int x1), none] rfl (wfX1_end hst hf)
def fX1_init  (a0 : Nat) (a1 : Nat) (a2 : Nat) (a3 : Nat) (z : Nat) (h : AH) : Option (Nat × AH) :=
  gd (kd h a0 = 2) (bl (wR h a0 0 (some a1)) (fun h2 => bl (wR h2 a0 1 (some a2)) (fun h4 => bl (wR h4 a0 2 (some a3)) (fun h6 => some (z, h6)))))
theorem wfX1_init {g : JG} (hst : (jl g).stackTraces = false)   {a0 : Nat} {a1 : Nat} {a2 : Nat} {a3 : Nat} {z : Nat} {h : AH} {o : Nat × AH} (hf : fX1_init  a0 a1 a2 a3 z h = some o) : J g MX1_init (jN g (none, o.1, o.2) rmX1_init.cells rmX1_init.slots) 0 [some (.ref a0), some (.ref a1), some (.ref a2), some (.ref a3)] [] z h 0 0 := by
  unfold fX1_init at hf
  refine J_aload_n dX1_init_0 rfl rfl ?_
  refine J_objInit dX1_init_1 tk_204 tk_25 tk_26 (by decide) (Nat.le_of_ble_eq_true rfl) ?_
  refine J_aload_n dX1_init_4 rfl rfl ?_
  refine J_aload_n dX1_init_5 rfl rfl ?_
  obtain ⟨k1, hf⟩ := gds hf
  refine P_1_0 dX1_init_6 tk_205 k1 rfl rfl ?_
  obtain ⟨h2, eh2, hf⟩ := bls hf
  refine J_h eh2 ?_
  refine J_aload_n dX1_init_9 rfl rfl ?_
  refine J_aload_n dX1_init_10 rfl rfl ?_
  have k3 : kd h2 a0 = 2 := by rw [eh2]; exact k1
  refine P_1_1 dX1_init_11 tk_206 k3 rfl rfl ?_
  obtain ⟨h4, eh4, hf⟩ := bls hf
  refine J_h eh4 ?_
  refine J_aload_n dX1_init_14 rfl rfl ?_
  refine J_aload_n dX1_init_15 rfl rfl ?_
  have k5 : kd h4 a0 = 2 := by rw [eh4]; exact k3
  refine P_1_2 dX1_init_16 tk_207 k5 rfl rfl ?_
  obtain ⟨h6, eh6, hf⟩ := bls hf
  refine J_h eh6 ?_
  cases hf
  exact J_vretN dX1_init_19 rfl (by decide) (by decide)
theorem mX1_init {g : JG} (hst : (jl g).stackTraces = false) {a0 : Nat} {a1 : Nat} {a2 : Nat} {a3 : Nat} {z : Nat} {h : AH} {o : Nat × AH} (hf : fX1_init a0 a1 a2 a3 z h = some o) : jMet g yX1_init (wj yX1_init cX1_init 4 none) rmX1_init [.ref a0, .ref a1, .ref a2, .ref a3] z h (none, o.1, o.2) :=
  jMet_mk (by decide) (Nat.le_of_ble_eq_true rfl) [some (.ref a0), some (.ref a1), some (.ref a2), some (.ref a3)] rfl (wfX1_init hst hf)
def fX1_outcomeOf  (a0 : Nat) (x1 : Int32) (x2 : Int32) (z : Nat) (h : AH) : Option (Int32 × Nat × AH) :=
  gd (kd h a0 = 2) (Option.bind (rv h a0 0) (fun b2 => gd (kd h b2 = 1) (bd3 (fX0_holdersInWay b2 x1 x2 z h) (fun vo4 zo4 ho4h => (if vo4 = 0 then (some (0, zo4, ho4h)) else (gd (kd ho4h a0 = 2) (Option.bind (rv ho4h a0 0) (fun b7 => gd (kd ho4h b7 = 1) (bd3 (fX0_covers b7 x1 x2 zo4 ho4h) (fun vo9 zo9 ho9h => (if vo9 = 0 then (gd (kd ho9h a0 = 2) (Option.bind (rv ho9h a0 0) (fun b12 => gd (kd ho9h b12 = 1) (bd3 (fX0_youngerThan b12 x1 vo4 zo9 ho9h) (fun vo14 zo14 ho14h => gd (kd ho14h a0 = 2) (Option.bind (rv ho14h a0 0) (fun b16 => gd (kd ho14h b16 = 1) ((if (iv ho14h b16 10) = 1 then ((if vo14 = vo4 then (some (1, zo14, ho14h)) else (some (2, zo14, ho14h)))) else (Option.bind (rv ho14h a0 0) (fun b19 => gd (kd ho14h b19 = 1) ((if (iv ho14h b19 10) = 2 then ((if vo14 = 0 then (some (1, zo14, ho14h)) else ((if vo14 = vo4 then (some (3, zo14, ho14h)) else (some (4, zo14, ho14h)))))) else (some (1, zo14, ho14h))))))))))))))) else (some (0, zo9, ho9h)))))))))))))
theorem wfX1_outcomeOf {g : JG} (hst : (jl g).stackTraces = false)   {a0 : Nat} {x1 : Int32} {x2 : Int32} {z : Nat} {h : AH} {o : Int32 × Nat × AH} (hf : fX1_outcomeOf  a0 x1 x2 z h = some o) : J g MX1_outcomeOf (jN g (some (.int o.1), o.2.1, o.2.2) rmX1_outcomeOf.cells rmX1_outcomeOf.slots) 0 [some (.ref a0), some (.int x1), some (.int x2), none, none] [] z h 0 0 := by
  unfold fX1_outcomeOf at hf
  refine J_aload_n dX1_outcomeOf_0 rfl rfl ?_
  obtain ⟨k1, hf⟩ := gds hf
  obtain ⟨b2, rb2, hf⟩ := rfs hf
  refine G_1_0 dX1_outcomeOf_1 tk_205 k1 rb2 ?_
  refine J_iload_n dX1_outcomeOf_4 rfl rfl ?_
  refine J_iload_n dX1_outcomeOf_5 rfl rfl ?_
  obtain ⟨k3, hf⟩ := gds hf
  obtain ⟨vo4, zo4, ho4h, ho4, hf⟩ := rfs3 hf
  refine CV2i dX1_outcomeOf_6 (mX0_holdersInWay hst ho4) tk_648 iX0_holdersInWay k3 (by decide) rfl ⟨by decide, by decide⟩ ⟨by decide, by decide⟩ (Nat.le_of_ble_eq_true rfl) ?_
  refine S_istore_n_3 dX1_outcomeOf_9 rfl (by decide) ?_
  refine J_iload_n dX1_outcomeOf_10 rfl rfl ?_
  rcases br hf with ⟨c5, hf⟩ | ⟨c5, hf⟩
  · refine J_if_eq (tgt := 26) dX1_outcomeOf_11 (by decide) (fun _ => ?_) (fun w => absurd c5 w)
    refine J_iconst (v := 0) dX1_outcomeOf_26 (by decide) ?_
    cases hf
    exact J_iretN dX1_outcomeOf_27 rfl (by decide) (by decide)
  · refine J_if_eq (tgt := 26) dX1_outcomeOf_11 (by decide) (fun w => absurd w c5) (fun _ => ?_)
    refine J_aload_n dX1_outcomeOf_14 rfl rfl ?_
    obtain ⟨k6, hf⟩ := gds hf
    obtain ⟨b7, rb7, hf⟩ := rfs hf
    refine G_1_0 dX1_outcomeOf_15 tk_205 k6 rb7 ?_
    refine J_iload_n dX1_outcomeOf_18 rfl rfl ?_
    refine J_iload_n dX1_outcomeOf_19 rfl rfl ?_
    obtain ⟨k8, hf⟩ := gds hf
    obtain ⟨vo9, zo9, ho9h, ho9, hf⟩ := rfs3 hf
    refine CV2i dX1_outcomeOf_20 (mX0_covers hst ho9) tk_643 iX0_covers k8 (by decide) rfl ⟨by decide, by decide⟩ ⟨by decide, by decide⟩ (Nat.le_of_ble_eq_true rfl) ?_
    rcases br hf with ⟨c10, hf⟩ | ⟨c10, hf⟩
    · refine J_if_eq (tgt := 28) dX1_outcomeOf_23 (by decide) (fun _ => ?_) (fun w => absurd c10 w)
      refine J_aload_n dX1_outcomeOf_28 rfl rfl ?_
      obtain ⟨k11, hf⟩ := gds hf
      obtain ⟨b12, rb12, hf⟩ := rfs hf
      refine G_1_0 dX1_outcomeOf_29 tk_205 k11 rb12 ?_
      refine J_iload_n dX1_outcomeOf_32 rfl rfl ?_
      refine J_iload_n dX1_outcomeOf_33 rfl rfl ?_
      obtain ⟨k13, hf⟩ := gds hf
      obtain ⟨vo14, zo14, ho14h, ho14, hf⟩ := rfs3 hf
      refine CV2i dX1_outcomeOf_34 (mX0_youngerThan hst ho14) tk_649 iX0_youngerThan k13 (by decide) rfl ⟨by decide, by decide⟩ ⟨by decide, by decide⟩ (Nat.le_of_ble_eq_true rfl) ?_
      refine S_istore_4 dX1_outcomeOf_37 rfl (by decide) ?_
      refine J_aload_n dX1_outcomeOf_39 rfl rfl ?_
      obtain ⟨k15, hf⟩ := gds hf
      obtain ⟨b16, rb16, hf⟩ := rfs hf
      refine G_1_0 dX1_outcomeOf_40 tk_205 k15 rb16 ?_
      obtain ⟨k17, hf⟩ := gds hf
      refine G_0_10 dX1_outcomeOf_43 tk_116 k17 ?_
      refine J_iconst (v := 1) dX1_outcomeOf_46 (by decide) ?_
      rcases br hf with ⟨c18, hf⟩ | ⟨c18, hf⟩
      · refine J_icmp_ne (tgt := 62) dX1_outcomeOf_47 (by decide) (fun w => absurd c18 w) (fun _ => ?_)
        refine J_iload dX1_outcomeOf_50 rfl ?_
        refine J_iload_n dX1_outcomeOf_52 rfl rfl ?_
        rcases br hf with ⟨c24, hf⟩ | ⟨c24, hf⟩
        · refine J_icmp_ne (tgt := 60) dX1_outcomeOf_53 (by decide) (fun w => absurd c24 w) (fun _ => ?_)
          refine J_iconst (v := 1) dX1_outcomeOf_56 (by decide) ?_
          refine J_goto (tgt := 61) dX1_outcomeOf_57 (by decide) ?_
          cases hf
          exact J_iretN dX1_outcomeOf_61 rfl (by decide) (by decide)
        · refine J_icmp_ne (tgt := 60) dX1_outcomeOf_53 (by decide) (fun _ => ?_) (fun w => absurd w c24)
          refine J_iconst (v := 2) dX1_outcomeOf_60 (by decide) ?_
          cases hf
          exact J_iretN dX1_outcomeOf_61 rfl (by decide) (by decide)
      · refine J_icmp_ne (tgt := 62) dX1_outcomeOf_47 (by decide) (fun _ => ?_) (fun w => absurd w c18)
        refine J_aload_n dX1_outcomeOf_62 rfl rfl ?_
        obtain ⟨b19, rb19, hf⟩ := rfs hf
        refine G_1_0 dX1_outcomeOf_63 tk_205 k15 rb19 ?_
        obtain ⟨k20, hf⟩ := gds hf
        refine G_0_10 dX1_outcomeOf_66 tk_116 k20 ?_
        refine J_iconst (v := 2) dX1_outcomeOf_69 (by decide) ?_
        rcases br hf with ⟨c21, hf⟩ | ⟨c21, hf⟩
        · refine J_icmp_ne (tgt := 90) dX1_outcomeOf_70 (by decide) (fun w => absurd c21 w) (fun _ => ?_)
          refine J_iload dX1_outcomeOf_73 rfl ?_
          rcases br hf with ⟨c22, hf⟩ | ⟨c22, hf⟩
          · refine J_if_eq (tgt := 90) dX1_outcomeOf_75 (by decide) (fun _ => ?_) (fun w => absurd c22 w)
            refine J_iconst (v := 1) dX1_outcomeOf_90 (by decide) ?_
            cases hf
            exact J_iretN dX1_outcomeOf_91 rfl (by decide) (by decide)
          · refine J_if_eq (tgt := 90) dX1_outcomeOf_75 (by decide) (fun w => absurd w c22) (fun _ => ?_)
            refine J_iload dX1_outcomeOf_78 rfl ?_
            refine J_iload_n dX1_outcomeOf_80 rfl rfl ?_
            rcases br hf with ⟨c23, hf⟩ | ⟨c23, hf⟩
            · refine J_icmp_ne (tgt := 88) dX1_outcomeOf_81 (by decide) (fun w => absurd c23 w) (fun _ => ?_)
              refine J_iconst (v := 3) dX1_outcomeOf_84 (by decide) ?_
              refine J_goto (tgt := 89) dX1_outcomeOf_85 (by decide) ?_
              cases hf
              exact J_iretN dX1_outcomeOf_89 rfl (by decide) (by decide)
            · refine J_icmp_ne (tgt := 88) dX1_outcomeOf_81 (by decide) (fun _ => ?_) (fun w => absurd w c23)
              refine J_iconst (v := 4) dX1_outcomeOf_88 (by decide) ?_
              cases hf
              exact J_iretN dX1_outcomeOf_89 rfl (by decide) (by decide)
        · refine J_icmp_ne (tgt := 90) dX1_outcomeOf_70 (by decide) (fun _ => ?_) (fun w => absurd w c21)
          refine J_iconst (v := 1) dX1_outcomeOf_90 (by decide) ?_
          cases hf
          exact J_iretN dX1_outcomeOf_91 rfl (by decide) (by decide)
    · refine J_if_eq (tgt := 28) dX1_outcomeOf_23 (by decide) (fun w => absurd w c10) (fun _ => ?_)
      refine J_iconst (v := 0) dX1_outcomeOf_26 (by decide) ?_
      cases hf
      exact J_iretN dX1_outcomeOf_27 rfl (by decide) (by decide)
theorem mX1_outcomeOf {g : JG} (hst : (jl g).stackTraces = false) {a0 : Nat} {x1 : Int32} {x2 : Int32} {z : Nat} {h : AH} {o : Int32 × Nat × AH} (hf : fX1_outcomeOf a0 x1 x2 z h = some o) : jMet g yX1_outcomeOf (wj yX1_outcomeOf cX1_outcomeOf 5 (some .int)) rmX1_outcomeOf [.ref a0, .int x1, .int x2] z h (some (.int o.1), o.2.1, o.2.2) :=
  jMet_mk (by decide) (Nat.le_of_ble_eq_true rfl) [some (.ref a0), some (.int x1), some (.int x2), none, none] rfl (wfX1_outcomeOf hst hf)
def bX1_ask_136  (a0 : Nat) (x1 : Int32) (z : Nat) (h : AH) : Option (Int32 × Nat × AH) :=
  gd (kd h a0 = 2) (Option.bind (rv h a0 0) (fun b2 => gd (kd h b2 = 1) (bd3 (fX0_has b2 x1 z h) (fun vo4 zo4 ho4h => (if vo4 = 0 then (some ((-1), zo4, ho4h)) else (gd (kd ho4h a0 = 2) (Option.bind (rv ho4h a0 0) (fun b7 => gd (kd ho4h b7 = 1) (Option.bind (rv ho4h b7 4) (fun b9 => gd (kd ho4h b9 = 13) (gd (¬ ((x1 : Int32) < 0 ∨ ln ho4h b9 ≤ Int32.toNatClampNeg x1)) (some ((iv ho4h b9 (Int32.toNatClampNeg x1)), zo4, ho4h)))))))))))))
def bX1_ask_111  (a0 : Nat) (x1 : Int32) (x3 : Int32) (z : Nat) (h : AH) : Option (Int32 × Nat × AH) :=
  (if x3 = 0 then (bX1_ask_136  a0 x1 z h) else ((if x3 = 1 then (bX1_ask_136  a0 x1 z h) else (gd (kd h a0 = 2) (Option.bind (rv h a0 1) (fun b4 => Option.bind (rv h a0 0) (fun b5 => gd (kd h b5 = 1) (bd3 (fX0_settle b5 z h) (fun vo7 zo7 ho7h => gd (kd ho7h b4 = 7) (bd2 (fX6_add b4 7 vo7 zo7 ho7h) (fun zo9 ho9h => bX1_ask_136  a0 x1 zo9 ho9h)))))))))))
def bX1_ask_102  (a0 : Nat) (x1 : Int32) (x2 : Int32) (x3 : Int32) (z : Nat) (h : AH) : Option (Int32 × Nat × AH) :=
  gd (kd h a0 = 2) (Option.bind (rv h a0 0) (fun b2 => gd (kd h b2 = 1) (bd2 (fX0_queueUp b2 x1 x2 z h) (fun zo4 ho4h => bX1_ask_111  a0 x1 x3 zo4 ho4h))))
def bX1_ask_92  (a0 : Nat) (x1 : Int32) (x2 : Int32) (x3 : Int32) (z : Nat) (h : AH) : Option (Int32 × Nat × AH) :=
  (if x3 = 1 then (bX1_ask_102  a0 x1 x2 x3 z h) else ((if x3 = 4 then (bX1_ask_102  a0 x1 x2 x3 z h) else (bX1_ask_111  a0 x1 x3 z h))))
def bX1_ask_73  (a0 : Nat) (x1 : Int32) (x2 : Int32) (x3 : Int32) (z : Nat) (h : AH) : Option (Int32 × Nat × AH) :=
  gd (kd h a0 = 2) (Option.bind (rv h a0 0) (fun b2 => gd (kd h b2 = 1) (bd2 (fX0_grant b2 x1 x2 z h) (fun zo4 ho4h => gd (kd ho4h a0 = 2) (Option.bind (rv ho4h a0 1) (fun b6 => gd (kd ho4h b6 = 7) (bd2 (fX6_add b6 7 1 zo4 ho4h) (fun zo8 ho8h => bX1_ask_92  a0 x1 x2 x3 zo8 ho8h))))))))
def bX1_ask_64  (a0 : Nat) (x1 : Int32) (x2 : Int32) (x3 : Int32) (z : Nat) (h : AH) : Option (Int32 × Nat × AH) :=
  (if x3 = 0 then (bX1_ask_73  a0 x1 x2 x3 z h) else ((if x3 = 3 then (bX1_ask_73  a0 x1 x2 x3 z h) else (bX1_ask_92  a0 x1 x2 x3 z h))))
def bX1_ask_43  (a0 : Nat) (x1 : Int32) (x2 : Int32) (x3 : Int32) (z : Nat) (h : AH) : Option (Int32 × Nat × AH) :=
  gd (kd h a0 = 2) (Option.bind (rv h a0 0) (fun b2 => Option.bind (rv h a0 0) (fun b3 => gd (kd h b3 = 1) (bd3 (fX0_holdersInWay b3 x1 x2 z h) (fun vo5 zo5 ho5h => gd (kd ho5h b2 = 1) (bd3 (fX0_youngerThan b2 x1 vo5 zo5 ho5h) (fun vo7 zo7 ho7h => gd (kd ho7h a0 = 2) (bd2 (fX1_strikeAll a0 vo7 zo7 ho7h) (fun zo9 ho9h => bX1_ask_64  a0 x1 x2 x3 zo9 ho9h)))))))))
def bX1_ask_33  (a0 : Nat) (x1 : Int32) (x2 : Int32) (x3 : Int32) (z : Nat) (h : AH) : Option (Int32 × Nat × AH) :=
  (if x3 = 3 then (bX1_ask_43  a0 x1 x2 x3 z h) else ((if x3 = 4 then (bX1_ask_43  a0 x1 x2 x3 z h) else (bX1_ask_64  a0 x1 x2 x3 z h))))
def fX1_ask  (a0 : Nat) (x1 : Int32) (x2 : Int32) (z : Nat) (h : AH) : Option (Int32 × Nat × AH) :=
  gd (kd h a0 = 2) (Option.bind (rv h a0 0) (fun b2 => gd (kd h b2 = 1) (bd3 (fX0_covers b2 x1 x2 z h) (fun vo4 zo4 ho4h => (if vo4 = 0 then (gd (kd ho4h a0 = 2) (bd3 (fX1_outcomeOf a0 x1 x2 zo4 ho4h) (fun vo7 zo7 ho7h => (if vo7 = 2 then (gd (kd ho7h a0 = 2) (bd2 (fX1_strikeAll a0 (1 <<< (x1 &&& 31)) zo7 ho7h) (fun zo10 ho10h => bX1_ask_33  a0 x1 x2 vo7 zo10 ho10h))) else (bX1_ask_33  a0 x1 x2 vo7 zo7 ho7h))))) else (some (0, zo4, ho4h)))))))
theorem wbX1_ask_136 {g : JG} (hst : (jl g).stackTraces = false)   {a0 : Nat} {x1 : Int32} {z : Nat} {h : AH} {o : Int32 × Nat × AH} (hf : bX1_ask_136  a0 x1 z h = some o) : J g MX1_ask (jN g (some (.int o.1), o.2.1, o.2.2) rmX1_ask.cells rmX1_ask.slots) 136 [some (.ref a0), some (.int x1), none, none] [] z h 0 0 := by
  unfold bX1_ask_136 at hf
  refine J_aload_n dX1_ask_136 rfl rfl ?_
  obtain ⟨k1, hf⟩ := gds hf
  obtain ⟨b2, rb2, hf⟩ := rfs hf
  refine G_1_0 dX1_ask_137 tk_205 k1 rb2 ?_
  refine J_iload_n dX1_ask_140 rfl rfl ?_
  obtain ⟨k3, hf⟩ := gds hf
  obtain ⟨vo4, zo4, ho4h, ho4, hf⟩ := rfs3 hf
  refine CV1i dX1_ask_141 (mX0_has hst ho4) tk_676 iX0_has k3 (by decide) rfl ⟨by decide, by decide⟩ ⟨by decide, by decide⟩ (Nat.le_of_ble_eq_true rfl) ?_
  rcases br hf with ⟨c5, hf⟩ | ⟨c5, hf⟩
  · refine J_if_eq (tgt := 159) dX1_ask_144 (by decide) (fun _ => ?_) (fun w => absurd c5 w)
    refine J_iconst (v := (-1)) dX1_ask_159 (by decide) ?_
    cases hf
    exact J_iretN dX1_ask_160 rfl (by decide) (by decide)
  · refine J_if_eq (tgt := 159) dX1_ask_144 (by decide) (fun w => absurd w c5) (fun _ => ?_)
    refine J_aload_n dX1_ask_147 rfl rfl ?_
    obtain ⟨k6, hf⟩ := gds hf
    obtain ⟨b7, rb7, hf⟩ := rfs hf
    refine G_1_0 dX1_ask_148 tk_205 k6 rb7 ?_
    obtain ⟨k8, hf⟩ := gds hf
    obtain ⟨b9, rb9, hf⟩ := rfs hf
    refine G_0_4 dX1_ask_151 tk_103 k8 rb9 ?_
    refine J_iload_n dX1_ask_154 rfl rfl ?_
    obtain ⟨k10, hf⟩ := gds hf
    obtain ⟨n11, hf⟩ := gds hf
    refine J_iaload dX1_ask_155 k10 n11 ?_
    refine J_goto (tgt := 160) dX1_ask_156 (by decide) ?_
    cases hf
    exact J_iretN dX1_ask_160 rfl (by decide) (by decide)
theorem wbX1_ask_111 {g : JG} (hst : (jl g).stackTraces = false)   {a0 : Nat} {x1 : Int32} {x3 : Int32} {z : Nat} {h : AH} {o : Int32 × Nat × AH} (hf : bX1_ask_111  a0 x1 x3 z h = some o) : J g MX1_ask (jN g (some (.int o.1), o.2.1, o.2.2) rmX1_ask.cells rmX1_ask.slots) 111 [some (.ref a0), some (.int x1), none, some (.int x3)] [] z h 0 0 := by
  unfold bX1_ask_111 at hf
  refine J_iload_n dX1_ask_111 rfl rfl ?_
  rcases br hf with ⟨c1, hf⟩ | ⟨c1, hf⟩
  · refine J_if_eq (tgt := 136) dX1_ask_112 (by decide) (fun _ => ?_) (fun w => absurd c1 w)
    refine J.sub (jsub_s (jsub_s (jsub_n (jsub_n (jsub_nil _))))) ?_
    exact wbX1_ask_136 hst   hf
  · refine J_if_eq (tgt := 136) dX1_ask_112 (by decide) (fun w => absurd w c1) (fun _ => ?_)
    refine J_iload_n dX1_ask_115 rfl rfl ?_
    refine J_iconst (v := 1) dX1_ask_116 (by decide) ?_
    rcases br hf with ⟨c2, hf⟩ | ⟨c2, hf⟩
    · refine J_icmp_eq (tgt := 136) dX1_ask_117 (by decide) (fun _ => ?_) (fun w => absurd c2 w)
      refine J.sub (jsub_s (jsub_s (jsub_n (jsub_n (jsub_nil _))))) ?_
      exact wbX1_ask_136 hst   hf
    · refine J_icmp_eq (tgt := 136) dX1_ask_117 (by decide) (fun w => absurd w c2) (fun _ => ?_)
      refine J_aload_n dX1_ask_120 rfl rfl ?_
      obtain ⟨k3, hf⟩ := gds hf
      obtain ⟨b4, rb4, hf⟩ := rfs hf
      refine G_1_1 dX1_ask_121 tk_206 k3 rb4 ?_
      refine J_bipush (v := 7) dX1_ask_124 (by decide) ?_
      refine J_aload_n dX1_ask_126 rfl rfl ?_
      obtain ⟨b5, rb5, hf⟩ := rfs hf
      refine G_1_0 dX1_ask_127 tk_205 k3 rb5 ?_
      obtain ⟨k6, hf⟩ := gds hf
      obtain ⟨vo7, zo7, ho7h, ho7, hf⟩ := rfs3 hf
      refine CV0i dX1_ask_130 (mX0_settle hst ho7) tk_675 iX0_settle k6 (by decide) rfl ⟨by decide, by decide⟩ ⟨by decide, by decide⟩ (Nat.le_of_ble_eq_true rfl) ?_
      obtain ⟨k8, hf⟩ := gds hf
      obtain ⟨zo9, ho9h, ho9, hf⟩ := rfs2 hf
      refine CV2v dX1_ask_133 (mX6_add hst ho9) tk_666 iX6_add k8 (by decide) rfl ⟨by decide, by decide⟩ ⟨by decide, by decide⟩ (Nat.le_of_ble_eq_true rfl) ?_
      refine J.sub (jsub_s (jsub_s (jsub_n (jsub_n (jsub_nil _))))) ?_
      exact wbX1_ask_136 hst   hf
theorem wbX1_ask_102 {g : JG} (hst : (jl g).stackTraces = false)   {a0 : Nat} {x1 : Int32} {x2 : Int32} {x3 : Int32} {z : Nat} {h : AH} {o : Int32 × Nat × AH} (hf : bX1_ask_102  a0 x1 x2 x3 z h = some o) : J g MX1_ask (jN g (some (.int o.1), o.2.1, o.2.2) rmX1_ask.cells rmX1_ask.slots) 102 [some (.ref a0), some (.int x1), some (.int x2), some (.int x3)] [] z h 0 0 := by
  unfold bX1_ask_102 at hf
  refine J_aload_n dX1_ask_102 rfl rfl ?_
  obtain ⟨k1, hf⟩ := gds hf
  obtain ⟨b2, rb2, hf⟩ := rfs hf
  refine G_1_0 dX1_ask_103 tk_205 k1 rb2 ?_
  refine J_iload_n dX1_ask_106 rfl rfl ?_
  refine J_iload_n dX1_ask_107 rfl rfl ?_
  obtain ⟨k3, hf⟩ := gds hf
  obtain ⟨zo4, ho4h, ho4, hf⟩ := rfs2 hf
  refine CV2v dX1_ask_108 (mX0_queueUp hst ho4) tk_671 iX0_queueUp k3 (by decide) rfl ⟨by decide, by decide⟩ ⟨by decide, by decide⟩ (Nat.le_of_ble_eq_true rfl) ?_
  refine J.sub (jsub_s (jsub_s (jsub_n (jsub_s (jsub_nil _))))) ?_
  exact wbX1_ask_111 hst   hf
theorem wbX1_ask_92 {g : JG} (hst : (jl g).stackTraces = false)   {a0 : Nat} {x1 : Int32} {x2 : Int32} {x3 : Int32} {z : Nat} {h : AH} {o : Int32 × Nat × AH} (hf : bX1_ask_92  a0 x1 x2 x3 z h = some o) : J g MX1_ask (jN g (some (.int o.1), o.2.1, o.2.2) rmX1_ask.cells rmX1_ask.slots) 92 [some (.ref a0), some (.int x1), some (.int x2), some (.int x3)] [] z h 0 0 := by
  unfold bX1_ask_92 at hf
  refine J_iload_n dX1_ask_92 rfl rfl ?_
  refine J_iconst (v := 1) dX1_ask_93 (by decide) ?_
  rcases br hf with ⟨c1, hf⟩ | ⟨c1, hf⟩
  · refine J_icmp_eq (tgt := 102) dX1_ask_94 (by decide) (fun _ => ?_) (fun w => absurd c1 w)
    refine J.sub (jsub_s (jsub_s (jsub_s (jsub_s (jsub_nil _))))) ?_
    exact wbX1_ask_102 hst   hf
  · refine J_icmp_eq (tgt := 102) dX1_ask_94 (by decide) (fun w => absurd w c1) (fun _ => ?_)
    refine J_iload_n dX1_ask_97 rfl rfl ?_
    refine J_iconst (v := 4) dX1_ask_98 (by decide) ?_
    rcases br hf with ⟨c2, hf⟩ | ⟨c2, hf⟩
    · refine J_icmp_ne (tgt := 111) dX1_ask_99 (by decide) (fun w => absurd c2 w) (fun _ => ?_)
      refine J.sub (jsub_s (jsub_s (jsub_s (jsub_s (jsub_nil _))))) ?_
      exact wbX1_ask_102 hst   hf
    · refine J_icmp_ne (tgt := 111) dX1_ask_99 (by decide) (fun _ => ?_) (fun w => absurd w c2)
      refine J.sub (jsub_s (jsub_s (jsub_n (jsub_s (jsub_nil _))))) ?_
      exact wbX1_ask_111 hst   hf
theorem wbX1_ask_73 {g : JG} (hst : (jl g).stackTraces = false)   {a0 : Nat} {x1 : Int32} {x2 : Int32} {x3 : Int32} {z : Nat} {h : AH} {o : Int32 × Nat × AH} (hf : bX1_ask_73  a0 x1 x2 x3 z h = some o) : J g MX1_ask (jN g (some (.int o.1), o.2.1, o.2.2) rmX1_ask.cells rmX1_ask.slots) 73 [some (.ref a0), some (.int x1), some (.int x2), some (.int x3)] [] z h 0 0 := by
  unfold bX1_ask_73 at hf
  refine J_aload_n dX1_ask_73 rfl rfl ?_
  obtain ⟨k1, hf⟩ := gds hf
  obtain ⟨b2, rb2, hf⟩ := rfs hf
  refine G_1_0 dX1_ask_74 tk_205 k1 rb2 ?_
  refine J_iload_n dX1_ask_77 rfl rfl ?_
  refine J_iload_n dX1_ask_78 rfl rfl ?_
  obtain ⟨k3, hf⟩ := gds hf
  obtain ⟨zo4, ho4h, ho4, hf⟩ := rfs2 hf
  refine CV2v dX1_ask_79 (mX0_grant hst ho4) tk_670 iX0_grant k3 (by decide) rfl ⟨by decide, by decide⟩ ⟨by decide, by decide⟩ (Nat.le_of_ble_eq_true rfl) ?_
  refine J_aload_n dX1_ask_82 rfl rfl ?_
  obtain ⟨k5, hf⟩ := gds hf
  obtain ⟨b6, rb6, hf⟩ := rfs hf
  refine G_1_1 dX1_ask_83 tk_206 k5 rb6 ?_
  refine J_bipush (v := 7) dX1_ask_86 (by decide) ?_
  refine J_iconst (v := 1) dX1_ask_88 (by decide) ?_
  obtain ⟨k7, hf⟩ := gds hf
  obtain ⟨zo8, ho8h, ho8, hf⟩ := rfs2 hf
  refine CV2v dX1_ask_89 (mX6_add hst ho8) tk_666 iX6_add k7 (by decide) rfl ⟨by decide, by decide⟩ ⟨by decide, by decide⟩ (Nat.le_of_ble_eq_true rfl) ?_
  refine J.sub (jsub_s (jsub_s (jsub_s (jsub_s (jsub_nil _))))) ?_
  exact wbX1_ask_92 hst   hf
theorem wbX1_ask_64 {g : JG} (hst : (jl g).stackTraces = false)   {a0 : Nat} {x1 : Int32} {x2 : Int32} {x3 : Int32} {z : Nat} {h : AH} {o : Int32 × Nat × AH} (hf : bX1_ask_64  a0 x1 x2 x3 z h = some o) : J g MX1_ask (jN g (some (.int o.1), o.2.1, o.2.2) rmX1_ask.cells rmX1_ask.slots) 64 [some (.ref a0), some (.int x1), some (.int x2), some (.int x3)] [] z h 0 0 := by
  unfold bX1_ask_64 at hf
  refine J_iload_n dX1_ask_64 rfl rfl ?_
  rcases br hf with ⟨c1, hf⟩ | ⟨c1, hf⟩
  · refine J_if_eq (tgt := 73) dX1_ask_65 (by decide) (fun _ => ?_) (fun w => absurd c1 w)
    refine J.sub (jsub_s (jsub_s (jsub_s (jsub_s (jsub_nil _))))) ?_
    exact wbX1_ask_73 hst   hf
  · refine J_if_eq (tgt := 73) dX1_ask_65 (by decide) (fun w => absurd w c1) (fun _ => ?_)
    refine J_iload_n dX1_ask_68 rfl rfl ?_
    refine J_iconst (v := 3) dX1_ask_69 (by decide) ?_
    rcases br hf with ⟨c2, hf⟩ | ⟨c2, hf⟩
    · refine J_icmp_ne (tgt := 92) dX1_ask_70 (by decide) (fun w => absurd c2 w) (fun _ => ?_)
      refine J.sub (jsub_s (jsub_s (jsub_s (jsub_s (jsub_nil _))))) ?_
      exact wbX1_ask_73 hst   hf
    · refine J_icmp_ne (tgt := 92) dX1_ask_70 (by decide) (fun _ => ?_) (fun w => absurd w c2)
      refine J.sub (jsub_s (jsub_s (jsub_s (jsub_s (jsub_nil _))))) ?_
      exact wbX1_ask_92 hst   hf
theorem wbX1_ask_43 {g : JG} (hst : (jl g).stackTraces = false)   {a0 : Nat} {x1 : Int32} {x2 : Int32} {x3 : Int32} {z : Nat} {h : AH} {o : Int32 × Nat × AH} (hf : bX1_ask_43  a0 x1 x2 x3 z h = some o) : J g MX1_ask (jN g (some (.int o.1), o.2.1, o.2.2) rmX1_ask.cells rmX1_ask.slots) 43 [some (.ref a0), some (.int x1), some (.int x2), some (.int x3)] [] z h 0 0 := by
  unfold bX1_ask_43 at hf
  refine J_aload_n dX1_ask_43 rfl rfl ?_
  refine J_aload_n dX1_ask_44 rfl rfl ?_
  obtain ⟨k1, hf⟩ := gds hf
  obtain ⟨b2, rb2, hf⟩ := rfs hf
  refine G_1_0 dX1_ask_45 tk_205 k1 rb2 ?_
  refine J_iload_n dX1_ask_48 rfl rfl ?_
  refine J_aload_n dX1_ask_49 rfl rfl ?_
  obtain ⟨b3, rb3, hf⟩ := rfs hf
  refine G_1_0 dX1_ask_50 tk_205 k1 rb3 ?_
  refine J_iload_n dX1_ask_53 rfl rfl ?_
  refine J_iload_n dX1_ask_54 rfl rfl ?_
  obtain ⟨k4, hf⟩ := gds hf
  obtain ⟨vo5, zo5, ho5h, ho5, hf⟩ := rfs3 hf
  refine CV2i dX1_ask_55 (mX0_holdersInWay hst ho5) tk_648 iX0_holdersInWay k4 (by decide) rfl ⟨by decide, by decide⟩ ⟨by decide, by decide⟩ (Nat.le_of_ble_eq_true rfl) ?_
  obtain ⟨k6, hf⟩ := gds hf
  obtain ⟨vo7, zo7, ho7h, ho7, hf⟩ := rfs3 hf
  refine CV2i dX1_ask_58 (mX0_youngerThan hst ho7) tk_649 iX0_youngerThan k6 (by decide) rfl ⟨by decide, by decide⟩ ⟨by decide, by decide⟩ (Nat.le_of_ble_eq_true rfl) ?_
  obtain ⟨k8, hf⟩ := gds hf
  obtain ⟨zo9, ho9h, ho9, hf⟩ := rfs2 hf
  refine CV1v dX1_ask_61 (mX1_strikeAll hst ho9) tk_653 iX1_strikeAll k8 (by decide) rfl ⟨by decide, by decide⟩ ⟨by decide, by decide⟩ (Nat.le_of_ble_eq_true rfl) ?_
  refine J.sub (jsub_s (jsub_s (jsub_s (jsub_s (jsub_nil _))))) ?_
  exact wbX1_ask_64 hst   hf
theorem wbX1_ask_33 {g : JG} (hst : (jl g).stackTraces = false)   {a0 : Nat} {x1 : Int32} {x2 : Int32} {x3 : Int32} {z : Nat} {h : AH} {o : Int32 × Nat × AH} (hf : bX1_ask_33  a0 x1 x2 x3 z h = some o) : J g MX1_ask (jN g (some (.int o.1), o.2.1, o.2.2) rmX1_ask.cells rmX1_ask.slots) 33 [some (.ref a0), some (.int x1), some (.int x2), some (.int x3)] [] z h 0 0 := by
  unfold bX1_ask_33 at hf
  refine J_iload_n dX1_ask_33 rfl rfl ?_
  refine J_iconst (v := 3) dX1_ask_34 (by decide) ?_
  rcases br hf with ⟨c1, hf⟩ | ⟨c1, hf⟩
  · refine J_icmp_eq (tgt := 43) dX1_ask_35 (by decide) (fun _ => ?_) (fun w => absurd c1 w)
    refine J.sub (jsub_s (jsub_s (jsub_s (jsub_s (jsub_nil _))))) ?_
    exact wbX1_ask_43 hst   hf
  · refine J_icmp_eq (tgt := 43) dX1_ask_35 (by decide) (fun w => absurd w c1) (fun _ => ?_)
    refine J_iload_n dX1_ask_38 rfl rfl ?_
    refine J_iconst (v := 4) dX1_ask_39 (by decide) ?_
    rcases br hf with ⟨c2, hf⟩ | ⟨c2, hf⟩
    · refine J_icmp_ne (tgt := 64) dX1_ask_40 (by decide) (fun w => absurd c2 w) (fun _ => ?_)
      refine J.sub (jsub_s (jsub_s (jsub_s (jsub_s (jsub_nil _))))) ?_
      exact wbX1_ask_43 hst   hf
    · refine J_icmp_ne (tgt := 64) dX1_ask_40 (by decide) (fun _ => ?_) (fun w => absurd w c2)
      refine J.sub (jsub_s (jsub_s (jsub_s (jsub_s (jsub_nil _))))) ?_
      exact wbX1_ask_64 hst   hf
theorem wfX1_ask {g : JG} (hst : (jl g).stackTraces = false)   {a0 : Nat} {x1 : Int32} {x2 : Int32} {z : Nat} {h : AH} {o : Int32 × Nat × AH} (hf : fX1_ask  a0 x1 x2 z h = some o) : J g MX1_ask (jN g (some (.int o.1), o.2.1, o.2.2) rmX1_ask.cells rmX1_ask.slots) 0 [some (.ref a0), some (.int x1), some (.int x2), none] [] z h 0 0 := by
  unfold fX1_ask at hf
  refine J_aload_n dX1_ask_0 rfl rfl ?_
  obtain ⟨k1, hf⟩ := gds hf
  obtain ⟨b2, rb2, hf⟩ := rfs hf
  refine G_1_0 dX1_ask_1 tk_205 k1 rb2 ?_
  refine J_iload_n dX1_ask_4 rfl rfl ?_
  refine J_iload_n dX1_ask_5 rfl rfl ?_
  obtain ⟨k3, hf⟩ := gds hf
  obtain ⟨vo4, zo4, ho4h, ho4, hf⟩ := rfs3 hf
  refine CV2i dX1_ask_6 (mX0_covers hst ho4) tk_643 iX0_covers k3 (by decide) rfl ⟨by decide, by decide⟩ ⟨by decide, by decide⟩ (Nat.le_of_ble_eq_true rfl) ?_
  rcases br hf with ⟨c5, hf⟩ | ⟨c5, hf⟩
  · refine J_if_eq (tgt := 14) dX1_ask_9 (by decide) (fun _ => ?_) (fun w => absurd c5 w)
    refine J_aload_n dX1_ask_14 rfl rfl ?_
    refine J_iload_n dX1_ask_15 rfl rfl ?_
    refine J_iload_n dX1_ask_16 rfl rfl ?_
    obtain ⟨k6, hf⟩ := gds hf
    obtain ⟨vo7, zo7, ho7h, ho7, hf⟩ := rfs3 hf
    refine CV2i dX1_ask_17 (mX1_outcomeOf hst ho7) tk_644 iX1_outcomeOf k6 (by decide) rfl ⟨by decide, by decide⟩ ⟨by decide, by decide⟩ (Nat.le_of_ble_eq_true rfl) ?_
    refine S_istore_n_3 dX1_ask_20 rfl (by decide) ?_
    refine J_iload_n dX1_ask_21 rfl rfl ?_
    refine J_iconst (v := 2) dX1_ask_22 (by decide) ?_
    rcases br hf with ⟨c8, hf⟩ | ⟨c8, hf⟩
    · refine J_icmp_ne (tgt := 33) dX1_ask_23 (by decide) (fun w => absurd c8 w) (fun _ => ?_)
      refine J_aload_n dX1_ask_26 rfl rfl ?_
      refine J_iconst (v := 1) dX1_ask_27 (by decide) ?_
      refine J_iload_n dX1_ask_28 rfl rfl ?_
      refine J_ishl dX1_ask_29 ?_
      obtain ⟨k9, hf⟩ := gds hf
      obtain ⟨zo10, ho10h, ho10, hf⟩ := rfs2 hf
      refine CV1v dX1_ask_30 (mX1_strikeAll hst ho10) tk_653 iX1_strikeAll k9 (by decide) rfl ⟨by decide, by decide⟩ ⟨by decide, by decide⟩ (Nat.le_of_ble_eq_true rfl) ?_
      refine J.sub (jsub_s (jsub_s (jsub_s (jsub_s (jsub_nil _))))) ?_
      exact wbX1_ask_33 hst   hf
    · refine J_icmp_ne (tgt := 33) dX1_ask_23 (by decide) (fun _ => ?_) (fun w => absurd w c8)
      refine J.sub (jsub_s (jsub_s (jsub_s (jsub_s (jsub_nil _))))) ?_
      exact wbX1_ask_33 hst   hf
  · refine J_if_eq (tgt := 14) dX1_ask_9 (by decide) (fun w => absurd w c5) (fun _ => ?_)
    refine J_iconst (v := 0) dX1_ask_12 (by decide) ?_
    cases hf
    exact J_iretN dX1_ask_13 rfl (by decide) (by decide)
theorem mX1_ask {g : JG} (hst : (jl g).stackTraces = false) {a0 : Nat} {x1 : Int32} {x2 : Int32} {z : Nat} {h : AH} {o : Int32 × Nat × AH} (hf : fX1_ask a0 x1 x2 z h = some o) : jMet g yX1_ask (wj yX1_ask cX1_ask 4 (some .int)) rmX1_ask [.ref a0, .int x1, .int x2] z h (some (.int o.1), o.2.1, o.2.2) :=
  jMet_mk (by decide) (Nat.le_of_ble_eq_true rfl) [some (.ref a0), some (.int x1), some (.int x2), none] rfl (wfX1_ask hst hf)
def fX1_giveBack  (a0 : Nat) (x1 : Int32) (x2 : Int32) (z : Nat) (h : AH) : Option (Int32 × Nat × AH) :=
  gd (kd h a0 = 2) (Option.bind (rv h a0 0) (fun b2 => gd (kd h b2 = 1) (bd2 (fX0_letGo b2 x1 x2 z h) (fun zo4 ho4h => gd (kd ho4h a0 = 2) (Option.bind (rv ho4h a0 1) (fun b6 => Option.bind (rv ho4h a0 0) (fun b7 => gd (kd ho4h b7 = 1) (bd3 (fX0_settle b7 zo4 ho4h) (fun vo9 zo9 ho9h => gd (kd ho9h b6 = 7) (bd2 (fX6_add b6 7 vo9 zo9 ho9h) (fun zo11 ho11h => gd (kd ho11h a0 = 2) (Option.bind (rv ho11h a0 0) (fun b13 => gd (kd ho11h b13 = 1) (bd3 (fX0_heldBy b13 x1 zo11 ho11h) (fun vo15 zo15 ho15h => some (vo15, zo15, ho15h))))))))))))))))
theorem wfX1_giveBack {g : JG} (hst : (jl g).stackTraces = false)   {a0 : Nat} {x1 : Int32} {x2 : Int32} {z : Nat} {h : AH} {o : Int32 × Nat × AH} (hf : fX1_giveBack  a0 x1 x2 z h = some o) : J g MX1_giveBack (jN g (some (.int o.1), o.2.1, o.2.2) rmX1_giveBack.cells rmX1_giveBack.slots) 0 [some (.ref a0), some (.int x1), some (.int x2)] [] z h 0 0 := by
  unfold fX1_giveBack at hf
  refine J_aload_n dX1_giveBack_0 rfl rfl ?_
  obtain ⟨k1, hf⟩ := gds hf
  obtain ⟨b2, rb2, hf⟩ := rfs hf
  refine G_1_0 dX1_giveBack_1 tk_205 k1 rb2 ?_
  refine J_iload_n dX1_giveBack_4 rfl rfl ?_
  refine J_iload_n dX1_giveBack_5 rfl rfl ?_
  obtain ⟨k3, hf⟩ := gds hf
  obtain ⟨zo4, ho4h, ho4, hf⟩ := rfs2 hf
  refine CV2v dX1_giveBack_6 (mX0_letGo hst ho4) tk_692 iX0_letGo k3 (by decide) rfl ⟨by decide, by decide⟩ ⟨by decide, by decide⟩ (Nat.le_of_ble_eq_true rfl) ?_
  refine J_aload_n dX1_giveBack_9 rfl rfl ?_
  obtain ⟨k5, hf⟩ := gds hf
  obtain ⟨b6, rb6, hf⟩ := rfs hf
  refine G_1_1 dX1_giveBack_10 tk_206 k5 rb6 ?_
  refine J_bipush (v := 7) dX1_giveBack_13 (by decide) ?_
  refine J_aload_n dX1_giveBack_15 rfl rfl ?_
  obtain ⟨b7, rb7, hf⟩ := rfs hf
  refine G_1_0 dX1_giveBack_16 tk_205 k5 rb7 ?_
  obtain ⟨k8, hf⟩ := gds hf
  obtain ⟨vo9, zo9, ho9h, ho9, hf⟩ := rfs3 hf
  refine CV0i dX1_giveBack_19 (mX0_settle hst ho9) tk_675 iX0_settle k8 (by decide) rfl ⟨by decide, by decide⟩ ⟨by decide, by decide⟩ (Nat.le_of_ble_eq_true rfl) ?_
  obtain ⟨k10, hf⟩ := gds hf
  obtain ⟨zo11, ho11h, ho11, hf⟩ := rfs2 hf
  refine CV2v dX1_giveBack_22 (mX6_add hst ho11) tk_666 iX6_add k10 (by decide) rfl ⟨by decide, by decide⟩ ⟨by decide, by decide⟩ (Nat.le_of_ble_eq_true rfl) ?_
  refine J_aload_n dX1_giveBack_25 rfl rfl ?_
  obtain ⟨k12, hf⟩ := gds hf
  obtain ⟨b13, rb13, hf⟩ := rfs hf
  refine G_1_0 dX1_giveBack_26 tk_205 k12 rb13 ?_
  refine J_iload_n dX1_giveBack_29 rfl rfl ?_
  obtain ⟨k14, hf⟩ := gds hf
  obtain ⟨vo15, zo15, ho15h, ho15, hf⟩ := rfs3 hf
  refine CV1i dX1_giveBack_30 (mX0_heldBy hst ho15) tk_697 iX0_heldBy k14 (by decide) rfl ⟨by decide, by decide⟩ ⟨by decide, by decide⟩ (Nat.le_of_ble_eq_true rfl) ?_
  cases hf
  exact J_iretN dX1_giveBack_33 rfl (by decide) (by decide)
theorem mX1_giveBack {g : JG} (hst : (jl g).stackTraces = false) {a0 : Nat} {x1 : Int32} {x2 : Int32} {z : Nat} {h : AH} {o : Int32 × Nat × AH} (hf : fX1_giveBack a0 x1 x2 z h = some o) : jMet g yX1_giveBack (wj yX1_giveBack cX1_giveBack 3 (some .int)) rmX1_giveBack [.ref a0, .int x1, .int x2] z h (some (.int o.1), o.2.1, o.2.2) :=
  jMet_mk (by decide) (Nat.le_of_ble_eq_true rfl) [some (.ref a0), some (.int x1), some (.int x2)] rfl (wfX1_giveBack hst hf)
def fX1_startProbe  (a0 : Nat) (x1 : Int32) (z : Nat) (h : AH) : Option (Int32 × Nat × AH) :=
  gd (kd h a0 = 2) (Option.bind (rv h a0 2) (fun b2 => Option.bind (rv h a0 0) (fun b3 => gd (kd h b2 = 8) (bd2 (fX7_read b2 b3 z h) (fun zo5 ho5h => gd (kd ho5h a0 = 2) (Option.bind (rv ho5h a0 2) (fun b7 => gd (kd ho5h b7 = 8) (bd3 (fX7_of b7 x1 zo5 ho5h) (fun vo9 zo9 ho9h => gd (kd ho9h a0 = 2) (Option.bind (rv ho9h a0 0) (fun b11 => gd (kd ho9h b11 = 1) (bd2 (fX1_sendToAll a0 vo9 (Int32.toInt64 x1) 1 ((iv ho9h b11 12) - 1) zo9 ho9h) (fun zo13 ho13h => gd (kd ho13h a0 = 2) (Option.bind (rv ho13h a0 0) (fun b15 => gd (kd ho13h b15 = 1) (Option.bind (rv ho13h b15 1) (fun b17 => gd (kd ho13h b17 = 5) (some ((iv ho13h b17 5), zo13, ho13h)))))))))))))))))))
theorem wfX1_startProbe {g : JG} (hst : (jl g).stackTraces = false)   {a0 : Nat} {x1 : Int32} {z : Nat} {h : AH} {o : Int32 × Nat × AH} (hf : fX1_startProbe  a0 x1 z h = some o) : J g MX1_startProbe (jN g (some (.int o.1), o.2.1, o.2.2) rmX1_startProbe.cells rmX1_startProbe.slots) 0 [some (.ref a0), some (.int x1)] [] z h 0 0 := by
  unfold fX1_startProbe at hf
  refine J_aload_n dX1_startProbe_0 rfl rfl ?_
  obtain ⟨k1, hf⟩ := gds hf
  obtain ⟨b2, rb2, hf⟩ := rfs hf
  refine G_1_2 dX1_startProbe_1 tk_207 k1 rb2 ?_
  refine J_aload_n dX1_startProbe_4 rfl rfl ?_
  obtain ⟨b3, rb3, hf⟩ := rfs hf
  refine G_1_0 dX1_startProbe_5 tk_205 k1 rb3 ?_
  obtain ⟨k4, hf⟩ := gds hf
  obtain ⟨zo5, ho5h, ho5, hf⟩ := rfs2 hf
  refine CV1v dX1_startProbe_8 (mX7_read hst ho5) tk_780 iX7_read k4 (by decide) rfl ⟨by decide, by decide⟩ ⟨by decide, by decide⟩ (Nat.le_of_ble_eq_true rfl) ?_
  refine J_aload_n dX1_startProbe_11 rfl rfl ?_
  refine J_aload_n dX1_startProbe_12 rfl rfl ?_
  obtain ⟨k6, hf⟩ := gds hf
  obtain ⟨b7, rb7, hf⟩ := rfs hf
  refine G_1_2 dX1_startProbe_13 tk_207 k6 rb7 ?_
  refine J_iload_n dX1_startProbe_16 rfl rfl ?_
  obtain ⟨k8, hf⟩ := gds hf
  obtain ⟨vo9, zo9, ho9h, ho9, hf⟩ := rfs3 hf
  refine CV1i dX1_startProbe_17 (mX7_of hst ho9) tk_781 iX7_of k8 (by decide) rfl ⟨by decide, by decide⟩ ⟨by decide, by decide⟩ (Nat.le_of_ble_eq_true rfl) ?_
  refine J_iload_n dX1_startProbe_20 rfl rfl ?_
  refine J_i2l dX1_startProbe_21 ?_
  refine J_iconst (v := 1) dX1_startProbe_22 (by decide) ?_
  refine J_aload_n dX1_startProbe_23 rfl rfl ?_
  obtain ⟨k10, hf⟩ := gds hf
  obtain ⟨b11, rb11, hf⟩ := rfs hf
  refine G_1_0 dX1_startProbe_24 tk_205 k10 rb11 ?_
  obtain ⟨k12, hf⟩ := gds hf
  refine G_0_12 dX1_startProbe_27 tk_123 k12 ?_
  refine J_iconst (v := 1) dX1_startProbe_30 (by decide) ?_
  refine J_isub dX1_startProbe_31 ?_
  obtain ⟨zo13, ho13h, ho13, hf⟩ := rfs2 hf
  refine CV4v dX1_startProbe_32 (mX1_sendToAll hst ho13) tk_785 iX1_sendToAll k10 (by decide) rfl ⟨by decide, by decide⟩ ⟨by decide, by decide⟩ (Nat.le_of_ble_eq_true rfl) ?_
  refine J_aload_n dX1_startProbe_35 rfl rfl ?_
  obtain ⟨k14, hf⟩ := gds hf
  obtain ⟨b15, rb15, hf⟩ := rfs hf
  refine G_1_0 dX1_startProbe_36 tk_205 k14 rb15 ?_
  obtain ⟨k16, hf⟩ := gds hf
  obtain ⟨b17, rb17, hf⟩ := rfs hf
  refine G_0_1 dX1_startProbe_39 tk_94 k16 rb17 ?_
  obtain ⟨k18, hf⟩ := gds hf
  refine G_4_5 dX1_startProbe_42 tk_75 k18 ?_
  cases hf
  exact J_iretN dX1_startProbe_45 rfl (by decide) (by decide)
theorem mX1_startProbe {g : JG} (hst : (jl g).stackTraces = false) {a0 : Nat} {x1 : Int32} {z : Nat} {h : AH} {o : Int32 × Nat × AH} (hf : fX1_startProbe a0 x1 z h = some o) : jMet g yX1_startProbe (wj yX1_startProbe cX1_startProbe 2 (some .int)) rmX1_startProbe [.ref a0, .int x1] z h (some (.int o.1), o.2.1, o.2.2) :=
  jMet_mk (by decide) (Nat.le_of_ble_eq_true rfl) [some (.ref a0), some (.int x1)] rfl (wfX1_startProbe hst hf)
