/-! returns, contracts, calls -/
def jQ (g : JG) (o : Option Value × Nat × AH) : Array Value → State → Outcome → State → Prop := fun _ st oc t => oc = .returned o.1 ∧ jR g o.2.1 o.2.2 t.heap ∧ va_F (fun q => jB g ≤ q) st t
def jXC (g : JG) (o : String × Nat × AH) : String → State → State → Prop := fun E st t => E = o.1 ∧ jR g o.2.1 o.2.2 t.heap ∧ va_F (fun q => jB g ≤ q) st t
/-- ends of a body: it returns o -/
def jN (g : JG) (o : Option Value × Nat × AH) (mc ms : Nat) : JQ := fun below args s => MQ below (jQ g o) args s mc ms (fun q => jB g ≤ q)
abbrev JO : Type := (Option Value ⊕ String) × Nat × AH
def jQV (g : JG) (o : JO) : Array Value → State → Outcome → State → Prop := fun _ st oc t => ∃ v, o.1 = .inl v ∧ oc = .returned v ∧ jR g o.2.1 o.2.2 t.heap ∧ va_F (fun q => jB g ≤ q) st t
def jXV (g : JG) (o : JO) : String → State → State → Prop := fun E st t => o.1 = .inr E ∧ jR g o.2.1 o.2.2 t.heap ∧ va_F (fun q => jB g ≤ q) st t
/-- ends of a body that may throw -/
def jV (g : JG) (o : JO) (mc ms : Nat) : JQ := fun below args s => vx_MQ below (jQV g o) (jXV g o) args s mc ms (fun q => jB g ≤ q)
def jPc (g : JG) (av : List Value) (z : Nat) (h : AH) : Array Value → State → Prop := va_Pc av (fun U => va_K (jD g) vwCl (jT g) U ∧ jX g U ∧ jR g z h U.heap)
abbrev wj (y : MethodName) (cc : ByteArray) (mL : Nat) (ret : Option FieldType) : List Cond := .code y cc mL ret :: gtbl
def jMet (g : JG) (y : MethodName) (ws : List Cond) (rm : Room) (av : List Value) (z : Nat) (h : AH) (o : Option Value × Nat × AH) : Prop := Met (jl g) y ws rm (jPc g av z h) (jQ g o) rm.cells rm.slots (fun q => jB g ≤ q)
def jMetX (g : JG) (y : MethodName) (ws : List Cond) (rm : Room) (av : List Value) (z : Nat) (h : AH) (o : JO) : Prop := vx_Met (jl g) y ws rm (jPc g av z h) (jQV g o) (jXV g o) rm.cells rm.slots (fun q => jB g ≤ q)
theorem jPc_blind (g : JG) (av : List Value) (z : Nat) (h : AH) : FrameBlind (jPc g av z h) := by
  intro a U gf mk hp
  obtain ⟨h1, h2, h3, h4⟩ := hp
  exact ⟨h1, va_K.moved (u := U) (U := U.calling gf mk a) (Vm.Alike.refl U.vm) h2, jX.warm (s := U) (U := U.calling gf mk a) (State.WarmedH.refl U) ⟨Nat.le_refl _, fun _ _ _ => rfl⟩ h3, h4⟩
/-- a method's facts: it is there, its code, its words -/
def jV0 (y : MethodName) (cc : ByteArray) (mL : Nat) (ret : Option FieldType) (na : Nat) : Prop := Cond.instanceMethod y ∈ gtbl ∧ Cond.selects y.cls y y ∈ gtbl ∧ Cond.initialized y.cls ∈ gtbl ∧ Cond.code y cc mL ret ∈ gtbl ∧ y.cls ≠ "java/lang/invoke/MethodHandle" ∧ y.cls ≠ "java/lang/invoke/VarHandle" ∧ (parseMethodDescriptor y.desc).map (fun d => d.parameters.length) = some na
def jS0 (y : MethodName) (cc : ByteArray) (mL : Nat) (ret : Option FieldType) (na : Nat) : Prop := Cond.static y ∈ gtbl ∧ Cond.initialized y.cls ∈ gtbl ∧ Cond.code y cc mL ret ∈ gtbl ∧ y.cls ≠ "java/lang/invoke/MethodHandle" ∧ y.cls ≠ "java/lang/invoke/VarHandle" ∧ (parseMethodDescriptor y.desc).map (fun d => d.parameters.length) = some na
def jI0 (y : MethodName) (cc : ByteArray) (mL : Nat) (na : Nat) : Prop := y.name = "<init>" ∧ Cond.instanceMethod y ∈ gtbl ∧ Cond.initialized y.cls ∈ gtbl ∧ Cond.code y cc mL none ∈ gtbl ∧ y.cls ≠ "java/lang/invoke/MethodHandle" ∧ y.cls ≠ "java/lang/invoke/VarHandle" ∧ (parseMethodDescriptor y.desc).map (fun d => d.parameters.length) = some na
theorem wj_good {y : MethodName} {cc : ByteArray} {mL : Nat} {ret : Option FieldType} (h : Cond.code y cc mL ret ∈ gtbl) : GoodIn gtbl (wj y cc mL ret) := by
  intro w hw
  rcases List.mem_cons.mp hw with rfl | hw
  · exact gtbl_good _ h
  · exact gtbl_good _ hw
section JR2
variable {g : JG} {M : JM} {QQ : JQ} {pc z k n : Nat} {lv : List (Option Value)} {st : List Value} {h : AH}
theorem jQ_end {s t : State} {H : Heap} {locs : List Loc} (hR : jR g z h H) (hF : va_S (fun q => jB g ≤ q) s.heap H locs) (ht : t.heap = H) {args : Array Value} {v : Option Value} : jQ g (v, z, h) args s (.returned v) t := ⟨rfl, by rw [ht]; exact hR, hF.F ht⟩
theorem J_iretN {v : Int32} {mc ms : Nat} (d : decode (mC M) pc = .ok (.ireturn, 1)) (hr : mT M = some .int) (h1 : k ≤ mc) (h2 : n ≤ ms) : J g M (jN g (some (.int v), z, h) mc ms) pc lv [.int v] z h k n := by
  intro p e s m args below meth c H locs ls hS hR hF hl
  obtain ⟨hx, hb, hml, hrt, hown, hlk, hname, htb, hts, hK, hX, hB⟩ := id hS
  exact W.widen h1 h2 (W.iret hx hb (hrt.trans hr) (fun t ht hW => jQ_end hR hF ht) hF.2.2 d hlk)
theorem J_zretN {v : Int32} {mc ms : Nat} (d : decode (mC M) pc = .ok (.ireturn, 1)) (hr : mT M = some .boolean) (hv : v = 0 ∨ v = 1) (h1 : k ≤ mc) (h2 : n ≤ ms) : J g M (jN g (some (.int v), z, h) mc ms) pc lv [.int v] z h k n := by
  intro p e s m args below meth c H locs ls hS hR hF hl
  obtain ⟨hx, hb, hml, hrt, hown, hlk, hname, htb, hts, hK, hX, hB⟩ := id hS
  exact W.widen h1 h2 (W.zret hx hb (hrt.trans hr) (by rcases hv with rfl | rfl <;> decide) (fun t ht hW => jQ_end hR hF ht) hF.2.2 d hlk)
theorem J_lretN {v : Int64} {mc ms : Nat} (d : decode (mC M) pc = .ok (.lreturn, 1)) (hr : mT M = some .long) (h1 : k ≤ mc) (h2 : n ≤ ms) : J g M (jN g (some (.long v), z, h) mc ms) pc lv [.long v] z h k n := by
  intro p e s m args below meth c H locs ls hS hR hF hl
  obtain ⟨hx, hb, hml, hrt, hown, hlk, hname, htb, hts, hK, hX, hB⟩ := id hS
  exact W.widen h1 h2 (W.lret hx hb (hrt.trans hr) (fun t ht hW => jQ_end hR hF ht) hF.2.2 d hlk)
theorem J_vretN {mc ms : Nat} (d : decode (mC M) pc = .ok (.return_, 1)) (hr : mT M = none) (h1 : k ≤ mc) (h2 : n ≤ ms) : J g M (jN g (none, z, h) mc ms) pc lv [] z h k n := by
  intro p e s m args below meth c H locs ls hS hR hF hl
  obtain ⟨hx, hb, hml, hrt, hown, hlk, hname, htb, hts, hK, hX, hB⟩ := id hS
  exact W.widen h1 h2 (W.vret hx hb (hrt.trans hr) (fun t ht hW => jQ_end hR hF ht) hF.2.2 d hlk)
theorem jN_V {v : Option Value} {z' : Nat} {h' : AH} {mc ms : Nat} (kk : J g M (jN g (v, z', h') mc ms) pc lv st z h k n) : J g M (jV g (.inl v, z', h') mc ms) pc lv st z h k n := by
  intro p e s m args below meth c H locs ls hS hR hF hl T hT X
  obtain ⟨t, a1, o, b1, b2, b3, b4⟩ := kk p e s m args below meth c H locs ls hS hR hF hl T hT X
  exact ⟨t, a1, o, b1, b2, Or.inl ⟨⟨v, rfl, b3.1, b3.2.1, b3.2.2⟩, b4⟩⟩
/-- a contract out of a walk -/
theorem jMet_of {y : MethodName} {cc : ByteArray} {mL0 : Nat} {ret : Option FieldType} {rm : Room} {av : List Value} {o : Option Value × Nat × AH} (hy : plainName y.cls = true) (hlen : (lg_sl av).length ≤ mL0)
    (body : ∀ lv : List (Option Value), jA 0 lv = lv_args 0 av → J g (y.cls, cc, mL0, ret, rm, y.name, none) (jN g o rm.cells rm.slots) 0 lv [] z h 0 0) (lv : List (Option Value)) (hlv : jA 0 lv = lv_args 0 av) : jMet g y (wj y cc mL0 ret) rm av z h o := by
  refine Met.ofW (cc := cc) (maxL := mL0) (ret := ret) hy rfl ?_
  intro p e s m args below meth c s₁ B hml hv
  obtain ⟨rfl, hK, hX, hR⟩ := hv
  have hts := atoms_spec (ws := wj y cc mL0 ret) B.pre
  have hl := lv_entry av (n := mL0) hlen
  rw [← hlv] at hl
  rw [lg_entry_eq]
  refine body lv hlv p e s m _ below meth c s.heap [] _ ⟨B.exec, B.bytes, hml, B.returns, findClass_of_methodNamed B.named, B.notSynchronized, (name_of_methodNamed B.named B.method).1, (fun t ht => by cases ht), fun w hw => hts w (List.mem_cons_of_mem _ hw), hK, hX, hR.1 ▸ hR.2.1⟩ hR va_S.rf hl
theorem jMetX_of {y : MethodName} {cc : ByteArray} {mL0 : Nat} {ret : Option FieldType} {rm : Room} {av : List Value} {o : JO} (hy : plainName y.cls = true) (hlen : (lg_sl av).length ≤ mL0)
    (body : ∀ lv : List (Option Value), jA 0 lv = lv_args 0 av → J g (y.cls, cc, mL0, ret, rm, y.name, some []) (jV g o rm.cells rm.slots) 0 lv [] z h 0 0) (lv : List (Option Value)) (hlv : jA 0 lv = lv_args 0 av) : jMetX g y (wj y cc mL0 ret) rm av z h o := by
  refine vx_ofW (cc := cc) (maxL := mL0) (ret := ret) hy rfl ?_
  intro p e s m args below meth c s₁ B hml htab hv
  obtain ⟨rfl, hK, hX, hR⟩ := hv
  have hts := atoms_spec (ws := wj y cc mL0 ret) B.pre
  have hl := lv_entry av (n := mL0) hlen
  rw [← hlv] at hl
  rw [lg_entry_eq]
  have ht : c.exceptionTable.toList = [] := List.eq_nil_iff_forall_not_mem.mpr (fun x hx => htab x hx)
  refine body lv hlv p e s m _ below meth c s.heap [] _ ⟨B.exec, B.bytes, hml, B.returns, findClass_of_methodNamed B.named, B.notSynchronized, (name_of_methodNamed B.named B.method).1, (fun t h9 => by cases h9; exact ht), fun w hw => hts w (List.mem_cons_of_mem _ hw), hK, hX, hR.1 ▸ hR.2.1⟩ hR va_S.rf hl
/-- behind a call that has returned -/
theorem W_run {p : Program} {l : Launch} {e : Env} {R : Room} {s : State} {m : MethodId} {args : Array Value} {below : List Frame} {meth : Method} {c : Code} {H : Heap} {locs : List Loc} {cells slots mc ms : Nat} {Q : State → Prop} {ls : Array Slot} {st0 rest : List Value} {a : Array Value} {o : Option Value × Nat × AH}
    (hr : va_Run p l e R s m args below meth c H locs cells slots mc ms (F0 m pc ls st0) rest (jQ g o a) (fun q => jB g ≤ q)) (hS : va_S (fun q => jB g ≤ q) s.heap H locs)
    (kk : ∀ (H1 : Heap) (locs1 : List Loc), jR g o.2.1 o.2.2 H1 → va_S (fun q => jB g ≤ q) s.heap H1 locs1 → W p l e R s m args below meth c H1 locs1 (cells + mc) (slots + ms) Q (F0 m (pc + 3) ls (o.1.toList ++ rest))) : W p l e R s m args below meth c H locs cells slots Q (F0 m pc ls st0) := by
  intro T hT X
  obtain ⟨v, st₀, t, T', L, h0, X', hL, e1, e2, ⟨hv, hR, hz, hk⟩, stp⟩ := hr T hT X
  cases hv
  rw [h0] at hz hk
  obtain ⟨t2, a1, b1⟩ := kk T'.heap (locs ++ L) (by rw [e1]; exact hR) ⟨Nat.le_trans hS.1 (by rw [e1]; exact hz), fun q h1 h2 => by rw [e1, hk q (Nat.lt_of_lt_of_le h1 hS.1) h2]; exact hS.2.1 q h1 h2, fun q hq => by
      rcases List.mem_append.mp hq with h | h
      · exact hS.2.2 q h
      · exact hL q h⟩ T' rfl X'
  exact ⟨t2, stp t2 a1, b1⟩
/-- a callee's start -/
theorem jPc_at {s : State} {H : Heap} {locs : List Loc} (hK : va_K (jD g) vwCl (jT g) s) (hX : jX g s) (hR : jR g z h H) (hF : va_S (fun q => jB g ≤ q) s.heap H locs) (av : List Value) : ∀ U : State, U.heap = H → s.WarmedH U.vm → jPc g av z h av.toArray U :=
  fun U hU hW => ⟨rfl, va_K.moved hW.alike hK, jX.warm hW (by rw [hU]; exact ⟨hF.1, hF.2.1⟩) hX, by rw [hU]; exact hR⟩
theorem J_callV {y : MethodName} {cc : ByteArray} {mL0 idx b ci N : Nat} {ret : Option FieldType} {rm : Room} {As : List Value} {o : Option Value × Nat × AH} {T : u_T} (d : decode (mC M) pc = .ok (.invokevirtual idx, 3)) (hM : jMet g y (wj y cc mL0 ret) rm (.ref b :: As) z h o) (hl0 : Cond.methodLink (mO M) idx y ∈ gtbl) (h0 : jV0 y cc mL0 ret As.length) (hk : kd h b = ci + 1) (hci : ci < 10) (hc : vwCl[ci]? = some (y.cls, T, N))
    (hro : rm.frames + 1 ≤ (mR M).frames ∧ 8 + (mL0 + 11) + rm.locals ≤ (mR M).locals) (hce : k + rm.cells ≤ (mR M).cells ∧ n + rm.slots ≤ (mR M).slots) (hw : (st.map fun v => v.category).sum ≤ 8)
    (kk : J g M QQ (pc + 3) lv (o.1.toList ++ st) o.2.1 o.2.2 (k + rm.cells) (n + rm.slots)) : J g M QQ pc lv (As.reverse ++ .ref b :: st) z h k n := by
  intro p e s m args below meth c H locs ls hS hR hF hl
  obtain ⟨hx, hb, hml, hrt, hown, hlk, hname, htb, hts, hK, hX, hB⟩ := id hS
  obtain ⟨i1, i2, i3, i4, i5, i6, i7⟩ := h0
  refine W_run (va_runV (As := As) (rest := st) ⟨hx, hb, hml, hown, hts⟩ hM ⟨callB_of As.length hts (wj_good i4) rfl rfl rfl (hts _ i3) (hts _ hl0) ⟨i5, i6, i7⟩ hro, hts _ i1, hts _ i2⟩ ⟨jPc_blind _ _ _ _, va_recv hK (jR_at hR hk hci) hc (q0 := 0) rfl, jPc_at hK hX hR hF _⟩ rfl rfl hl.1 rfl (lv_room hw) d hce) hF ?_
  exact fun H1 locs1 hR1 hF1 => kk p e s m args below meth c H1 locs1 ls hS hR1 hF1 hl
theorem J_callS {y : MethodName} {cc : ByteArray} {mL0 idx : Nat} {ret : Option FieldType} {rm : Room} {As : List Value} {o : Option Value × Nat × AH} (d : decode (mC M) pc = .ok (.invokestatic idx, 3)) (hM : jMet g y (wj y cc mL0 ret) rm As z h o) (hl0 : Cond.methodLink (mO M) idx y ∈ gtbl) (h0 : jS0 y cc mL0 ret As.length)
    (hro : rm.frames + 1 ≤ (mR M).frames ∧ 8 + (mL0 + 11) + rm.locals ≤ (mR M).locals) (hce : k + rm.cells ≤ (mR M).cells ∧ n + rm.slots ≤ (mR M).slots) (hw : (st.map fun v => v.category).sum ≤ 8)
    (kk : J g M QQ (pc + 3) lv (o.1.toList ++ st) o.2.1 o.2.2 (k + rm.cells) (n + rm.slots)) : J g M QQ pc lv (As.reverse ++ st) z h k n := by
  intro p e s m args below meth c H locs ls hS hR hF hl
  obtain ⟨hx, hb, hml, hrt, hown, hlk, hname, htb, hts, hK, hX, hB⟩ := id hS
  obtain ⟨i2, i3, i4, i5, i6, i7⟩ := h0
  refine W_run (va_runS (As := As) (rest := st) ⟨hx, hb, hml, hown, hts⟩ hM ⟨callB_of As.length hts (wj_good i4) rfl rfl rfl (hts _ i3) (hts _ hl0) ⟨i5, i6, i7⟩ hro, hts _ i2⟩ ⟨jPc_blind _ _ _ _, jPc_at hK hX hR hF _⟩ rfl rfl hl.1 rfl (lv_room hw) d hce) hF ?_
  exact fun H1 locs1 hR1 hF1 => kk p e s m args below meth c H1 locs1 ls hS hR1 hF1 hl
theorem J_callSN {y : MethodName} {cc : ByteArray} {mL0 idx : Nat} {ret : Option FieldType} {rm : Room} {As : List Value} {o : Option Value × Nat × AH} {host : String} (d : decode (mC M) pc = .ok (.invokestatic idx, 3)) (hM : jMet g y (wj y cc mL0 ret) rm As z h o) (hl0 : Cond.methodLinkNest (mO M) idx y host ∈ lw_tbl) (h0 : jS0 y cc mL0 ret As.length)
    (hro : rm.frames + 1 ≤ (mR M).frames ∧ 8 + (mL0 + 11) + rm.locals ≤ (mR M).locals) (hce : k + rm.cells ≤ (mR M).cells ∧ n + rm.slots ≤ (mR M).slots) (hw : (st.map fun v => v.category).sum ≤ 8)
    (kk : J g M QQ (pc + 3) lv (o.1.toList ++ st) o.2.1 o.2.2 (k + rm.cells) (n + rm.slots)) : J g M QQ pc lv (As.reverse ++ st) z h k n := by
  intro p e s m args below meth c H locs ls hS hR hF hl
  obtain ⟨hx, hb, hml, hrt, hown, hlk, hname, htb, hts, hK, hX, hB⟩ := id hS
  obtain ⟨i2, i3, i4, i5, i6, i7⟩ := h0
  refine W_run (va_runSN (As := As) (rest := st) (host := host) ⟨hx, hb, hml, hown, hts⟩ hM ⟨va_cnB As.length hts (wj_good i4) rfl rfl rfl (hX.1 _ hl0 rfl) (hts _ i3) ⟨i5, i6, i7⟩ hro, hts _ i2, trivial⟩ ⟨jPc_blind _ _ _ _, jPc_at hK hX hR hF _⟩ rfl rfl hl.1 rfl (lv_room hw) d hce) hF ?_
  exact fun H1 locs1 hR1 hF1 => kk p e s m args below meth c H1 locs1 ls hS hR1 hF1 hl
theorem J_callI {y : MethodName} {cc : ByteArray} {mL0 idx b : Nat} {rm : Room} {As : List Value} {o : Option Value × Nat × AH} (d : decode (mC M) pc = .ok (.invokespecial idx, 3)) (hM : jMet g y (wj y cc mL0 none) rm (.ref b :: As) z h o) (hl0 : Cond.methodLink (mO M) idx y ∈ gtbl) (h0 : jI0 y cc mL0 As.length)
    (hro : rm.frames + 1 ≤ (mR M).frames ∧ 8 + (mL0 + 11) + rm.locals ≤ (mR M).locals) (hce : k + rm.cells ≤ (mR M).cells ∧ n + rm.slots ≤ (mR M).slots) (hw : (st.map fun v => v.category).sum ≤ 8)
    (kk : J g M QQ (pc + 3) lv (o.1.toList ++ st) o.2.1 o.2.2 (k + rm.cells) (n + rm.slots)) : J g M QQ pc lv (As.reverse ++ .ref b :: st) z h k n := by
  intro p e s m args below meth c H locs ls hS hR hF hl
  obtain ⟨hx, hb, hml, hrt, hown, hlk, hname, htb, hts, hK, hX, hB⟩ := id hS
  obtain ⟨i1, i2, i3, i4, i5, i6, i7⟩ := h0
  refine W_run (va_runI (As := As) (rest := st) ⟨hx, hb, hml, hown, hts⟩ hM ⟨callB_of As.length hts (wj_good i4) rfl rfl rfl (hts _ i3) (hts _ hl0) ⟨i5, i6, i7⟩ hro, i1, hts _ i2⟩ ⟨jPc_blind _ _ _ _, jPc_at hK hX hR hF _⟩ rfl rfl hl.1 rfl (lv_room hw) d hce) hF ?_
  exact fun H1 locs1 hR1 hF1 => kk p e s m args below meth c H1 locs1 ls hS hR1 hF1 hl
theorem J_callIN {y : MethodName} {cc : ByteArray} {mL0 idx b : Nat} {rm : Room} {As : List Value} {o : Option Value × Nat × AH} {host : String} (d : decode (mC M) pc = .ok (.invokespecial idx, 3)) (hM : jMet g y (wj y cc mL0 none) rm (.ref b :: As) z h o) (hl0 : Cond.methodLinkNest (mO M) idx y host ∈ lw_tbl) (h0 : jI0 y cc mL0 As.length)
    (hro : rm.frames + 1 ≤ (mR M).frames ∧ 8 + (mL0 + 11) + rm.locals ≤ (mR M).locals) (hce : k + rm.cells ≤ (mR M).cells ∧ n + rm.slots ≤ (mR M).slots) (hw : (st.map fun v => v.category).sum ≤ 8)
    (kk : J g M QQ (pc + 3) lv (o.1.toList ++ st) o.2.1 o.2.2 (k + rm.cells) (n + rm.slots)) : J g M QQ pc lv (As.reverse ++ .ref b :: st) z h k n := by
  intro p e s m args below meth c H locs ls hS hR hF hl
  obtain ⟨hx, hb, hml, hrt, hown, hlk, hname, htb, hts, hK, hX, hB⟩ := id hS
  obtain ⟨i1, i2, i3, i4, i5, i6, i7⟩ := h0
  refine W_run (va_runIN (As := As) (rest := st) (host := host) ⟨hx, hb, hml, hown, hts⟩ hM ⟨va_cnB As.length hts (wj_good i4) rfl rfl rfl (hX.1 _ hl0 rfl) (hts _ i3) ⟨i5, i6, i7⟩ hro, i1, hts _ i2⟩ ⟨jPc_blind _ _ _ _, jPc_at hK hX hR hF _⟩ rfl rfl hl.1 rfl (lv_room hw) d hce) hF ?_
  exact fun H1 locs1 hR1 hF1 => kk p e s m args below meth c H1 locs1 ls hS hR1 hF1 hl
end JR2
