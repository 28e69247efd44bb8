/-! calls that may throw; throwing; catching; copying rows; the row of Books -/
section JR3
variable {g : JG} {M : JM} {QQ : JQ} {pc z k n : Nat} {lv : List (Option Value)} {st : List Value} {h : AH}
theorem W_runX {p : Program} {l : Launch} {e : Env} {R : Room} {s : State} {m : MethodId} {args : Array Value} {below : List Frame} {meth : Method} {c : Code} {H : Heap} {locs : List Loc} {cells slots mc ms : Nat} {Q : State → Prop} {ls : Array Slot} {st0 rest : List Value} {a : Array Value} {v : Option Value} {z' : Nat} {h' : AH}
    (hr : vx_Run p l e R s m args below meth c H locs cells slots mc ms (F0 m pc ls st0) rest (jQV g (.inl v, z', h') a) (jXV g (.inl v, z', h')) (fun q => jB g ≤ q)) (hS : va_S (fun q => jB g ≤ q) s.heap H locs)
    (kk : ∀ (H1 : Heap) (locs1 : List Loc), jR g z' h' H1 → va_S (fun q => jB g ≤ q) s.heap H1 locs1 → W p l e R s m args below meth c H1 locs1 (cells + mc) (slots + ms) Q (F0 m (pc + 3) ls (v.toList ++ rest))) : W p l e R s m args below meth c H locs cells slots Q (F0 m pc ls st0) := by
  intro T hT X
  rcases hr T hT X with ⟨v9, st₀, t, T', L, h0, X', hL, e1, e2, ⟨v8, hv8, hv, hR, hz, hk⟩, stp⟩ | ⟨q, st₀, t, T', L, E, ce, h0, X', hL, e1, e2, ⟨hx, -⟩, -⟩
  · cases hv8
    cases hv
    rw [h0] at hz hk
    obtain ⟨t2, a1, b1⟩ := kk T'.heap (locs ++ L) (by rw [e1]; exact hR) ⟨Nat.le_trans hS.1 (by rw [e1]; exact hz), fun q h1 h2 => by rw [e1, hk q (Nat.lt_of_lt_of_le h1 hS.1) h2]; exact hS.2.1 q h1 h2, fun q hq => by
      rcases List.mem_append.mp hq with h | h
      · exact hS.2.2 q h
      · exact hL q h⟩ T' rfl X'
    exact ⟨t2, stp t2 a1, b1⟩
  · cases hx
theorem W_runT {p : Program} {l : Launch} {e : Env} {R : Room} {s : State} {m : MethodId} {args : Array Value} {below : List Frame} {meth : Method} {c : Code} {H : Heap} {locs : List Loc} {cells slots mc ms : Nat} {Q : State → Prop} {ls : Array Slot} {st0 rest : List Value} {a : Array Value} {E : String} {z' : Nat} {h' : AH}
    (hr : vx_Run p l e R s m args below meth c H locs cells slots mc ms (F0 m pc ls st0) rest (jQV g (.inr E, z', h') a) (jXV g (.inr E, z', h')) (fun q => jB g ≤ q)) (hS : va_S (fun q => jB g ≤ q) s.heap H locs)
    (kk : ∀ (H1 : Heap) (locs1 : List Loc) (q : Addr) (ce : Cell), jR g z' h' H1 → va_S (fun q => jB g ≤ q) s.heap H1 locs1 → H1[q]? = some ce → ce.vm = .none → s.vm.findClass E = some ce.cls → vx_W p l e R s m args below meth c H1 locs1 (cells + mc) (slots + ms) Q (F0 m pc ls rest) q) : W p l e R s m args below meth c H locs cells slots Q (F0 m pc ls st0) := by
  intro T hT X
  rcases hr T hT X with ⟨v9, st₀, t, T', L, h0, X', hL, e1, e2, ⟨v8, hv8, -⟩, stp⟩ | ⟨q, st₀, t, T', L, E9, ce, h0, X', hL, e1, e2, ⟨hx, hR, hz, hk⟩, hce, hcv, hcl, stp⟩
  · cases hv8
  · cases hx
    rw [h0] at hz hk
    obtain ⟨t2, a1, b1⟩ := kk T'.heap (locs ++ L) q ce (by rw [e1]; exact hR) ⟨Nat.le_trans hS.1 (by rw [e1]; exact hz), fun q h1 h2 => by rw [e1, hk q (Nat.lt_of_lt_of_le h1 hS.1) h2]; exact hS.2.1 q h1 h2, fun q hq => by
      rcases List.mem_append.mp hq with h | h
      · exact hS.2.2 q h
      · exact hL q h⟩ (by rw [e1]; exact hce) hcv hcl T' rfl X'
    exact ⟨t2, stp.trans a1, b1⟩
theorem J_callSXr {y : MethodName} {cc : ByteArray} {mL0 idx : Nat} {ret : Option FieldType} {rm : Room} {As : List Value} {v : Option Value} {z' : Nat} {h' : AH} (d : decode (mC M) pc = .ok (.invokestatic idx, 3)) (hM : jMetX g y (wj y cc mL0 ret) rm As z h (.inl v, z', h')) (hl0 : Cond.methodLink (mO M) idx y ∈ gtbl) (h0 : jS0 y cc mL0 ret As.length)
    (hro : rm.frames + 1 ≤ (mR M).frames ∧ 8 + (mL0 + 11) + rm.locals ≤ (mR M).locals) (hce : k + rm.cells ≤ (mR M).cells ∧ n + rm.slots ≤ (mR M).slots) (hw : (st.map fun v => v.category).sum ≤ 8)
    (kk : J g M QQ (pc + 3) lv (v.toList ++ st) z' h' (k + rm.cells) (n + rm.slots)) : J g M QQ pc lv (As.reverse ++ st) z h k n := by
  intro p e s m args below meth c H locs ls hS hR hF hl
  obtain ⟨hx, hb, hml, hrt, hown, hlk, hname, htb, hts, hK, hX, hB⟩ := id hS
  obtain ⟨i2, i3, i4, i5, i6, i7⟩ := h0
  refine W_runX (vx_runS (As := As) (rest := st) ⟨hx, hb, hml, hown, hts⟩ hM ⟨callB_of As.length hts (wj_good i4) rfl rfl rfl (hts _ i3) (hts _ hl0) ⟨i5, i6, i7⟩ hro, hts _ i2⟩ ⟨jPc_blind _ _ _ _, jPc_at hK hX hR hF _⟩ rfl rfl hl.1 rfl (lv_room hw) d hce) hF ?_
  exact fun H1 locs1 hR1 hF1 => kk p e s m args below meth c H1 locs1 ls hS hR1 hF1 hl
theorem J_callSXt {y : MethodName} {cc : ByteArray} {mL0 idx mc ms : Nat} {ret : Option FieldType} {rm : Room} {As : List Value} {E : String} {z' : Nat} {h' : AH} (d : decode (mC M) pc = .ok (.invokestatic idx, 3)) (hM : jMetX g y (wj y cc mL0 ret) rm As z h (.inr E, z', h')) (hl0 : Cond.methodLink (mO M) idx y ∈ gtbl) (h0 : jS0 y cc mL0 ret As.length)
    (hro : rm.frames + 1 ≤ (mR M).frames ∧ 8 + (mL0 + 11) + rm.locals ≤ (mR M).locals) (hce : k + rm.cells ≤ (mR M).cells ∧ n + rm.slots ≤ (mR M).slots) (hw : (st.map fun v => v.category).sum ≤ 8) (ht : mX M = some []) (h1 : k + rm.cells ≤ mc) (h2 : n + rm.slots ≤ ms) : J g M (jV g (.inr E, z', h') mc ms) pc lv (As.reverse ++ st) z h k n := by
  intro p e s m args below meth c H locs ls hS hR hF hl
  obtain ⟨hx, hb, hml, hrt, hown, hlk, hname, htb, hts, hK, hX, hB⟩ := id hS
  obtain ⟨i2, i3, i4, i5, i6, i7⟩ := h0
  refine W_runT (vx_runS (As := As) (rest := st) ⟨hx, hb, hml, hown, hts⟩ hM ⟨callB_of As.length hts (wj_good i4) rfl rfl rfl (hts _ i3) (hts _ hl0) ⟨i5, i6, i7⟩ hro, hts _ i2⟩ ⟨jPc_blind _ _ _ _, jPc_at hK hX hR hF _⟩ rfl rfl hl.1 rfl (lv_room hw) d hce) hF ?_
  exact fun H1 locs1 q ce hR1 hF1 hc1 hc2 hc3 => vx_out (by rw [htb _ ht]; exact fun x hx => nomatch hx) hlk hc1 hc2 hc3 (fun t ht _ => ⟨rfl, by rw [ht]; exact hR1, hF1.F ht⟩) hF1.2.2 h1 h2
theorem J_callVXr {y : MethodName} {cc : ByteArray} {mL0 idx b ci N : Nat} {ret : Option FieldType} {rm : Room} {As : List Value} {v : Option Value} {z' : Nat} {h' : AH} {T : u_T} (d : decode (mC M) pc = .ok (.invokevirtual idx, 3)) (hM : jMetX g y (wj y cc mL0 ret) rm (.ref b :: As) z h (.inl v, z', h')) (hl0 : Cond.methodLink (mO M) idx y ∈ gtbl) (h0 : jV0 y cc mL0 ret As.length) (hk : kd h b = ci + 1) (hci : ci < 10) (hc : vwCl[ci]? = some (y.cls, T, N))
    (hro : rm.frames + 1 ≤ (mR M).frames ∧ 8 + (mL0 + 11) + rm.locals ≤ (mR M).locals) (hce : k + rm.cells ≤ (mR M).cells ∧ n + rm.slots ≤ (mR M).slots) (hw : (st.map fun v => v.category).sum ≤ 8)
    (kk : J g M QQ (pc + 3) lv (v.toList ++ st) z' h' (k + rm.cells) (n + rm.slots)) : J g M QQ pc lv (As.reverse ++ .ref b :: st) z h k n := by
  intro p e s m args below meth c H locs ls hS hR hF hl
  obtain ⟨hx, hb, hml, hrt, hown, hlk, hname, htb, hts, hK, hX, hB⟩ := id hS
  obtain ⟨i1, i2, i3, i4, i5, i6, i7⟩ := h0
  refine W_runX (vx_runV (As := As) (rest := st) ⟨hx, hb, hml, hown, hts⟩ hM ⟨callB_of As.length hts (wj_good i4) rfl rfl rfl (hts _ i3) (hts _ hl0) ⟨i5, i6, i7⟩ hro, hts _ i1, hts _ i2⟩ ⟨jPc_blind _ _ _ _, va_recv hK (jR_at hR hk hci) hc (q0 := 0) rfl, jPc_at hK hX hR hF _⟩ rfl rfl hl.1 rfl (lv_room hw) d hce) hF ?_
  exact fun H1 locs1 hR1 hF1 => kk p e s m args below meth c H1 locs1 ls hS hR1 hF1 hl
theorem J_callVXt {y : MethodName} {cc : ByteArray} {mL0 idx b ci N mc ms : Nat} {ret : Option FieldType} {rm : Room} {As : List Value} {E : String} {z' : Nat} {h' : AH} {T : u_T} (d : decode (mC M) pc = .ok (.invokevirtual idx, 3)) (hM : jMetX g y (wj y cc mL0 ret) rm (.ref b :: As) z h (.inr E, z', h')) (hl0 : Cond.methodLink (mO M) idx y ∈ gtbl) (h0 : jV0 y cc mL0 ret As.length) (hk : kd h b = ci + 1) (hci : ci < 10) (hc : vwCl[ci]? = some (y.cls, T, N))
    (hro : rm.frames + 1 ≤ (mR M).frames ∧ 8 + (mL0 + 11) + rm.locals ≤ (mR M).locals) (hce : k + rm.cells ≤ (mR M).cells ∧ n + rm.slots ≤ (mR M).slots) (hw : (st.map fun v => v.category).sum ≤ 8) (ht : mX M = some []) (h1 : k + rm.cells ≤ mc) (h2 : n + rm.slots ≤ ms) : J g M (jV g (.inr E, z', h') mc ms) pc lv (As.reverse ++ .ref b :: st) z h k n := by
  intro p e s m args below meth c H locs ls hS hR hF hl
  obtain ⟨hx, hb, hml, hrt, hown, hlk, hname, htb, hts, hK, hX, hB⟩ := id hS
  obtain ⟨i1, i2, i3, i4, i5, i6, i7⟩ := h0
  refine W_runT (vx_runV (As := As) (rest := st) ⟨hx, hb, hml, hown, hts⟩ hM ⟨callB_of As.length hts (wj_good i4) rfl rfl rfl (hts _ i3) (hts _ hl0) ⟨i5, i6, i7⟩ hro, hts _ i1, hts _ i2⟩ ⟨jPc_blind _ _ _ _, va_recv hK (jR_at hR hk hci) hc (q0 := 0) rfl, jPc_at hK hX hR hF _⟩ rfl rfl hl.1 rfl (lv_room hw) d hce) hF ?_
  exact fun H1 locs1 q ce hR1 hF1 hc1 hc2 hc3 => vx_out (by rw [htb _ ht]; exact fun x hx => nomatch hx) hlk hc1 hc2 hc3 (fun t ht _ => ⟨rfl, by rw [ht]; exact hR1, hF1.F ht⟩) hF1.2.2 h1 h2
/-- a call that throws, caught here -/
theorem J_callVXc {y : MethodName} {cc : ByteArray} {mL0 idx b ci N : Nat} {ret : Option FieldType} {rm : Room} {As : List Value} {E nm : String} {z' : Nat} {h' : AH} {T : u_T} (pre : List ExceptionTableEntry) (x : ExceptionTableEntry) (suf : List ExceptionTableEntry) (d : decode (mC M) pc = .ok (.invokevirtual idx, 3)) (hM : jMetX g y (wj y cc mL0 ret) rm (.ref b :: As) z h (.inr E, z', h')) (hl0 : Cond.methodLink (mO M) idx y ∈ gtbl) (h0 : jV0 y cc mL0 ret As.length) (hk : kd h b = ci + 1) (hci : ci < 10) (hc : vwCl[ci]? = some (y.cls, T, N))
    (hro : rm.frames + 1 ≤ (mR M).frames ∧ 8 + (mL0 + 11) + rm.locals ≤ (mR M).locals) (hce : k + rm.cells ≤ (mR M).cells ∧ n + rm.slots ≤ (mR M).slots) (hw : (st.map fun v => v.category).sum ≤ 8) (ht : mX M = some (pre ++ x :: suf))
    (hpass : ∀ z ∈ pre, z.catchType ≠ 0 ∧ ∃ nm : String, Cond.classLink (mO M) z.catchType nm ∈ gtbl ∧ ∀ U, jX g U → va_Nc E nm U) (hcov : covers x pc = true) (hct : x.catchType ≠ 0) (hlk0 : Cond.classLink (mO M) x.catchType nm ∈ gtbl) (hcast : Cond.castable E nm ∈ lw_tbl)
    (kk : ∀ q : Nat, J g M QQ x.handlerPc lv [.ref q] z' h' (k + rm.cells) (n + rm.slots)) : J g M QQ pc lv (As.reverse ++ .ref b :: st) z h k n := by
  intro p e s m args below meth c H locs ls hS hR hF hl
  obtain ⟨hx, hb, hml, hrt, hown, hlk, hname, htb, hts, hK, hX, hB⟩ := id hS
  obtain ⟨i1, i2, i3, i4, i5, i6, i7⟩ := h0
  refine W_runT (vx_runV (As := As) (rest := st) ⟨hx, hb, hml, hown, hts⟩ hM ⟨callB_of As.length hts (wj_good i4) rfl rfl rfl (hts _ i3) (hts _ hl0) ⟨i5, i6, i7⟩ hro, hts _ i1, hts _ i2⟩ ⟨jPc_blind _ _ _ _, va_recv hK (jR_at hR hk hci) hc (q0 := 0) rfl, jPc_at hK hX hR hF _⟩ rfl rfl hl.1 rfl (lv_room hw) d hce) hF ?_
  exact fun H1 locs1 q ce hR1 hF1 hc1 hc2 hc3 => vx_catch hown pre x suf (htb _ ht) (fun z hz => by obtain ⟨w1, w2, w3, w4⟩ := hpass z hz; exact Or.inr ⟨w1, w2, hts _ w3, w4 s hX⟩) hcov hct (hts _ hlk0) (va_Nw.use rfl (hX.2.1 _ hcast (Or.inl ⟨_, _, rfl⟩))) hc1 hc2 hc3 (kk q p e s m args below meth c H1 locs1 ls hS hR1 hF1 hl)
end JR3
section JTH
variable {p : Program} {l : Launch} {e : Env} {R : Room} {s : State} {m : MethodId} {args : Array Value} {below : List Frame} {meth : Method} {c : Code} {H : Heap} {locs : List Loc} {cells slots : Nat} {Q : State → Prop}
variable {free : Addr → Prop} {ls : Array Slot} {rest : List Value} {Qc : Array Value → State → Outcome → State → Prop} {XC : String → State → State → Prop}
/-- 'throw new E("text")' (begun from vx_throwSW): one cell is made -/
theorem jth {cc : ByteArray} {pc : Nat} (hexec : p.tables.exec = Jvm.exec) (hb : c.code = cc) (hl : l.stackTraces = false) {own cls text : String} {names : List String} {ik is ic mc ms sa : Nat} {A : Nat → Prop}
    (hown : s.vm.findClass own = some m.cls) (hcls : Bundle.fit cls = true) (hnames : ∀ n ∈ names, Bundle.fit n = true)
    (hk : (Cond.classLink own ik cls).before args s = true) (hini : (Cond.initialized cls).before args s = true) (hstr : vk_R own is text sa s) (hat : ∀ w ∈ vx_atS own ic cls names, w.before args s = true)
    (hgood : ∀ w ∈ Cond.classLink own ik cls :: Cond.initialized cls :: vx_atS own ic cls names, vx_ot w = true)
    (hU : vx_Zq Bundle.tN "UNASSIGNED_STACK" Bundle.steD A s s.heap) (hN : vx_Zq Bundle.tN "SUPPRESSED_SENTINEL" Bundle.listD A s s.heap) (hS : va_S A s.heap H locs) (hsize : ls.size = c.maxLocals)
    (d0 : decode cc pc = .ok (.new ik, 3)) (d3 : decode cc (pc + 3) = .ok (.dup, 1)) (d4 : decode cc (pc + 4) = .ok (.ldc_w is, 3)) (d7 : decode cc (pc + 7) = .ok (.invokespecial ic, 3)) (d10 : decode cc (pc + 10) = .ok (.athrow, 1))
    (hout : ∀ x ∈ c.exceptionTable.toList, covers x (pc + 10) = false)
    (hRframes : names.length + 3 < R.frames) (hRlocals : (rest.map fun v => v.category).sum + (13 * (names.length + 1) + 43) ≤ R.locals) (hRcells : cells + 1 ≤ R.cells) (hRslots : slots + 6 ≤ R.slots) (hlocks : meth.locks = false)
    (hx : ∀ t : State, s.vm.Alike t.vm → t.heap.size = H.size + 1 → (∀ q : Nat, q < H.size → t.heap[q]? = H[q]?) → XC cls s t)
    (hf : ∀ z ∈ locs, free z.base) (hc : cells + 1 ≤ mc) (hs : slots + 6 ≤ ms) :
    W p l e R s m args below meth c H locs cells slots (vx_MQ below Qc XC args s mc ms free) (F0 m pc ls rest) := by
  intro T hT X
  have htr : e.platform.stackTraces = false := (show e.platform.stackTraces = l.stackTraces by rw [X.admits.platform]).trans hl
  have Y := vx_rebase X (R' := { frames := R.frames, locals := R.locals, cells := 1, slots := 6 }) (Nat.le_refl _) (Nat.le_refl _) hRcells hRslots
  obtain ⟨s', hA⟩ : ∃ z, z = (T.setVm s.vm).setFrames (.invoking m args :: below) := ⟨_, rfl⟩
  rw [← hA] at Y
  have hvm : s'.vm = s.vm := by rw [hA]; rfl
  have hhp : s'.heap = H := by rw [hA]; exact hT
  have hW0 : s.WarmedH s'.vm := by rw [hvm]; exact State.WarmedH.refl s
  have hat' : ∀ w ∈ vx_atS own ic cls names, w.before args s' = true := fun w hw => vx_ot_at hW0 hvm.symm (hgood w (List.mem_cons_of_mem _ (List.mem_cons_of_mem _ hw))) (hat w hw)
  have hk' : (Cond.classLink own ik cls).before args s' = true := vx_ot_at hW0 hvm.symm (hgood _ List.mem_cons_self) hk
  have hini' : (Cond.initialized cls).before args s' = true := vx_ot_at hW0 hvm.symm (hgood _ (List.mem_cons_of_mem _ List.mem_cons_self)) hini
  have hU' : vx_Zq Bundle.tN "UNASSIGNED_STACK" Bundle.steD A s' s'.heap := by rw [hhp]; exact vx_Zq.moved hW0.alike (hU.kept hS.2.1)
  have hN' : vx_Zq Bundle.tN "SUPPRESSED_SENTINEL" Bundle.listD A s' s'.heap := by rw [hhp]; exact vx_Zq.moved hW0.alike (hN.kept hS.2.1)
  have h : ∀ w ∈ Bundle.ownAtoms own ic cls names, w.before args s' = true := vx_own hat' (vx_isRefq hU'.1) (vx_isRefq hN'.1) hU'.2.word hN'.2.word
  have hown' : s'.vm.findClass own = some m.cls := by rw [hvm]; exact hown
  have hins : (Cond.instantiable cls 6).before args s' = true := h _ (by simp [Bundle.ownAtoms])
  obtain ⟨vm₁, cX, kX, hfX, hkX, -, -, X₁, st1⟩ := Y.newCold hexec (own := own) (C := cls) (index := ik) (n := 6) hown' hk' hins hini'
    (g := F0 m pc ls rest) rfl (by rw [hb]; exact d0) (Nat.le_refl _) (Nat.le_refl _)
  generalize hT1 : (T.setVm vm₁).pushCell { cls := cX, slots := kX.instanceTypes.map defaultValue, vm := .none } = T1 at X₁ st1
  have hcat : (Value.ref T.heap.size).category = 1 := rfl
  have hcellA : T1.heap[T.heap.size]? = some (freshCell cX kX) := by rw [← hT1]; exact State.heap_pushCell_size _ _
  have d3' : decode c.code (pc + 3) = .ok (.dup, 1) := by rw [hb]; exact d3
  have d4' : decode c.code (pc + 4) = .ok (.ldc_w is, 3) := by rw [hb]; exact d4
  have hstr' : vk_R own is text sa s' := vk_R.warm hW0 hstr
  obtain ⟨U, hsteps, hrun, hend, hW, hsame, ce, hce, hO⟩ := X₁.ctorThrowS hexec htr (own := own) (cls := cls) (names := names) (ic := ic) hown' hcls hnames h (fun x hx => nomatch hx) hfX hkX hcellA (by rw [hhp, hT]; exact Nat.le_refl _) (msg := .ref sa) rfl
    (g := { method := m, pc := pc + 7, locals := ls, stack := .ref sa :: .ref T.heap.size :: .ref T.heap.size :: rest, locked := none }) rfl hsize rfl rfl (rest := rest) rfl
    (by rw [hb]; exact d7) (by rw [hb]; exact d10) hout hRframes (by simp only [List.map_cons, List.sum_cons, hcat]; omega) hlocks
  obtain ⟨f1, f2⟩ := vx_frame hsame
  rw [hhp] at f1 f2
  have f3 : U.heap.size ≤ s'.heap.size + (0 + 1) := hsame.2.2.1
  have f4 : T.heap.size < U.heap.size := (Array.getElem?_eq_some_iff.mp hce).1
  have f5 : U.heap.size = H.size + 1 := by
    rw [hhp] at f3
    rw [hT] at f4
    omega
  have hWs : s.WarmedH U.vm := State.WarmedH.trans hW0 hW
  have hcl : s.vm.findClass cls = some ce.cls := by
    have h9 := hO.cls
    rw [hvm] at h9
    exact h9
  have hall : s.sameButNew ({ U with vm := s.vm } : State) locs mc ms := by
    subst hA
    obtain ⟨e1, e2⟩ := hsame
    rw [State.setFrames_setFrames] at e1
    have h2 : (T.setVm s.vm).sameButNew ({ U with vm := s.vm } : State) [] (0 + 1) (0 + 6) := ⟨e1, e2⟩
    have h3 := X.same.trans h2
    rw [List.append_nil] at h3
    exact h3.mono hc hs
  refine ⟨U, ?_, .threw T.heap.size, hrun, hend, Or.inr ⟨T.heap.size, rfl, cls, ce, locs, hx U hWs.alike f5 (fun q hq => f2 q hq (fun z hz => nomatch hz)), hce, hO.vm, hcl, hWs, hall, hf⟩⟩
  refine st1 _ ?_
  show Steps p.tables e below (T1.setTop { method := m, pc := pc + 3, locals := ls, stack := .ref T.heap.size :: rest, locked := none }) _
  jvm_step X₁.here [X₁.here.top, hexec, d3', Value.category]
  exact X₁.ldcStringW hexec (own := own) (text := text) (index := is) (a := sa) hown' hstr'.1 hstr'.2
    (g := { method := m, pc := pc + 4, locals := ls, stack := .ref T.heap.size :: .ref T.heap.size :: rest, locked := none }) rfl d4' _ hsteps
end JTH
def jcast : Cond → Bool
  | .castable _ _ => true
  | .declares _ => true
  | _ => false
section JT2
variable {g : JG} {M : JM} {QQ : JQ} {pc z k n : Nat} {lv : List (Option Value)} {st : List Value} {h : AH}
theorem jR_grow {H H1 : Heap} (hR : jR g z h H) (hz : H1.size = H.size + 1) (oq : ∀ q : Nat, q < H.size → H1[q]? = H[q]?) : jR g (z + 1) h H1 :=
  ⟨by rw [hz, hR.1], Nat.le_succ_of_le hR.2.1, fun b hb => ⟨(hR.2.2 b hb).1, (hR.2.2 b hb).2.kept (oq b (hR.2.2 b hb).2.lt)⟩⟩
theorem J_throw {cls text : String} {names : List String} {ik is ic mc ms : Nat} (hl : (jl g).stackTraces = false) (hcls : Bundle.fit cls = true) (hnames : ∀ n ∈ names, Bundle.fit n = true) (hown8 : mO M = RX8)
    (hk : Cond.classLink (mO M) ik cls ∈ gtbl) (hini : Cond.initialized cls ∈ gtbl) (hstr : Cond.stringRef RX8 is text ∈ lw_tbl) (hat : (vx_atS (mO M) ic cls names).all (fun w => decide (w ∈ lw_tbl) && (goodWord w || jcast w)) = true)
    (hgood : (Cond.classLink (mO M) ik cls :: Cond.initialized cls :: vx_atS (mO M) ic cls names).all vx_ot = true)
    (d0 : decode (mC M) pc = .ok (.new ik, 3)) (d3 : decode (mC M) (pc + 3) = .ok (.dup, 1)) (d4 : decode (mC M) (pc + 4) = .ok (.ldc_w is, 3)) (d7 : decode (mC M) (pc + 7) = .ok (.invokespecial ic, 3)) (d10 : decode (mC M) (pc + 10) = .ok (.athrow, 1)) (ht : mX M = some [])
    (hRframes : names.length + 3 < (mR M).frames) (hRlocals : 13 * (names.length + 1) + 43 ≤ (mR M).locals) (hRcells : k + 1 ≤ (mR M).cells) (hRslots : n + 6 ≤ (mR M).slots) (hc : k + 1 ≤ mc) (hs : n + 6 ≤ ms) : J g M (jV g (.inr cls, z + 1, h) mc ms) pc lv [] z h k n := by
  intro p e s m args below meth c H locs ls hS hR hF hlo
  obtain ⟨hx, hb, hml, hrt, hown, hlk, hname, htb, hts, hK, hX, hB⟩ := id hS
  have hstr' := hX.2.2.2.2.1 _ _ hstr
  rw [← hown8] at hstr'
  refine jth hx hb hl hown hcls hnames (hts _ hk) (hts _ hini) hstr' (fun w hw => ?_) (fun w hw => List.all_eq_true.mp hgood w hw) hX.2.2.1 hX.2.2.2.1 hF (hlo.1.trans hml.symm) d0 d3 d4 d7 d10 (by rw [htb _ ht]; exact fun x hx => nomatch hx) hRframes (by simpa using hRlocals) hRcells hRslots hlk (fun t hvm hz hq => ?_) hF.2.2 hc hs
  · have h1 := List.all_eq_true.mp hat w hw
    simp only [Bool.and_eq_true, decide_eq_true_eq, Bool.or_eq_true] at h1
    rcases h1 with ⟨h1, h2 | h2⟩
    · exact hts _ (List.mem_filter.mpr ⟨h1, h2⟩)
    · cases w with
      | castable a b => exact va_Nw.use rfl (hX.2.1 _ h1 (Or.inl ⟨_, _, rfl⟩))
      | declares x => exact va_Nw.use rfl (hX.2.1 _ h1 (Or.inr ⟨_, rfl⟩))
      | _ => cases h2
  · exact ⟨rfl, jR_grow hR hz hq, by rw [hz]; exact Nat.le_trans hF.1 (Nat.le_succ _), fun q h1 h2 => (hq q (Nat.lt_of_lt_of_le h1 hF.1)).trans (hF.2.1 q h1 h2)⟩
/-- System.arraycopy between two rows of ints, of longs -/
theorem J_copyI {idx a a0 : Nat} {sp dp cn : Int32} (d : decode (mC M) pc = .ok (.invokestatic idx, 3)) (hw1 : Cond.methodLink (mO M) idx arraycopyName ∈ gtbl) (hw2 : Cond.native arraycopyName ∈ gtbl) (hw3 : Cond.static arraycopyName ∈ gtbl) (hw4 : Cond.initialized "java/lang/System" ∈ gtbl) (hk0 : kd h a0 = 13) (hk : kd h a = 13)
    (h1 : ¬ sp < 0) (h2 : ¬ dp < 0) (h3 : ¬ cn < 0) (h4 : sp.toNatClampNeg + cn.toNatClampNeg ≤ ln h a0) (h5 : dp.toNatClampNeg + cn.toNatClampNeg ≤ ln h a) (hfr : 1 ≤ (mR M).frames) (hlo : (st.map fun v => v.category).sum + (nativeFrameWords "java/lang/System" "arraycopy" 5 + 11) ≤ (mR M).locals)
    (kk : J g M QQ (pc + 3) lv st z (wRowI h a (va_cpy (iv h a0) (iv h a) sp.toNatClampNeg dp.toNatClampNeg cn.toNatClampNeg)) k n) : J g M QQ pc lv (.int cn :: .int dp :: .ref a :: .int sp :: .ref a0 :: st) z h k n := by
  intro p e s m args below meth c H locs ls hS hR hF hl
  obtain ⟨hx, hb, hml, hrt, hown, hlk, hname, htb, hts, hK, hX, hB⟩ := id hS
  have nn : ∀ z : Int32, ¬ z < 0 → z.toInt = (z.toNatClampNeg : Int) := by
    intro z hz
    have hz0 : (0 : Int) ≤ z.toInt := by
      have := Int32.not_lt.mp hz
      simpa using Int32.le_iff_toInt_le.mp this
    show z.toInt = ((z.toInt.toNat : Nat) : Int)
    omega
  intro T hT X
  have hc0 : H[a0]? = some (vp_cell (jca g 2) (ln h a0, .inl (iv h a0))) := jR_el hR (by omega) (jc_i (ca := jca g) hk0) 0 _ rfl
  have hc1 : H[a]? = some (vp_cell (jca g 2) (ln h a, .inl (iv h a))) := jR_el hR (by omega) (jc_i (ca := jca g) hk) 0 _ rfl
  obtain ⟨-, k0, hkk0, cm0, hkk0'⟩ := (hK.2 2 _ rfl).1 (ln h a0) (fun j => .int (iv h a0 j))
  obtain ⟨-, k1, hkk1, cm1, hkk1'⟩ := (hK.2 2 _ rfl).1 (ln h a) (fun j => .int (iv h a j))
  obtain ⟨vm', X', step⟩ := X.arraycopy hx hown (hts _ hw1) (hts _ hw2) (hts _ hw3) (hts _ hw4) (src := a0) (dst := a) (cs := vp_cell (jca g 2) (ln h a0, .inl (iv h a0))) (cd := vp_cell (jca g 2) (ln h a, .inl (iv h a))) (srcPos := sp) (destPos := dp) (n := cn) (by rw [hT]; exact hc0) (by rw [hT]; exact hc1)
    (fun _ h => by cases h) (fun _ h => by cases h) (fun h => by cases h) (fun h => by cases h) hkk0 hkk1 hkk0' hkk1' (by simp [refKind]) h1 h2 h3
    (by rw [nn sp h1, nn cn h3]; show ¬ _ > ((arrV (jca g 2) (ln h a0) (fun j => .int (iv h a0 j))).slots.size : Int); rw [arrV_size]; omega)
    (by rw [nn dp h2, nn cn h3]; show ¬ _ > ((arrV (jca g 2) (ln h a) (fun j => .int (iv h a j))).slots.size : Int); rw [arrV_size]; omega)
    (fun vm₁ _ i hi => by
      have e : (vp_cell (jca g 2) (ln h a0, .inl (iv h a0))).slots.getD (sp.toNatClampNeg + i) .null = .int (iv h a0 (sp.toNatClampNeg + i)) := by
        show (arrV (jca g 2) (ln h a0) (fun j => .int (iv h a0 j))).slots.getD _ _ = _
        rw [Array.getD_eq_getD_getElem?, arrV_read _ _ (by omega)]
        rfl
      refine ⟨?_, ?_⟩
      · rw [e]
        rfl
      · rw [e]
        exact trivial)
    (g := F0 m pc ls (.int cn :: .int dp :: .ref a :: .int sp :: .ref a0 :: st)) rfl (hl.1.trans hml.symm) (rest := st) rfl (by rw [hb]; exact d) hfr (by show 2 * 0 + _ + _ ≤ _; omega)
  have e1 : copied (vp_cell (jca g 2) (ln h a0, .inl (iv h a0))) (vp_cell (jca g 2) (ln h a, .inl (iv h a))) sp dp cn = vp_cell (jca g 2) (ln h a, .inl (va_cpy (iv h a0) (iv h a) sp.toNatClampNeg dp.toNatClampNeg cn.toNatClampNeg)) := va_copied (fun z => .int z) (jca g 2) (jca g 2) (iv h a0) (iv h a) h4
  rw [e1] at X' step
  have hlt : a < H.size := (Array.getElem?_eq_some_iff.mp hc1).1
  have hheap : ((T.setVm vm').setCell a (vp_cell (jca g 2) (ln h a, .inl (va_cpy (iv h a0) (iv h a) sp.toNatClampNeg dp.toNatClampNeg cn.toNatClampNeg)))).heap = H.setIfInBounds a (vp_cell (jca g 2) (ln h a, .inl (va_cpy (iv h a0) (iv h a) sp.toNatClampNeg dp.toNatClampNeg cn.toNatClampNeg))) := by rw [← hT]; rfl
  have oq : ∀ q : Nat, q ≠ a → (H.setIfInBounds a (vp_cell (jca g 2) (ln h a, .inl (va_cpy (iv h a0) (iv h a) sp.toNatClampNeg dp.toNatClampNeg cn.toNatClampNeg))))[q]? = H[q]? := fun q hq => by simp [Array.getElem?_setIfInBounds, Ne.symm hq]
  have hBa : jB g ≤ a := (hR.2.2 a (by omega)).1
  obtain ⟨t, a1, b1⟩ := kk p e s m args below meth c _ _ ls hS (jR_upd hR (by simp) oq rfl (fun b hb => ⟨u1_ne _ _ hb, rfl, rfl⟩) (by
      rw [jc_i (h := wRowI h a _) hk]
      show (H.setIfInBounds a _)[a]? = some (vp_cell _ (_, .inl (u1 h.2.1 a _ a)))
      rw [u1_self]
      simp [Array.getElem?_setIfInBounds, hlt]
      rfl)) ⟨by simp; exact hF.1, fun q g1 g2 => by
      rw [oq q (fun e => g2 (by rw [e]; exact hBa))]
      exact hF.2.1 q g1 g2, fun q hq => by
      rcases List.mem_append.mp hq with h | h
      · exact hF.2.2 q h
      · obtain ⟨z, -, hz⟩ := List.mem_map.mp h
        rw [← hz]
        exact hBa⟩ hl _ hheap X'
  exact ⟨t, step t a1, b1⟩
theorem J_copyJ {idx a a0 : Nat} {sp dp cn : Int32} (d : decode (mC M) pc = .ok (.invokestatic idx, 3)) (hw1 : Cond.methodLink (mO M) idx arraycopyName ∈ gtbl) (hw2 : Cond.native arraycopyName ∈ gtbl) (hw3 : Cond.static arraycopyName ∈ gtbl) (hw4 : Cond.initialized "java/lang/System" ∈ gtbl) (hk0 : kd h a0 = 14) (hk : kd h a = 14)
    (h1 : ¬ sp < 0) (h2 : ¬ dp < 0) (h3 : ¬ cn < 0) (h4 : sp.toNatClampNeg + cn.toNatClampNeg ≤ ln h a0) (h5 : dp.toNatClampNeg + cn.toNatClampNeg ≤ ln h a) (hfr : 1 ≤ (mR M).frames) (hlo : (st.map fun v => v.category).sum + (nativeFrameWords "java/lang/System" "arraycopy" 5 + 11) ≤ (mR M).locals)
    (kk : J g M QQ (pc + 3) lv st z (wRowJ h a (va_cpy (jv h a0) (jv h a) sp.toNatClampNeg dp.toNatClampNeg cn.toNatClampNeg)) k n) : J g M QQ pc lv (.int cn :: .int dp :: .ref a :: .int sp :: .ref a0 :: st) z h k n := by
  intro p e s m args below meth c H locs ls hS hR hF hl
  obtain ⟨hx, hb, hml, hrt, hown, hlk, hname, htb, hts, hK, hX, hB⟩ := id hS
  have nn : ∀ z : Int32, ¬ z < 0 → z.toInt = (z.toNatClampNeg : Int) := by
    intro z hz
    have hz0 : (0 : Int) ≤ z.toInt := by
      have := Int32.not_lt.mp hz
      simpa using Int32.le_iff_toInt_le.mp this
    show z.toInt = ((z.toInt.toNat : Nat) : Int)
    omega
  intro T hT X
  have hc0 : H[a0]? = some (vp_cell (jca g 3) (ln h a0, .inr (.inl (jv h a0)))) := jR_el hR (by omega) (jc_l (ca := jca g) hk0) 0 _ rfl
  have hc1 : H[a]? = some (vp_cell (jca g 3) (ln h a, .inr (.inl (jv h a)))) := jR_el hR (by omega) (jc_l (ca := jca g) hk) 0 _ rfl
  obtain ⟨-, k0, hkk0, cm0, hkk0'⟩ := (hK.2 3 _ rfl).1 (ln h a0) (fun j => .long (jv h a0 j))
  obtain ⟨-, k1, hkk1, cm1, hkk1'⟩ := (hK.2 3 _ rfl).1 (ln h a) (fun j => .long (jv h a j))
  obtain ⟨vm', X', step⟩ := X.arraycopy hx hown (hts _ hw1) (hts _ hw2) (hts _ hw3) (hts _ hw4) (src := a0) (dst := a) (cs := vp_cell (jca g 3) (ln h a0, .inr (.inl (jv h a0)))) (cd := vp_cell (jca g 3) (ln h a, .inr (.inl (jv h a)))) (srcPos := sp) (destPos := dp) (n := cn) (by rw [hT]; exact hc0) (by rw [hT]; exact hc1)
    (fun _ h => by cases h) (fun _ h => by cases h) (fun h => by cases h) (fun h => by cases h) hkk0 hkk1 hkk0' hkk1' (by simp [refKind]) h1 h2 h3
    (by rw [nn sp h1, nn cn h3]; show ¬ _ > ((arrV (jca g 3) (ln h a0) (fun j => .long (jv h a0 j))).slots.size : Int); rw [arrV_size]; omega)
    (by rw [nn dp h2, nn cn h3]; show ¬ _ > ((arrV (jca g 3) (ln h a) (fun j => .long (jv h a j))).slots.size : Int); rw [arrV_size]; omega)
    (fun vm₁ _ i hi => by
      have e : (vp_cell (jca g 3) (ln h a0, .inr (.inl (jv h a0)))).slots.getD (sp.toNatClampNeg + i) .null = .long (jv h a0 (sp.toNatClampNeg + i)) := by
        show (arrV (jca g 3) (ln h a0) (fun j => .long (jv h a0 j))).slots.getD _ _ = _
        rw [Array.getD_eq_getD_getElem?, arrV_read _ _ (by omega)]
        rfl
      refine ⟨?_, ?_⟩
      · rw [e]
        rfl
      · rw [e]
        exact trivial)
    (g := F0 m pc ls (.int cn :: .int dp :: .ref a :: .int sp :: .ref a0 :: st)) rfl (hl.1.trans hml.symm) (rest := st) rfl (by rw [hb]; exact d) hfr (by show 2 * 0 + _ + _ ≤ _; omega)
  have e1 : copied (vp_cell (jca g 3) (ln h a0, .inr (.inl (jv h a0)))) (vp_cell (jca g 3) (ln h a, .inr (.inl (jv h a)))) sp dp cn = vp_cell (jca g 3) (ln h a, .inr (.inl (va_cpy (jv h a0) (jv h a) sp.toNatClampNeg dp.toNatClampNeg cn.toNatClampNeg))) := va_copied (fun z => .long z) (jca g 3) (jca g 3) (jv h a0) (jv h a) h4
  rw [e1] at X' step
  have hlt : a < H.size := (Array.getElem?_eq_some_iff.mp hc1).1
  have hheap : ((T.setVm vm').setCell a (vp_cell (jca g 3) (ln h a, .inr (.inl (va_cpy (jv h a0) (jv h a) sp.toNatClampNeg dp.toNatClampNeg cn.toNatClampNeg))))).heap = H.setIfInBounds a (vp_cell (jca g 3) (ln h a, .inr (.inl (va_cpy (jv h a0) (jv h a) sp.toNatClampNeg dp.toNatClampNeg cn.toNatClampNeg)))) := by rw [← hT]; rfl
  have oq : ∀ q : Nat, q ≠ a → (H.setIfInBounds a (vp_cell (jca g 3) (ln h a, .inr (.inl (va_cpy (jv h a0) (jv h a) sp.toNatClampNeg dp.toNatClampNeg cn.toNatClampNeg)))))[q]? = H[q]? := fun q hq => by simp [Array.getElem?_setIfInBounds, Ne.symm hq]
  have hBa : jB g ≤ a := (hR.2.2 a (by omega)).1
  obtain ⟨t, a1, b1⟩ := kk p e s m args below meth c _ _ ls hS (jR_upd hR (by simp) oq rfl (fun b hb => ⟨rfl, u1_ne _ _ hb, rfl⟩) (by
      rw [jc_l (h := wRowJ h a _) hk]
      show (H.setIfInBounds a _)[a]? = some (vp_cell _ (_, .inr (.inl (u1 h.2.2.1 a _ a))))
      rw [u1_self]
      simp [Array.getElem?_setIfInBounds, hlt]
      rfl)) ⟨by simp; exact hF.1, fun q g1 g2 => by
      rw [oq q (fun e => g2 (by rw [e]; exact hBa))]
      exact hF.2.1 q g1 g2, fun q hq => by
      rcases List.mem_append.mp hq with h | h
      · exact hF.2.2 q h
      · obtain ⟨z, -, hz⟩ := List.mem_map.mp h
        rw [← hz]
        exact hBa⟩ hl _ hheap X'
  exact ⟨t, step t a1, b1⟩
theorem J_anew {idx N : Nat} {m0 : Int32} (d : decode (mC M) pc = .ok (.anewarray idx, 3)) (hw : Cond.classLink (mO M) idx RX0 ∈ gtbl) (hn : ¬ m0 < 0) (hN : m0.toNatClampNeg = N) (hbytes : N * 4 ≤ 536870912) (hcells : k + 1 ≤ (mR M).cells) (hslots : n + N ≤ (mR M).slots) (kk : J g M QQ (pc + 3) lv (.ref z :: st) (z + 1) (wNew h z 15 N) (k + 1) (n + N)) : J g M QQ pc lv (.int m0 :: st) z h k n := by
  intro p e s m args below meth c H locs ls hS hR hF hl
  obtain ⟨hx, hb, hml, hrt, hown, hlk, hname, htb, hts, hK, hX, hB⟩ := id hS
  subst hN
  refine W.anew hx hb hown (hts _ hw) (va_AO.use hX.2.2.2.2.2.1) (g := F0 m pc ls (.int m0 :: st)) rfl d rfl hn hbytes hcells hslots fun cA kA comp f1 f2 f3 f4 => ?_
  generalize hH1 : H.push ({ cls := cA, slots := Array.replicate m0.toNatClampNeg .null, vm := .none } : Cell) = H1
  have z1 : H1.size = H.size + 1 := by rw [← hH1, Array.size_push]
  have e1 : H1[H.size]? = some (arrV cA m0.toNatClampNeg (fun _ => .null)) := by rw [← hH1, Array.getElem?_push_size, ← arrV_new]
  have o1 : ∀ q : Nat, q < H.size → H1[q]? = H[q]? := fun q hq => by rw [← hH1, Array.getElem?_push, if_neg (Nat.ne_of_lt hq)]
  obtain ⟨kA', comp', k1, k2, k3, k4⟩ := (hK.2 4 _ rfl).2
  have hcA : cA = jca g 4 := Option.some.inj (f1.symm.trans k4)
  subst hcA
  have hz := hR.1
  subst hz
  refine kk p e s m args below meth c H1 locs ls hS (jR_new hR z1 o1 ?_) ⟨Nat.le_trans hF.1 (by rw [z1]; omega), fun x h1 h2 => (o1 x (Nat.lt_of_lt_of_le h1 hF.1)).trans (hF.2.1 x h1 h2), hF.2.2⟩ hl
  show H1[H.size]? = some (vp_cell _ _)
  rw [e1]
  rfl
end JT2
