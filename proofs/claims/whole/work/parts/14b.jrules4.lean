/-! methods with handlers; the script; the law's end -/
abbrev wjH (y : MethodName) (cc : ByteArray) (mL : Nat) (ret : Option FieldType) (hh : List (Nat × Nat × Nat × Nat)) : List Cond := .codeWith y cc mL ret hh :: gtbl
theorem Met_ofWH {l : Launch} {y : MethodName} {ws ws' : List Cond} {rm : Room} {Pc : Array Value → State → Prop} {Qc : Array Value → State → Outcome → State → Prop} {mc ms : Nat} {free : Addr → Prop} {cc : ByteArray} {maxL : Nat} {ret : Option FieldType} {hh : List (Nat × Nat × Nat × Nat)}
    (hy : plainName y.cls = true) (hw : ws = Cond.codeWith y cc maxL ret hh :: ws')
    (body : ∀ p e s m args below meth c s₁, BodyLoose p l y (headSpec ws rm) cc maxL ret e s m args below meth c s₁ → c.maxLocals = maxL → Pc args s →
      W p l e (headSpec ws rm).room s m args below meth c s.heap [] 0 0 (MQ below Qc args s mc ms free) (entryFrame m args maxL)) : Met l y ws rm Pc Qc mc ms free := by
  refine MetFree.of_bodyS (code := cc) (maxLocals := maxL) (ret := ret) hy ?_ ?_
  · intro args s m h hn
    obtain ⟨m9, meth, c, hn9, h1, h2, h3, h4, -, h5, h6, -⟩ := Cond.codeWith_spec (atoms_spec (ws := ws) h _ (by rw [hw]; exact List.mem_cons_self))
    cases hn.symm.trans hn9
    exact ⟨meth, c, h1, h2, h3, h4, h5, h6⟩
  · intro p e s m args below meth c s₁ B hml hP _
    have hh0 : s₁.heap = s.heap := by rw [B.state]; rfl
    obtain ⟨t, a1, o, b1, b2, b3⟩ := body p e s m args below meth c s₁ B hml hP s₁ hh0 (Stand.of_body B)
    exact ⟨t, o, a1, b1, b2, ⟨b3.1, b3.2⟩⟩
def jH0 (y : MethodName) (cc : ByteArray) (mL : Nat) (ret : Option FieldType) (hh : List (Nat × Nat × Nat × Nat)) (na : Nat) : Prop := Cond.static y ∈ gtbl ∧ Cond.initialized y.cls ∈ gtbl ∧ Cond.codeWith y cc mL ret hh ∈ gtbl ∧ y.cls ≠ "java/lang/invoke/MethodHandle" ∧ y.cls ≠ "java/lang/invoke/VarHandle" ∧ (parseMethodDescriptor y.desc).map (fun d => d.parameters.length) = some na
section JR4
variable {g : JG} {M : JM} {QQ : JQ} {pc z k n : Nat} {lv : List (Option Value)} {st : List Value} {h : AH}
theorem jMet_mkH {y : MethodName} {cc : ByteArray} {mL0 : Nat} {ret : Option FieldType} {rm : Room} {av : List Value} {o : Option Value × Nat × AH} {hh : List (Nat × Nat × Nat × Nat)} {tb : List ExceptionTableEntry} (hy : plainName y.cls = true) (hlen : (lg_sl av).length ≤ mL0) (lv : List (Option Value)) (hlv : jA 0 lv = lv_args 0 av) (htb : tableOf hh = tb)
    (body : J g (y.cls, cc, mL0, ret, rm, y.name, some tb) (jN g o rm.cells rm.slots) 0 lv [] z h 0 0) : jMet g y (wjH y cc mL0 ret hh) rm av z h o := by
  refine Met_ofWH (cc := cc) (maxL := mL0) (ret := ret) hy rfl ?_
  intro p e s m args below meth c s₁ B hml hv
  obtain ⟨rfl, hK, hX, hR⟩ := hv
  have hts := atoms_spec (ws := wjH y cc mL0 ret hh) B.pre
  have hl := lv_entry av (n := mL0) hlen
  rw [← hlv] at hl
  rw [lg_entry_eq]
  have ht := vx_table (x := y) B (hts _ List.mem_cons_self)
  exact body p e s m _ below meth c s.heap [] _ ⟨B.exec, B.bytes, hml, B.returns, findClass_of_methodNamed B.named, B.notSynchronized, (name_of_methodNamed B.named B.method).1, (fun t h9 => by cases h9; rw [← htb]; exact ht), fun w hw => hts w (List.mem_cons_of_mem _ hw), hK, hX, hR.1 ▸ hR.2.1⟩ hR va_S.rf hl
theorem wjH_good {y : MethodName} {cc : ByteArray} {mL : Nat} {ret : Option FieldType} {hh : List (Nat × Nat × Nat × Nat)} (h : Cond.codeWith y cc mL ret hh ∈ gtbl) : GoodIn gtbl (wjH y cc mL ret hh) := by
  intro w hw
  rcases List.mem_cons.mp hw with rfl | hw
  · exact gtbl_good _ h
  · exact gtbl_good _ hw
theorem J_callSW {y : MethodName} {cc : ByteArray} {mL0 idx : Nat} {ret : Option FieldType} {rm : Room} {As : List Value} {o : Option Value × Nat × AH} {hh : List (Nat × Nat × Nat × Nat)} (d : decode (mC M) pc = .ok (.invokestatic idx, 3)) (hM : jMet g y (wjH y cc mL0 ret hh) rm As z h o) (hl0 : Cond.methodLink (mO M) idx y ∈ gtbl) (h0 : jH0 y cc mL0 ret hh As.length)
    (hro : rm.frames + 1 ≤ (mR M).frames ∧ 8 + (mL0 + 11) + rm.locals ≤ (mR M).locals) (hce : k + rm.cells ≤ (mR M).cells ∧ n + rm.slots ≤ (mR M).slots) (hw : (st.map fun v => v.category).sum ≤ 8)
    (kk : J g M QQ (pc + 3) lv (o.1.toList ++ st) o.2.1 o.2.2 (k + rm.cells) (n + rm.slots)) : J g M QQ pc lv (As.reverse ++ st) z h k n := by
  intro p e s m args below meth c H locs ls hS hR hF hl
  obtain ⟨hx, hb, hml, hrt, hown, hlk, hname, htb, hts, hK, hX, hB⟩ := id hS
  obtain ⟨i2, i3, i4, i5, i6, i7⟩ := h0
  have hc : Cond.codeWith y cc mL0 ret hh ∈ wjH y cc mL0 ret hh := List.mem_cons_self
  refine W_run (vx_runSW (As := As) (rest := st) ⟨hx, hb, hml, hown, hts⟩ hM ⟨⟨rfl, rfl, hro.1, hro.2, pay_in hts (wjH_good i4), hc⟩, hts _ i4, hts _ i3, ⟨i5, i6⟩, (fun sig h9 => by have h2 := i7; rw [h9] at h2; exact (Option.some.inj h2).symm), hts _ hl0, hts _ i2⟩ ⟨jPc_blind _ _ _ _, jPc_at hK hX hR hF _⟩ rfl rfl hl.1 rfl (lv_room hw) d hce) hF ?_
  exact fun H1 locs1 hR1 hF1 => kk p e s m args below meth c H1 locs1 ls hS hR1 hF1 hl
theorem CSW2i {y : MethodName} {cc : ByteArray} {mL0 idx : Nat} {ret : Option FieldType} {rm : Room} {a1 a2 : Value} {r : Int32} {z' : Nat} {h' : AH} {hh : List (Nat × Nat × Nat × Nat)} (d : decode (mC M) pc = .ok (.invokestatic idx, 3)) (hM : jMet g y (wjH y cc mL0 ret hh) rm [a1, a2] z h (some (.int r), z', h')) (hl0 : Cond.methodLink (mO M) idx y ∈ gtbl) (h0 : jH0 y cc mL0 ret hh 2)
    (hro : rm.frames + 1 ≤ (mR M).frames ∧ 8 + (mL0 + 11) + rm.locals ≤ (mR M).locals) (hce : k + rm.cells ≤ (mR M).cells ∧ n + rm.slots ≤ (mR M).slots) (hw : (st.map fun v => v.category).sum ≤ 8)
    (kk : J g M QQ (pc + 3) lv (.int r :: st) z' h' (k + rm.cells) (n + rm.slots)) : J g M QQ pc lv (a2 :: a1 :: st) z h k n := J_callSW (As := [a1, a2]) d hM hl0 h0 hro hce hw kk
theorem CSW3i {y : MethodName} {cc : ByteArray} {mL0 idx : Nat} {ret : Option FieldType} {rm : Room} {a1 a2 a3 : Value} {r : Int32} {z' : Nat} {h' : AH} {hh : List (Nat × Nat × Nat × Nat)} (d : decode (mC M) pc = .ok (.invokestatic idx, 3)) (hM : jMet g y (wjH y cc mL0 ret hh) rm [a1, a2, a3] z h (some (.int r), z', h')) (hl0 : Cond.methodLink (mO M) idx y ∈ gtbl) (h0 : jH0 y cc mL0 ret hh 3)
    (hro : rm.frames + 1 ≤ (mR M).frames ∧ 8 + (mL0 + 11) + rm.locals ≤ (mR M).locals) (hce : k + rm.cells ≤ (mR M).cells ∧ n + rm.slots ≤ (mR M).slots) (hw : (st.map fun v => v.category).sum ≤ 8)
    (kk : J g M QQ (pc + 3) lv (.int r :: st) z' h' (k + rm.cells) (n + rm.slots)) : J g M QQ pc lv (a3 :: a2 :: a1 :: st) z h k n := J_callSW (As := [a1, a2, a3]) d hM hl0 h0 hro hce hw kk
theorem CSW4i {y : MethodName} {cc : ByteArray} {mL0 idx : Nat} {ret : Option FieldType} {rm : Room} {a1 a2 a3 a4 : Value} {r : Int32} {z' : Nat} {h' : AH} {hh : List (Nat × Nat × Nat × Nat)} (d : decode (mC M) pc = .ok (.invokestatic idx, 3)) (hM : jMet g y (wjH y cc mL0 ret hh) rm [a1, a2, a3, a4] z h (some (.int r), z', h')) (hl0 : Cond.methodLink (mO M) idx y ∈ gtbl) (h0 : jH0 y cc mL0 ret hh 4)
    (hro : rm.frames + 1 ≤ (mR M).frames ∧ 8 + (mL0 + 11) + rm.locals ≤ (mR M).locals) (hce : k + rm.cells ≤ (mR M).cells ∧ n + rm.slots ≤ (mR M).slots) (hw : (st.map fun v => v.category).sum ≤ 8)
    (kk : J g M QQ (pc + 3) lv (.int r :: st) z' h' (k + rm.cells) (n + rm.slots)) : J g M QQ pc lv (a4 :: a3 :: a2 :: a1 :: st) z h k n := J_callSW (As := [a1, a2, a3, a4]) d hM hl0 h0 hro hce hw kk
theorem J_scrLoad {i : Int32} {b : Nat} (hb0 : b = jsb g) (d : decode (mC M) pc = .ok (.iaload, 1)) (hin : vp_in i (jsl g)) (kk : J g M QQ (pc + 1) lv (.int (jsx g i.toNatClampNeg) :: st) z h k n) : J g M QQ pc lv (.int i :: .ref b :: st) z h k n := by
  subst hb0
  intro p e s m args below meth c H locs ls hS hR hF hl
  obtain ⟨hx, hb, hml, hrt, hown, hlk, hname, htb, hts, hK, hX, hB⟩ := id hS
  obtain ⟨y1, y2, y3⟩ := hX.2.2.2.2.2.2.2
  exact va_sld hx hb y1 y3 (Nat.not_le.mpr y2) hF hin d (kk p e s m args below meth c H locs ls hS hR hF hl)
theorem J_scrLen {b : Nat} (hb0 : b = jsb g) (d : decode (mC M) pc = .ok (.arraylength, 1)) (kk : J g M QQ (pc + 1) lv (.int (Int32.ofNat (jsl g)) :: st) z h k n) : J g M QQ pc lv (.ref b :: st) z h k n := by
  subst hb0
  intro p e s m args below meth c H locs ls hS hR hF hl
  obtain ⟨hx, hb, hml, hrt, hown, hlk, hname, htb, hts, hK, hX, hB⟩ := id hS
  obtain ⟨y1, y2, y3⟩ := hX.2.2.2.2.2.2.2
  exact va_slen hx hb y1 y3 (Nat.not_le.mpr y2) hF d (kk p e s m args below meth c H locs ls hS hR hF hl)
end JR4
