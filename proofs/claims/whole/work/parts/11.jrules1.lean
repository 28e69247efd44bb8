/-! one-instruction rules: constants, locals, arithmetic, branches (printed by jrules1.py) -/
section JS1
variable {g : JG} {M : JM} {QQ : JQ} {pc z k n : Nat} {lv : List (Option Value)} {st : List Value} {h : AH}
theorem J_iconst {m0 : Int} {v : Int32} (d : decode (mC M) pc = .ok (.iconst m0, 1)) (hv : Int32.ofInt m0 = v) (kk : J g M QQ (pc + 1) lv (.int v :: st) z h k n) : J g M QQ pc lv (st) z h k n :=
  fun p e s m args below meth c H locs ls hS hR hF hl => lv_iconst hS.1 hS.2.1 d hv (kk p e s m args below meth c H locs ls hS hR hF hl)
theorem J_bipush {m0 : Int} {v : Int32} (d : decode (mC M) pc = .ok (.bipush m0, 2)) (hv : (Int8.ofInt m0).toInt32 = v) (kk : J g M QQ (pc + 2) lv (.int v :: st) z h k n) : J g M QQ pc lv (st) z h k n :=
  fun p e s m args below meth c H locs ls hS hR hF hl => lv_bipush hS.1 hS.2.1 d hv (kk p e s m args below meth c H locs ls hS hR hF hl)
theorem J_sipush {m0 : Int} {v : Int32} (d : decode (mC M) pc = .ok (.sipush m0, 3)) (hv : (Int16.ofInt m0).toInt32 = v) (kk : J g M QQ (pc + 3) lv (.int v :: st) z h k n) : J g M QQ pc lv (st) z h k n :=
  fun p e s m args below meth c H locs ls hS hR hF hl => lv_sipush hS.1 hS.2.1 d hv (kk p e s m args below meth c H locs ls hS hR hF hl)
theorem J_lconst {m0 : Fin 2} {v : Int64} (d : decode (mC M) pc = .ok (.lconst m0, 1)) (hv : Int64.ofNat (m0 : Nat) = v) (kk : J g M QQ (pc + 1) lv (.long v :: st) z h k n) : J g M QQ pc lv (st) z h k n :=
  fun p e s m args below meth c H locs ls hS hR hF hl => lv_lconst hS.1 hS.2.1 d hv (kk p e s m args below meth c H locs ls hS hR hF hl)
theorem J_iload_n {k0 : Fin 4} {i : Nat} {x : Int32} (d : decode (mC M) pc = .ok (.iload_n k0, 1)) (hi : (k0 : Nat) = i) (hv : lv[i]? = some (some (.int x))) (kk : J g M QQ (pc + 1) lv (.int x :: st) z h k n) : J g M QQ pc lv st z h k n :=
  fun p e s m args below meth c H locs ls hS hR hF hl => lv_iload_n hS.1 hS.2.1 d hi (jA_at hl hv) (kk p e s m args below meth c H locs ls hS hR hF hl)
theorem J_iload {i : Nat} {x : Int32} (d : decode (mC M) pc = .ok (.iload i, 2)) (hv : lv[i]? = some (some (.int x))) (kk : J g M QQ (pc + 2) lv (.int x :: st) z h k n) : J g M QQ pc lv st z h k n :=
  fun p e s m args below meth c H locs ls hS hR hF hl => lv_iload hS.1 hS.2.1 d (jA_at hl hv) (kk p e s m args below meth c H locs ls hS hR hF hl)
theorem J_lload_n {k0 : Fin 4} {i : Nat} {x : Int64} (d : decode (mC M) pc = .ok (.lload_n k0, 1)) (hi : (k0 : Nat) = i) (hv : lv[i]? = some (some (.long x))) (kk : J g M QQ (pc + 1) lv (.long x :: st) z h k n) : J g M QQ pc lv st z h k n :=
  fun p e s m args below meth c H locs ls hS hR hF hl => lv_lload_n hS.1 hS.2.1 d hi (jA_at hl hv) (kk p e s m args below meth c H locs ls hS hR hF hl)
theorem J_lload {i : Nat} {x : Int64} (d : decode (mC M) pc = .ok (.lload i, 2)) (hv : lv[i]? = some (some (.long x))) (kk : J g M QQ (pc + 2) lv (.long x :: st) z h k n) : J g M QQ pc lv st z h k n :=
  fun p e s m args below meth c H locs ls hS hR hF hl => lv_lload hS.1 hS.2.1 d (jA_at hl hv) (kk p e s m args below meth c H locs ls hS hR hF hl)
theorem J_aload_n {k0 : Fin 4} {i : Nat} {x : Nat} (d : decode (mC M) pc = .ok (.aload_n k0, 1)) (hi : (k0 : Nat) = i) (hv : lv[i]? = some (some (.ref x))) (kk : J g M QQ (pc + 1) lv (.ref x :: st) z h k n) : J g M QQ pc lv st z h k n :=
  fun p e s m args below meth c H locs ls hS hR hF hl => lv_aload_n hS.1 hS.2.1 d hi (jA_at hl hv) (kk p e s m args below meth c H locs ls hS hR hF hl)
theorem J_aload {i : Nat} {x : Nat} (d : decode (mC M) pc = .ok (.aload i, 2)) (hv : lv[i]? = some (some (.ref x))) (kk : J g M QQ (pc + 2) lv (.ref x :: st) z h k n) : J g M QQ pc lv st z h k n :=
  fun p e s m args below meth c H locs ls hS hR hF hl => lv_aload hS.1 hS.2.1 d (jA_at hl hv) (kk p e s m args below meth c H locs ls hS hR hF hl)
theorem J_aload_nq {k0 : Fin 4} {i : Nat} {r : Option Nat} (d : decode (mC M) pc = .ok (.aload_n k0, 1)) (hi : (k0 : Nat) = i) (hv : lv[i]? = some (some (va_rf r))) (kk : J g M QQ (pc + 1) lv (va_rf r :: st) z h k n) : J g M QQ pc lv st z h k n := by
  cases r with
  | none => exact fun p e s m args below meth c H locs ls hS hR hF hl => lv_aload_nN hS.1 hS.2.1 d hi (jA_at hl hv) (kk p e s m args below meth c H locs ls hS hR hF hl)
  | some x => exact fun p e s m args below meth c H locs ls hS hR hF hl => lv_aload_n hS.1 hS.2.1 d hi (jA_at hl hv) (kk p e s m args below meth c H locs ls hS hR hF hl)
theorem J_istore_n {k0 : Fin 4} {i : Nat} {x : Int32} {lv' : List (Option Value)} (d : decode (mC M) pc = .ok (.istore_n k0, 1)) (hi : (k0 : Nat) = i) (hv : jst i (.int x) lv = some lv') (hn : i < mL M) (kk : J g M QQ (pc + 1) lv' st z h k n) : J g M QQ pc lv (.int x :: st) z h k n :=
  fun p e s m args below meth c H locs ls hS hR hF hl => lv_istore_n hS.1 hS.2.1 d hi hl hn rfl (fun ls hl => kk p e s m args below meth c H locs ls hS hR hF (jst_has hv hl))
theorem J_istore {i : Nat} {x : Int32} {lv' : List (Option Value)} (d : decode (mC M) pc = .ok (.istore i, 2)) (hv : jst i (.int x) lv = some lv') (hn : i < mL M) (kk : J g M QQ (pc + 2) lv' st z h k n) : J g M QQ pc lv (.int x :: st) z h k n :=
  fun p e s m args below meth c H locs ls hS hR hF hl => lv_istore hS.1 hS.2.1 d hl hn rfl (fun ls hl => kk p e s m args below meth c H locs ls hS hR hF (jst_has hv hl))
theorem J_astore_n {k0 : Fin 4} {i : Nat} {x : Nat} {lv' : List (Option Value)} (d : decode (mC M) pc = .ok (.astore_n k0, 1)) (hi : (k0 : Nat) = i) (hv : jst i (.ref x) lv = some lv') (hn : i < mL M) (kk : J g M QQ (pc + 1) lv' st z h k n) : J g M QQ pc lv (.ref x :: st) z h k n :=
  fun p e s m args below meth c H locs ls hS hR hF hl => lv_astore_n hS.1 hS.2.1 d hi hl hn rfl (fun ls hl => kk p e s m args below meth c H locs ls hS hR hF (jst_has hv hl))
theorem J_astore {i : Nat} {x : Nat} {lv' : List (Option Value)} (d : decode (mC M) pc = .ok (.astore i, 2)) (hv : jst i (.ref x) lv = some lv') (hn : i < mL M) (kk : J g M QQ (pc + 2) lv' st z h k n) : J g M QQ pc lv (.ref x :: st) z h k n :=
  fun p e s m args below meth c H locs ls hS hR hF hl => lv_astore hS.1 hS.2.1 d hl hn rfl (fun ls hl => kk p e s m args below meth c H locs ls hS hR hF (jst_has hv hl))
theorem J_astore_nq {k0 : Fin 4} {i : Nat} {r : Option Nat} {lv' : List (Option Value)} (d : decode (mC M) pc = .ok (.astore_n k0, 1)) (hi : (k0 : Nat) = i) (hv : jst i (va_rf r) lv = some lv') (hn : i < mL M) (kk : J g M QQ (pc + 1) lv' st z h k n) : J g M QQ pc lv (va_rf r :: st) z h k n := by
  cases r with
  | none => exact fun p e s m args below meth c H locs ls hS hR hF hl => lv_astore_nN hS.1 hS.2.1 d hi hl hn rfl (fun ls hl => kk p e s m args below meth c H locs ls hS hR hF (jst_has hv hl))
  | some x => exact fun p e s m args below meth c H locs ls hS hR hF hl => lv_astore_n hS.1 hS.2.1 d hi hl hn rfl (fun ls hl => kk p e s m args below meth c H locs ls hS hR hF (jst_has hv hl))
theorem jst2_has {ls : Array Slot} {nL k : Nat} {v : Value} {lv lv1 lv' : List (Option Value)} (hs : jst k v lv = some lv1) (he : lv' = lv1.set (k + 1) none) (hl : lv_has ls nL ((k, v) :: (jA 0 lv).filter (fun q => !(q.1 == k) && (!(q.1 == k + 1) && !(q.1 + 1 == k && q.2.category == 2))))) : lv_has ls nL (jA 0 lv') := by
  refine ⟨hl.1, hl.2.1, fun q hq => ?_⟩
  obtain ⟨-, h2⟩ := jA_of lv' 0 q hq
  subst he
  rw [Nat.sub_zero] at h2
  by_cases hk : q.1 = k + 1
  · rw [hk] at h2
    rw [List.getElem?_set] at h2
    split at h2
    · split at h2 <;> cases h2
    · exact absurd rfl ‹_›
  · rw [List.getElem?_set_ne (fun e => hk e.symm)] at h2
    rcases (jst_at k v lv lv1 hs).2 _ _ h2 with ⟨x1, x2⟩ | ⟨x1, x2, x3⟩
    · have : q = (k, v) := Prod.ext x1 x2
      rw [this]
      exact hl.2.2 _ List.mem_cons_self
    · refine hl.2.2 q (List.mem_cons_of_mem _ (List.mem_filter.mpr ⟨?_, ?_⟩))
      · have := jA_mem lv 0 q.1 q.2 x2
        rwa [Nat.zero_add] at this
      · simp only [Bool.and_eq_true, Bool.not_eq_true', beq_eq_false_iff_ne, ne_eq, Bool.and_eq_false_iff]
        refine ⟨x1, hk, ?_⟩
        by_cases y : q.1 + 1 = k
        · exact Or.inr (fun c => x3 ⟨y, c⟩)
        · exact Or.inl y
theorem J_lstore_n {k0 : Fin 4} {i : Nat} {x : Int64} {lv1 lv' : List (Option Value)} (d : decode (mC M) pc = .ok (.lstore_n k0, 1)) (hi : (k0 : Nat) = i) (hv : jst i (.long x) lv = some lv1) (he : lv' = lv1.set (i + 1) none) (hn : i + 1 < mL M) (kk : J g M QQ (pc + 1) lv' st z h k n) : J g M QQ pc lv (.long x :: st) z h k n :=
  fun p e s m args below meth c H locs ls hS hR hF hl => lv_lstore_n hS.1 hS.2.1 d hi hl hn rfl (fun ls hl => kk p e s m args below meth c H locs ls hS hR hF (jst2_has hv he hl))
theorem J_iinc {i : Nat} {m0 : Int} {x v : Int32} {lv' : List (Option Value)} (d : decode (mC M) pc = .ok (.iinc i m0, 3)) (hx : lv[i]? = some (some (.int x))) (hv : x + Int32.ofInt m0 = v) (hs : jst i (.int v) lv = some lv') (hn : i < mL M) (kk : J g M QQ (pc + 3) lv' st z h k n) : J g M QQ pc lv st z h k n := by
  intro p e s m args below meth c H locs ls hS hR hF hl
  have hm := jA_mem lv 0 i _ hx
  rw [Nat.zero_add] at hm
  obtain ⟨q, hq⟩ := List.getElem?_of_mem hm
  exact lv_iinc hS.1 hS.2.1 d hl hq hv hn rfl (fun ls hl => kk p e s m args below meth c H locs ls hS hR hF (jst_has hs hl))
theorem J_iadd {x y : Int32} (d : decode (mC M) pc = .ok (.iadd, 1)) (kk : J g M QQ (pc + 1) lv (.int (x + y) :: st) z h k n) : J g M QQ pc lv (.int y :: .int x :: st) z h k n :=
  fun p e s m args below meth c H locs ls hS hR hF hl => lv_iadd hS.1 hS.2.1 d (kk p e s m args below meth c H locs ls hS hR hF hl)
theorem J_isub {x y : Int32} (d : decode (mC M) pc = .ok (.isub, 1)) (kk : J g M QQ (pc + 1) lv (.int (x - y) :: st) z h k n) : J g M QQ pc lv (.int y :: .int x :: st) z h k n :=
  fun p e s m args below meth c H locs ls hS hR hF hl => lv_isub hS.1 hS.2.1 d (kk p e s m args below meth c H locs ls hS hR hF hl)
theorem J_imul {x y : Int32} (d : decode (mC M) pc = .ok (.imul, 1)) (kk : J g M QQ (pc + 1) lv (.int (x * y) :: st) z h k n) : J g M QQ pc lv (.int y :: .int x :: st) z h k n :=
  fun p e s m args below meth c H locs ls hS hR hF hl => lv_imul hS.1 hS.2.1 d (kk p e s m args below meth c H locs ls hS hR hF hl)
theorem J_iand {x y : Int32} (d : decode (mC M) pc = .ok (.iand, 1)) (kk : J g M QQ (pc + 1) lv (.int (x &&& y) :: st) z h k n) : J g M QQ pc lv (.int y :: .int x :: st) z h k n :=
  fun p e s m args below meth c H locs ls hS hR hF hl => lv_iand hS.1 hS.2.1 d (kk p e s m args below meth c H locs ls hS hR hF hl)
theorem J_ior {x y : Int32} (d : decode (mC M) pc = .ok (.ior, 1)) (kk : J g M QQ (pc + 1) lv (.int (x ||| y) :: st) z h k n) : J g M QQ pc lv (.int y :: .int x :: st) z h k n :=
  fun p e s m args below meth c H locs ls hS hR hF hl => lv_ior hS.1 hS.2.1 d (kk p e s m args below meth c H locs ls hS hR hF hl)
theorem J_ixor {x y : Int32} (d : decode (mC M) pc = .ok (.ixor, 1)) (kk : J g M QQ (pc + 1) lv (.int (x ^^^ y) :: st) z h k n) : J g M QQ pc lv (.int y :: .int x :: st) z h k n :=
  fun p e s m args below meth c H locs ls hS hR hF hl => lv_ixor hS.1 hS.2.1 d (kk p e s m args below meth c H locs ls hS hR hF hl)
theorem J_ishl {x y : Int32} (d : decode (mC M) pc = .ok (.ishl, 1)) (kk : J g M QQ (pc + 1) lv (.int (x <<< (y &&& 31)) :: st) z h k n) : J g M QQ pc lv (.int y :: .int x :: st) z h k n :=
  fun p e s m args below meth c H locs ls hS hR hF hl => lv_ishl hS.1 hS.2.1 d (kk p e s m args below meth c H locs ls hS hR hF hl)
theorem J_ishr {x y : Int32} (d : decode (mC M) pc = .ok (.ishr, 1)) (kk : J g M QQ (pc + 1) lv (.int (x >>> (y &&& 31)) :: st) z h k n) : J g M QQ pc lv (.int y :: .int x :: st) z h k n :=
  fun p e s m args below meth c H locs ls hS hR hF hl => lv_ishr hS.1 hS.2.1 d (kk p e s m args below meth c H locs ls hS hR hF hl)
theorem J_ladd {x y : Int64} (d : decode (mC M) pc = .ok (.ladd, 1)) (kk : J g M QQ (pc + 1) lv (.long (x + y) :: st) z h k n) : J g M QQ pc lv (.long y :: .long x :: st) z h k n :=
  fun p e s m args below meth c H locs ls hS hR hF hl => lv_ladd hS.1 hS.2.1 d (kk p e s m args below meth c H locs ls hS hR hF hl)
theorem J_lmul {x y : Int64} (d : decode (mC M) pc = .ok (.lmul, 1)) (kk : J g M QQ (pc + 1) lv (.long (x * y) :: st) z h k n) : J g M QQ pc lv (.long y :: .long x :: st) z h k n :=
  fun p e s m args below meth c H locs ls hS hR hF hl => lv_lmul hS.1 hS.2.1 d (kk p e s m args below meth c H locs ls hS hR hF hl)
theorem J_lor {x y : Int64} (d : decode (mC M) pc = .ok (.lor, 1)) (kk : J g M QQ (pc + 1) lv (.long (x ||| y) :: st) z h k n) : J g M QQ pc lv (.long y :: .long x :: st) z h k n :=
  fun p e s m args below meth c H locs ls hS hR hF hl => lv_lor hS.1 hS.2.1 d (kk p e s m args below meth c H locs ls hS hR hF hl)
theorem J_irem {x y : Int32} (d : decode (mC M) pc = .ok (.irem, 1)) (hne : ¬ y = 0) (kk : J g M QQ (pc + 1) lv (.int (x - x / y * y) :: st) z h k n) : J g M QQ pc lv (.int y :: .int x :: st) z h k n :=
  fun p e s m args below meth c H locs ls hS hR hF hl => lv_irem hS.1 hS.2.1 d hne (kk p e s m args below meth c H locs ls hS hR hF hl)
theorem J_iushr {x y : Int32} (d : decode (mC M) pc = .ok (.iushr, 1)) (kk : J g M QQ (pc + 1) lv (.int (x.toUInt32 >>> (y.toUInt32 &&& Int32.toUInt32 31)).toInt32 :: st) z h k n) : J g M QQ pc lv (.int y :: .int x :: st) z h k n :=
  fun p e s m args below meth c H locs ls hS hR hF hl => lv_iushr hS.1 hS.2.1 d rfl (kk p e s m args below meth c H locs ls hS hR hF hl)
theorem J_i2l {x : Int32} (d : decode (mC M) pc = .ok (.i2l, 1)) (kk : J g M QQ (pc + 1) lv (.long x.toInt64 :: st) z h k n) : J g M QQ pc lv (.int x :: st) z h k n :=
  fun p e s m args below meth c H locs ls hS hR hF hl => lv_i2l hS.1 hS.2.1 d rfl (kk p e s m args below meth c H locs ls hS hR hF hl)
theorem J_l2i {x : Int64} (d : decode (mC M) pc = .ok (.l2i, 1)) (kk : J g M QQ (pc + 1) lv (.int x.toInt32 :: st) z h k n) : J g M QQ pc lv (.long x :: st) z h k n :=
  fun p e s m args below meth c H locs ls hS hR hF hl => lv_l2i hS.1 hS.2.1 d rfl (kk p e s m args below meth c H locs ls hS hR hF hl)
theorem J_i2b {x : Int32} (d : decode (mC M) pc = .ok (.i2b, 1)) (kk : J g M QQ (pc + 1) lv (.int x.toInt8.toInt32 :: st) z h k n) : J g M QQ pc lv (.int x :: st) z h k n :=
  fun p e s m args below meth c H locs ls hS hR hF hl => lv_i2b hS.1 hS.2.1 d rfl (kk p e s m args below meth c H locs ls hS hR hF hl)
theorem J_i2c {x : Int32} (d : decode (mC M) pc = .ok (.i2c, 1)) (kk : J g M QQ (pc + 1) lv (.int (x.toUInt32 % 65536).toInt32 :: st) z h k n) : J g M QQ pc lv (.int x :: st) z h k n :=
  fun p e s m args below meth c H locs ls hS hR hF hl => lv_i2c hS.1 hS.2.1 d rfl (kk p e s m args below meth c H locs ls hS hR hF hl)
theorem J_lushr {x : Int64} {y : Int32} (d : decode (mC M) pc = .ok (.lushr, 1)) (kk : J g M QQ (pc + 1) lv (.long (x.toUInt64 >>> (y.toInt64.toUInt64 &&& Int64.toUInt64 63)).toInt64 :: st) z h k n) : J g M QQ pc lv (.int y :: .long x :: st) z h k n :=
  fun p e s m args below meth c H locs ls hS hR hF hl => lv_lushr hS.1 hS.2.1 d rfl (kk p e s m args below meth c H locs ls hS hR hF hl)
theorem J_lshl {x : Int64} {y : Int32} (d : decode (mC M) pc = .ok (.lshl, 1)) (kk : J g M QQ (pc + 1) lv (.long (x <<< (y.toInt64 &&& 63)) :: st) z h k n) : J g M QQ pc lv (.int y :: .long x :: st) z h k n :=
  fun p e s m args below meth c H locs ls hS hR hF hl => lv_lshl hS.1 hS.2.1 d rfl (kk p e s m args below meth c H locs ls hS hR hF hl)
theorem J_lcmp {x y : Int64} (d : decode (mC M) pc = .ok (.lcmp, 1)) (kk : J g M QQ (pc + 1) lv (.int (lg_cmp x y) :: st) z h k n) : J g M QQ pc lv (.long y :: .long x :: st) z h k n :=
  fun p e s m args below meth c H locs ls hS hR hF hl => W.lcmp hS.1 hS.2.1 d (kk p e s m args below meth c H locs ls hS hR hF hl)
theorem J_dup {v : Value} (d : decode (mC M) pc = .ok (.dup, 1)) (hv : v.category = 1) (kk : J g M QQ (pc + 1) lv (v :: v :: st) z h k n) : J g M QQ pc lv (v :: st) z h k n :=
  fun p e s m args below meth c H locs ls hS hR hF hl => lv_dup hS.1 hS.2.1 d hv (kk p e s m args below meth c H locs ls hS hR hF hl)
theorem J_pop {v : Value} (d : decode (mC M) pc = .ok (.pop, 1)) (hv : v.category = 1) (kk : J g M QQ (pc + 1) lv (st) z h k n) : J g M QQ pc lv (v :: st) z h k n :=
  fun p e s m args below meth c H locs ls hS hR hF hl => lv_pop hS.1 hS.2.1 d hv (kk p e s m args below meth c H locs ls hS hR hF hl)
theorem J_dup2 {v w : Value} (d : decode (mC M) pc = .ok (.dup2, 1)) (hv : v.category = 1) (hw : w.category = 1) (kk : J g M QQ (pc + 1) lv (v :: w :: v :: w :: st) z h k n) : J g M QQ pc lv (v :: w :: st) z h k n :=
  fun p e s m args below meth c H locs ls hS hR hF hl => lv_dup2_11 hS.1 hS.2.1 d hv hw (kk p e s m args below meth c H locs ls hS hR hF hl)
theorem J_if_eq {x : Int32} {off : Int} {tgt : Nat} (d : decode (mC M) pc = .ok (.ifCond .eq off, 3)) (ht : (pc : Int) + off = (tgt : Int)) (kt : x = 0 → J g M QQ tgt lv st z h k n) (kf : ¬ x = 0 → J g M QQ (pc + 3) lv st z h k n) : J g M QQ pc lv (.int x :: st) z h k n :=
  fun p e s m args below meth c H locs ls hS hR hF hl => lv_if_eq hS.1 hS.2.1 d ht (fun q => kt q p e s m args below meth c H locs ls hS hR hF hl) (fun q => kf q p e s m args below meth c H locs ls hS hR hF hl)
theorem J_icmp_eq {x y : Int32} {off : Int} {tgt : Nat} (d : decode (mC M) pc = .ok (.if_icmp .eq off, 3)) (ht : (pc : Int) + off = (tgt : Int)) (kt : x = y → J g M QQ tgt lv st z h k n) (kf : ¬ x = y → J g M QQ (pc + 3) lv st z h k n) : J g M QQ pc lv (.int y :: .int x :: st) z h k n :=
  fun p e s m args below meth c H locs ls hS hR hF hl => lv_icmp_eq hS.1 hS.2.1 d ht (fun q => kt q p e s m args below meth c H locs ls hS hR hF hl) (fun q => kf q p e s m args below meth c H locs ls hS hR hF hl)
theorem J_if_ne {x : Int32} {off : Int} {tgt : Nat} (d : decode (mC M) pc = .ok (.ifCond .ne off, 3)) (ht : (pc : Int) + off = (tgt : Int)) (kt : ¬ x = 0 → J g M QQ tgt lv st z h k n) (kf : x = 0 → J g M QQ (pc + 3) lv st z h k n) : J g M QQ pc lv (.int x :: st) z h k n :=
  fun p e s m args below meth c H locs ls hS hR hF hl => lv_if_ne hS.1 hS.2.1 d ht (fun q => kt q p e s m args below meth c H locs ls hS hR hF hl) (fun q => kf q p e s m args below meth c H locs ls hS hR hF hl)
theorem J_icmp_ne {x y : Int32} {off : Int} {tgt : Nat} (d : decode (mC M) pc = .ok (.if_icmp .ne off, 3)) (ht : (pc : Int) + off = (tgt : Int)) (kt : ¬ x = y → J g M QQ tgt lv st z h k n) (kf : x = y → J g M QQ (pc + 3) lv st z h k n) : J g M QQ pc lv (.int y :: .int x :: st) z h k n :=
  fun p e s m args below meth c H locs ls hS hR hF hl => lv_icmp_ne hS.1 hS.2.1 d ht (fun q => kt q p e s m args below meth c H locs ls hS hR hF hl) (fun q => kf q p e s m args below meth c H locs ls hS hR hF hl)
theorem J_if_lt {x : Int32} {off : Int} {tgt : Nat} (d : decode (mC M) pc = .ok (.ifCond .lt off, 3)) (ht : (pc : Int) + off = (tgt : Int)) (kt : x < 0 → J g M QQ tgt lv st z h k n) (kf : ¬ x < 0 → J g M QQ (pc + 3) lv st z h k n) : J g M QQ pc lv (.int x :: st) z h k n :=
  fun p e s m args below meth c H locs ls hS hR hF hl => lv_if_lt hS.1 hS.2.1 d ht (fun q => kt q p e s m args below meth c H locs ls hS hR hF hl) (fun q => kf q p e s m args below meth c H locs ls hS hR hF hl)
theorem J_icmp_lt {x y : Int32} {off : Int} {tgt : Nat} (d : decode (mC M) pc = .ok (.if_icmp .lt off, 3)) (ht : (pc : Int) + off = (tgt : Int)) (kt : x < y → J g M QQ tgt lv st z h k n) (kf : ¬ x < y → J g M QQ (pc + 3) lv st z h k n) : J g M QQ pc lv (.int y :: .int x :: st) z h k n :=
  fun p e s m args below meth c H locs ls hS hR hF hl => lv_icmp_lt hS.1 hS.2.1 d ht (fun q => kt q p e s m args below meth c H locs ls hS hR hF hl) (fun q => kf q p e s m args below meth c H locs ls hS hR hF hl)
theorem J_if_ge {x : Int32} {off : Int} {tgt : Nat} (d : decode (mC M) pc = .ok (.ifCond .ge off, 3)) (ht : (pc : Int) + off = (tgt : Int)) (kt : 0 ≤ x → J g M QQ tgt lv st z h k n) (kf : ¬ 0 ≤ x → J g M QQ (pc + 3) lv st z h k n) : J g M QQ pc lv (.int x :: st) z h k n :=
  fun p e s m args below meth c H locs ls hS hR hF hl => lv_if_ge hS.1 hS.2.1 d ht (fun q => kt q p e s m args below meth c H locs ls hS hR hF hl) (fun q => kf q p e s m args below meth c H locs ls hS hR hF hl)
theorem J_icmp_ge {x y : Int32} {off : Int} {tgt : Nat} (d : decode (mC M) pc = .ok (.if_icmp .ge off, 3)) (ht : (pc : Int) + off = (tgt : Int)) (kt : y ≤ x → J g M QQ tgt lv st z h k n) (kf : ¬ y ≤ x → J g M QQ (pc + 3) lv st z h k n) : J g M QQ pc lv (.int y :: .int x :: st) z h k n :=
  fun p e s m args below meth c H locs ls hS hR hF hl => lv_icmp_ge hS.1 hS.2.1 d ht (fun q => kt q p e s m args below meth c H locs ls hS hR hF hl) (fun q => kf q p e s m args below meth c H locs ls hS hR hF hl)
theorem J_if_gt {x : Int32} {off : Int} {tgt : Nat} (d : decode (mC M) pc = .ok (.ifCond .gt off, 3)) (ht : (pc : Int) + off = (tgt : Int)) (kt : 0 < x → J g M QQ tgt lv st z h k n) (kf : ¬ 0 < x → J g M QQ (pc + 3) lv st z h k n) : J g M QQ pc lv (.int x :: st) z h k n :=
  fun p e s m args below meth c H locs ls hS hR hF hl => lv_if_gt hS.1 hS.2.1 d ht (fun q => kt q p e s m args below meth c H locs ls hS hR hF hl) (fun q => kf q p e s m args below meth c H locs ls hS hR hF hl)
theorem J_icmp_gt {x y : Int32} {off : Int} {tgt : Nat} (d : decode (mC M) pc = .ok (.if_icmp .gt off, 3)) (ht : (pc : Int) + off = (tgt : Int)) (kt : y < x → J g M QQ tgt lv st z h k n) (kf : ¬ y < x → J g M QQ (pc + 3) lv st z h k n) : J g M QQ pc lv (.int y :: .int x :: st) z h k n :=
  fun p e s m args below meth c H locs ls hS hR hF hl => lv_icmp_gt hS.1 hS.2.1 d ht (fun q => kt q p e s m args below meth c H locs ls hS hR hF hl) (fun q => kf q p e s m args below meth c H locs ls hS hR hF hl)
theorem J_if_le {x : Int32} {off : Int} {tgt : Nat} (d : decode (mC M) pc = .ok (.ifCond .le off, 3)) (ht : (pc : Int) + off = (tgt : Int)) (kt : x ≤ 0 → J g M QQ tgt lv st z h k n) (kf : ¬ x ≤ 0 → J g M QQ (pc + 3) lv st z h k n) : J g M QQ pc lv (.int x :: st) z h k n :=
  fun p e s m args below meth c H locs ls hS hR hF hl => lv_if_le hS.1 hS.2.1 d ht (fun q => kt q p e s m args below meth c H locs ls hS hR hF hl) (fun q => kf q p e s m args below meth c H locs ls hS hR hF hl)
theorem J_icmp_le {x y : Int32} {off : Int} {tgt : Nat} (d : decode (mC M) pc = .ok (.if_icmp .le off, 3)) (ht : (pc : Int) + off = (tgt : Int)) (kt : x ≤ y → J g M QQ tgt lv st z h k n) (kf : ¬ x ≤ y → J g M QQ (pc + 3) lv st z h k n) : J g M QQ pc lv (.int y :: .int x :: st) z h k n :=
  fun p e s m args below meth c H locs ls hS hR hF hl => lv_icmp_le hS.1 hS.2.1 d ht (fun q => kt q p e s m args below meth c H locs ls hS hR hF hl) (fun q => kf q p e s m args below meth c H locs ls hS hR hF hl)
theorem J_goto {off : Int} {tgt : Nat} (d : decode (mC M) pc = .ok (.goto off, 3)) (ht : (pc : Int) + off = (tgt : Int)) (kk : J g M QQ tgt lv st z h k n) : J g M QQ pc lv st z h k n :=
  fun p e s m args below meth c H locs ls hS hR hF hl => lv_goto hS.1 hS.2.1 d ht (kk p e s m args below meth c H locs ls hS hR hF hl)
theorem J_tableIn {dflt lo hi : Int} {offs : Array Int} {len : Nat} {x : Int32} {off : Int} {tgt : Nat} (d : decode (mC M) pc = .ok (.tableswitch dflt lo hi offs, len)) (h1 : ¬ x.toInt < lo) (h2 : ¬ hi < x.toInt) (ho : offs[(x.toInt - lo).toNat]? = some off) (ht : (pc : Int) + off = (tgt : Int)) (kk : J g M QQ tgt lv st z h k n) : J g M QQ pc lv (.int x :: st) z h k n :=
  fun p e s m args below meth c H locs ls hS hR hF hl => lv_tableIn hS.1 hS.2.1 d h1 h2 ho ht (kk p e s m args below meth c H locs ls hS hR hF hl)
theorem J_tableOut {dflt lo hi : Int} {offs : Array Int} {len : Nat} {x : Int32} {tgt : Nat} (d : decode (mC M) pc = .ok (.tableswitch dflt lo hi offs, len)) (h1 : x.toInt < lo ∨ hi < x.toInt) (ht : (pc : Int) + dflt = (tgt : Int)) (kk : J g M QQ tgt lv st z h k n) : J g M QQ pc lv (.int x :: st) z h k n :=
  fun p e s m args below meth c H locs ls hS hR hF hl => lv_tableOut hS.1 hS.2.1 d h1 ht (kk p e s m args below meth c H locs ls hS hR hF hl)
theorem J_lookup {dflt : Int} {ps : Array (Int × Int)} {len : Nat} {x : Int32} {off : Int} {tgt : Nat} (d : decode (mC M) pc = .ok (.lookupswitch dflt ps, len)) (hp : (ps.toList.zip (ps.toList.drop 1)).all (fun (a, next) => a.1 < next.1) = true) (ho : Op.lookupswitch.offset ps.toList dflt x.toInt = off) (ht : (pc : Int) + off = (tgt : Int)) (kk : J g M QQ tgt lv st z h k n) : J g M QQ pc lv (.int x :: st) z h k n :=
  fun p e s m args below meth c H locs ls hS hR hF hl => lv_lookup hS.1 hS.2.1 d hp ho ht (kk p e s m args below meth c H locs ls hS hR hF hl)
theorem J_ifnull {r : Option Nat} {off : Int} {tgt : Nat} (d : decode (mC M) pc = .ok (.ifnull off, 3)) (ht : (pc : Int) + off = (tgt : Int)) (kt : r = none → J g M QQ tgt lv st z h k n) (kf : ∀ a, r = some a → J g M QQ (pc + 3) lv st z h k n) : J g M QQ pc lv (va_rf r :: st) z h k n := by
  cases r with
  | none => exact fun p e s m args below meth c H locs ls hS hR hF hl => lv_ifnullN hS.1 hS.2.1 d ht (kt rfl p e s m args below meth c H locs ls hS hR hF hl)
  | some x => exact fun p e s m args below meth c H locs ls hS hR hF hl => lv_ifnull hS.1 hS.2.1 d (kf x rfl p e s m args below meth c H locs ls hS hR hF hl)
theorem J_ifnonnull {r : Option Nat} {off : Int} {tgt : Nat} (d : decode (mC M) pc = .ok (.ifnonnull off, 3)) (ht : (pc : Int) + off = (tgt : Int)) (kt : r = none → J g M QQ (pc + 3) lv st z h k n) (kf : ∀ a, r = some a → J g M QQ tgt lv st z h k n) : J g M QQ pc lv (va_rf r :: st) z h k n := by
  cases r with
  | none => exact fun p e s m args below meth c H locs ls hS hR hF hl => lv_ifnonnullN hS.1 hS.2.1 d (kt rfl p e s m args below meth c H locs ls hS hR hF hl)
  | some x => exact fun p e s m args below meth c H locs ls hS hR hF hl => lv_ifnonnull hS.1 hS.2.1 d ht (kf x rfl p e s m args below meth c H locs ls hS hR hF hl)
theorem J_ldc {idx : Nat} {v : Int32} (d : decode (mC M) pc = .ok (.ldc idx, 2)) (hw : Cond.constant (mO M) idx v ∈ gtbl) (kk : J g M QQ (pc + 2) lv (.int v :: st) z h k n) : J g M QQ pc lv st z h k n := by
  intro p e s m args below meth c H locs ls hS hR hF hl
  obtain ⟨hx, hb, hml, hr, hown, hlk, hname, htb, hts, hK, hX, hB⟩ := id hS
  exact lv_ldc hx hb hown (hts _ hw) d (kk p e s m args below meth c H locs ls hS hR hF hl)
theorem J_ldcw {idx : Nat} {v : Int32} (d : decode (mC M) pc = .ok (.ldc_w idx, 3)) (hw : Cond.constant (mO M) idx v ∈ gtbl) (kk : J g M QQ (pc + 3) lv (.int v :: st) z h k n) : J g M QQ pc lv st z h k n := by
  intro p e s m args below meth c H locs ls hS hR hF hl
  obtain ⟨hx, hb, hml, hr, hown, hlk, hname, htb, hts, hK, hX, hB⟩ := id hS
  exact lv_ldcw hx hb hown (hts _ hw) d (kk p e s m args below meth c H locs ls hS hR hF hl)
theorem J_ldc2 {idx : Nat} {v : Int64} (d : decode (mC M) pc = .ok (.ldc2_w idx, 3)) (hw : Cond.constantLong (mO M) idx v ∈ gtbl) (kk : J g M QQ (pc + 3) lv (.long v :: st) z h k n) : J g M QQ pc lv st z h k n := by
  intro p e s m args below meth c H locs ls hS hR hF hl
  obtain ⟨hx, hb, hml, hr, hown, hlk, hname, htb, hts, hK, hX, hB⟩ := id hS
  exact lv_ldc2 hx hb hown (hts _ hw) d (kk p e s m args below meth c H locs ls hS hR hF hl)
theorem J_objInit {idx a : Nat} (d : decode (mC M) pc = .ok (.invokespecial idx, 3)) (hw : Cond.methodLink (mO M) idx Lib.objectInit ∈ gtbl) (hw2 : Cond.instanceMethod Lib.objectInit ∈ gtbl) (hw3 : Cond.code Lib.objectInit ⟨#[0xb1]⟩ 1 none ∈ gtbl) (hfr : 1 ≤ (mR M).frames) (hlo : (st.map fun v => v.category).sum + 12 ≤ (mR M).locals) (kk : J g M QQ (pc + 3) lv st z h k n) : J g M QQ pc lv (.ref a :: st) z h k n := by
  intro p e s m args below meth c H locs ls hS hR hF hl
  obtain ⟨hx, hb, hml, hr, hown, hlk, hname, htb, hts, hK, hX, hB⟩ := id hS
  refine W.objInit hx hb hown (hts _ hw) (hts _ hw2) (hts _ hw3) (g := F0 m pc ls (.ref a :: st)) rfl (hl.1.trans hml.symm) rfl d hfr (by show 2 * 0 + _ + 12 ≤ _; omega) ?_
  exact kk p e s m args below meth c H locs ls hS hR hF hl
end JS1
