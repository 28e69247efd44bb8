/-! THE J JUDGEMENT: a walk of a method over an abstract heap, all of the machine's context hidden -/
abbrev AH : Type := (Nat → Nat × Nat) × (Nat → Nat → Int32) × (Nat → Nat → Int64) × (Nat → Nat → Option Nat)
abbrev kd (h : AH) (a : Nat) : Nat := (h.1 a).1
abbrev ln (h : AH) (a : Nat) : Nat := (h.1 a).2
abbrev iv (h : AH) : Nat → Nat → Int32 := h.2.1
abbrev jv (h : AH) : Nat → Nat → Int64 := h.2.2.1
abbrev rv (h : AH) : Nat → Nat → Option Nat := h.2.2.2
/-- a row's place -/
def u2 {α : Type} (f : Nat → Nat → α) (a k : Nat) (x : α) : Nat → Nat → α := fun b => if b = a then (fun j => if j = k then x else f b j) else f b
/-- a whole row -/
def u1 {α : Type} (f : Nat → α) (a : Nat) (r : α) : Nat → α := fun b => if b = a then r else f b
def wI (h : AH) (a k : Nat) (x : Int32) : AH := (h.1, u2 h.2.1 a k x, h.2.2.1, h.2.2.2)
def wJ (h : AH) (a k : Nat) (x : Int64) : AH := (h.1, h.2.1, u2 h.2.2.1 a k x, h.2.2.2)
def wR (h : AH) (a k : Nat) (x : Option Nat) : AH := (h.1, h.2.1, h.2.2.1, u2 h.2.2.2 a k x)
def wRowI (h : AH) (a : Nat) (r : Nat → Int32) : AH := (h.1, u1 h.2.1 a r, h.2.2.1, h.2.2.2)
def wRowJ (h : AH) (a : Nat) (r : Nat → Int64) : AH := (h.1, h.2.1, u1 h.2.2.1 a r, h.2.2.2)
/-- a new cell: everything in it 0, null -/
def wNew (h : AH) (a kk n : Nat) : AH := (u1 h.1 a (kk, n), u1 h.2.1 a (fun _ => 0), u1 h.2.2.1 a (fun _ => 0), u1 h.2.2.2 a (fun _ => none))
/-- an object's fields, by its class's number, out of its three rows -/
def jO (i : Nat → Int32) (j : Nat → Int64) (r : Nat → Option Nat) : Nat → List Value
  | 0 => [va_rf (r 0), va_rf (r 1), va_rf (r 2), va_rf (r 3), va_rf (r 4), va_rf (r 5), va_rf (r 6), va_rf (r 7), .int (i 8), .int (i 9), .int (i 10), .int (i 11), .int (i 12), .int (i 13)]
  | 1 => [va_rf (r 0), va_rf (r 1), va_rf (r 2)]
  | 2 => [va_rf (r 0), va_rf (r 1), va_rf (r 2), .int (i 3)]
  | 3 => [va_rf (r 0), .int (i 1)]
  | 4 => [va_rf (r 0), va_rf (r 1), va_rf (r 2), va_rf (r 3), .int (i 4), .int (i 5)]
  | 5 => [va_rf (r 0), .int (i 1)]
  | 6 => [va_rf (r 0), .int (i 1), .int (i 2), .int (i 3)]
  | 7 => [va_rf (r 0), va_rf (r 1), .int (i 2), va_rf (r 3)]
  | 8 => [va_rf (r 0), va_rf (r 1), va_rf (r 2), va_rf (r 3), va_rf (r 4), va_rf (r 5), va_rf (r 6)]
  | _ => [va_rf (r 0), va_rf (r 1), .int (i 2), va_rf (r 3), va_rf (r 4), .int (i 5), .int (i 6), .int (i 7), .int (i 8), .int (i 9), va_rf (r 10), va_rf (r 11), .int (i 12), va_rf (r 13), va_rf (r 14), va_rf (r 15), .int (i 16), .int (i 17), .int (i 18), .long (j 19)]
/-- a cell by its kind: 1..10 an object of class kind - 1; 11 bytes, 12 chars, 13 ints, 14 longs, 15 Books -/
def jcr (ca : Nat → ClassId) (kl : Nat × Nat) (i : Nat → Int32) (j : Nat → Int64) (r : Nat → Option Nat) : va_E :=
  if kl.1 = 11 then .inl (ca 0, kl.2, .inl i)
  else if kl.1 = 12 then .inl (ca 1, kl.2, .inl i)
  else if kl.1 = 13 then .inl (ca 2, kl.2, .inl i)
  else if kl.1 = 14 then .inl (ca 3, kl.2, .inr (.inl j))
  else if kl.1 = 15 then .inl (ca 4, kl.2, .inr (.inr (.inr (.inr r))))
  else .inr (kl.1 - 1, jO i j r (kl.1 - 1))
abbrev jc (ca : Nat → ClassId) (h : AH) (a : Nat) : va_E := jcr ca (h.1 a) (h.2.1 a) (h.2.2.1 a) (h.2.2.2 a)
theorem jcr_o {ca : Nat → ClassId} {kl : Nat × Nat} {i : Nat → Int32} {j : Nat → Int64} {r : Nat → Option Nat} {ci : Nat} (hk : kl.1 = ci + 1) (hc : ci < 10) : jcr ca kl i j r = .inr (ci, jO i j r ci) := by
  unfold jcr
  rw [if_neg (by omega), if_neg (by omega), if_neg (by omega), if_neg (by omega), if_neg (by omega), hk]
  rfl
abbrev vwCl : List vw_C := [(RX0, TX0, 14), (RX1, TX1, 3), (RX2, TX2, 4), (RX3, TX3, 2), (RX4, TX4, 6), (RX5, TX5, 2), (RX6, TX6, 4), (RX7, TX7, 4), (RX8, TX8, 7), (RX9, TX9, 20)]
abbrev JG : Type := Launch × va_G × (Nat → ClassId) × Nat × (Nat → Nat) × Nat × Nat × (Nat → Int32)
abbrev jl (g : JG) : Launch := g.1
abbrev jD (g : JG) : va_G := g.2.1
abbrev jca (g : JG) : Nat → ClassId := g.2.2.1
abbrev jB (g : JG) : Nat := g.2.2.2.1
abbrev jsa (g : JG) : Nat → Nat := g.2.2.2.2.1
/-- the script: its cell, its length, its ints -/
abbrev jsb (g : JG) : Nat := g.2.2.2.2.2.1
abbrev jsl (g : JG) : Nat := g.2.2.2.2.2.2.1
abbrev jsx (g : JG) : Nat → Int32 := g.2.2.2.2.2.2.2
abbrev jT (g : JG) : List (ClassId × FieldType) := [(jca g 0, .byte), (jca g 1, .char), (jca g 2, .int), (jca g 3, .long), (jca g 4, .object RX0)]
def gtbl : List Cond := lw_tbl.filter goodWord
theorem tw {w : Cond} (i : Nat) (h : lw_tbl[i]? = some w) (hg : goodWord w = true) : w ∈ gtbl := List.mem_filter.mpr ⟨List.mem_of_getElem? h, hg⟩
theorem gtbl_good : GoodIn gtbl gtbl := fun w h => ⟨h, good_of_word (List.mem_filter.mp h).2⟩
def jnest : Cond → Bool
  | .methodLinkNest _ _ _ _ => true
  | _ => false
/-- what stands below the program's own cells: words that aren't kept by themselves, the statics and texts of exceptions -/
def jX (g : JG) (U : State) : Prop :=
  (∀ w ∈ lw_tbl, jnest w = true → va_Nw w U) ∧ (∀ w ∈ lw_tbl, ((∃ a b, w = .castable a b) ∨ ∃ x, w = .declares x) → va_Nw w U) ∧
  vx_Zq Bundle.tN "UNASSIGNED_STACK" Bundle.steD (fun q => jB g ≤ q) U U.heap ∧ vx_Zq Bundle.tN "SUPPRESSED_SENTINEL" Bundle.listD (fun q => jB g ≤ q) U U.heap ∧
  (∀ (k : Nat) (tx : String), Cond.stringRef RX8 k tx ∈ lw_tbl → vk_R RX8 k tx (jsa g k) U) ∧
  va_AO RX0 U ∧
  (va_Nc "java/lang/IllegalStateException" "java/lang/IndexOutOfBoundsException" U ∧ va_Nc "java/lang/IllegalArgumentException" "java/lang/IndexOutOfBoundsException" U ∧ va_Nc "java/lang/IllegalStateException" "java/lang/IllegalArgumentException" U) ∧
  (va_X (jsb g) (jsl g) (jsx g) U U.heap ∧ jsb g < jB g ∧ jsb g < U.heap.size)
theorem jX.warm {g : JG} {s U : State} (hW : s.WarmedH U.vm) (hz : s.heap.size ≤ U.heap.size ∧ ∀ q : Nat, q < s.heap.size → ¬ jB g ≤ q → U.heap[q]? = s.heap[q]?) (h : jX g s) : jX g U := by
  obtain ⟨h1, h2, h3, h4, h5, hA, ⟨h6, h7, h8⟩, hx, hx1, hx2⟩ := h
  refine ⟨fun w hw hn => ?_, fun w hw hn => ?_, vx_Zq.moved hW.alike (vx_Zq.kept h3 hz.2), vx_Zq.moved hW.alike (vx_Zq.kept h4 hz.2), fun k tx hk => vk_R.warm hW (h5 k tx hk), va_AO.moved hW.alike hA, ⟨va_Nc.moved hW.alike h6, va_Nc.moved hW.alike h7, va_Nc.moved hW.alike h8⟩, va_X.moved hW.alike (hx.kept (hz.2 _ hx2 (by omega))), hx1, Nat.lt_of_lt_of_le hx2 hz.1⟩
  · have h9 := h1 w hw hn
    cases w with
    | methodLinkNest a b c d => exact va_Nw.warmM hW h9
    | _ => cases hn
  · have h9 := h2 w hw hn
    rcases hn with ⟨a, b, rfl⟩ | ⟨x, rfl⟩
    · exact va_Nw.warmC hW h9
    · exact va_Nw.warmD hW h9
def jR (g : JG) (z : Nat) (h : AH) (H : Heap) : Prop := H.size = z ∧ jB g ≤ z ∧ ∀ a : Nat, kd h a ≠ 0 → jB g ≤ a ∧ va_at (jD g) vwCl (a, jc (jca g) h a) H
/-- own class, code, locals, return type, room, name, exception table -/
abbrev JM : Type := String × ByteArray × Nat × Option FieldType × Room × String × Option (List ExceptionTableEntry)
abbrev mO (M : JM) : String := M.1
abbrev mC (M : JM) : ByteArray := M.2.1
abbrev mL (M : JM) : Nat := M.2.2.1
abbrev mT (M : JM) : Option FieldType := M.2.2.2.1
abbrev mR (M : JM) : Room := M.2.2.2.2.1
abbrev mN (M : JM) : String := M.2.2.2.2.2.1
abbrev mX (M : JM) : Option (List ExceptionTableEntry) := M.2.2.2.2.2.2
def jS (g : JG) (M : JM) (p : Program) (s : State) (m : MethodId) (args : Array Value) (meth : Method) (c : Code) : Prop :=
  p.tables.exec = Jvm.exec ∧ c.code = mC M ∧ c.maxLocals = mL M ∧ meth.sig.returnType = mT M ∧ s.vm.findClass (mO M) = some m.cls ∧ meth.locks = false ∧ meth.name = mN M ∧ (∀ t, mX M = some t → c.exceptionTable.toList = t) ∧
  (∀ w ∈ gtbl, w.before args s = true) ∧ va_K (jD g) vwCl (jT g) s ∧ jX g s ∧ jB g ≤ s.heap.size
def jA : Nat → List (Option Value) → List (Nat × Value)
  | _, [] => []
  | i, none :: r => jA (i + 1) r
  | i, some v :: r => (i, v) :: jA (i + 1) r
abbrev JQ : Type := List Frame → Array Value → State → State → Prop
def J (g : JG) (M : JM) (QQ : JQ) (pc : Nat) (lv : List (Option Value)) (st : List Value) (z : Nat) (h : AH) (k n : Nat) : Prop :=
  ∀ (p : Program) (e : Env) (s : State) (m : MethodId) (args : Array Value) (below : List Frame) (meth : Method) (c : Code) (H : Heap) (locs : List Loc) (ls : Array Slot),
    jS g M p s m args meth c → jR g z h H → va_S (fun q => jB g ≤ q) s.heap H locs → lv_has ls (mL M) (jA 0 lv) →
    W p (jl g) e (mR M) s m args below meth c H locs k n (QQ below args s) (F0 m pc ls st)
theorem jA_mem : ∀ (lv : List (Option Value)) (i k : Nat) (v : Value), lv[k]? = some (some v) → (i + k, v) ∈ jA i lv
  | [], i, k, v, h => by simp at h
  | none :: r, i, 0, v, h => by simp at h
  | some w :: r, i, 0, v, h => by
    simp at h
    subst h
    exact List.mem_cons_self
  | none :: r, i, k + 1, v, h => by
    have := jA_mem r (i + 1) k v (by simpa using h)
    rw [show i + (k + 1) = i + 1 + k by omega]
    exact this
  | some w :: r, i, k + 1, v, h => by
    have := jA_mem r (i + 1) k v (by simpa using h)
    rw [show i + (k + 1) = i + 1 + k by omega]
    exact List.mem_cons_of_mem _ this
theorem jA_of : ∀ (lv : List (Option Value)) (i : Nat) (q : Nat × Value), q ∈ jA i lv → i ≤ q.1 ∧ lv[q.1 - i]? = some (some q.2)
  | [], i, q, h => by cases h
  | none :: r, i, q, h => by
    obtain ⟨h1, h2⟩ := jA_of r (i + 1) q h
    refine ⟨by omega, ?_⟩
    rw [show q.1 - i = (q.1 - (i + 1)) + 1 by omega]
    simpa using h2
  | some w :: r, i, q, h => by
    rcases List.mem_cons.mp h with rfl | h
    · simp
    · obtain ⟨h1, h2⟩ := jA_of r (i + 1) q h
      refine ⟨by omega, ?_⟩
      rw [show q.1 - i = (q.1 - (i + 1)) + 1 by omega]
      simpa using h2
theorem jA_at {ls : Array Slot} {nL : Nat} {lv : List (Option Value)} (hl : lv_has ls nL (jA 0 lv)) {k : Nat} {v : Value} (h : lv[k]? = some (some v)) : ls[k]? = some (.val v) := by
  have := jA_mem lv 0 k v h
  rw [Nat.zero_add] at this
  exact hl.2.2 (k, v) this
/-- fewer locals -/
def jsub : List (Option Value) → List (Option Value) → Prop
  | [], _ => True
  | none :: r, [] => jsub r []
  | none :: r, _ :: t => jsub r t
  | some _ :: _, [] => False
  | some v :: r, w :: t => w = some v ∧ jsub r t
theorem jsub_at : ∀ (a b : List (Option Value)), jsub a b → ∀ (k : Nat) (v : Value), a[k]? = some (some v) → b[k]? = some (some v)
  | [], b, _, k, v, h => by simp at h
  | none :: r, [], hs, 0, v, h => by simp at h
  | none :: r, [], hs, k + 1, v, h => by
    have := jsub_at r [] hs k v (by simpa using h)
    simp at this
  | none :: r, w :: t, hs, 0, v, h => by simp at h
  | none :: r, w :: t, hs, k + 1, v, h => by simpa using jsub_at r t hs k v (by simpa using h)
  | some x :: r, [], hs, k, v, h => by cases hs
  | some x :: r, w :: t, hs, 0, v, h => by
    simp at h
    subst h
    simp [hs.1]
  | some x :: r, w :: t, hs, k + 1, v, h => by simpa using jsub_at r t hs.2 k v (by simpa using h)
theorem jA_sub {ls : Array Slot} {nL : Nat} {a b : List (Option Value)} (hs : jsub a b) (hl : lv_has ls nL (jA 0 b)) : lv_has ls nL (jA 0 a) := by
  refine ⟨hl.1, hl.2.1, fun q hq => ?_⟩
  obtain ⟨-, h2⟩ := jA_of a 0 q hq
  exact jA_at hl (jsub_at a b hs _ _ (by simpa using h2))
section JR
variable {g : JG} {M : JM} {QQ : JQ} {pc z k n : Nat} {lv : List (Option Value)} {st : List Value} {h : AH}
theorem J.sub {lv' : List (Option Value)} (hs : jsub lv' lv) (kk : J g M QQ pc lv' st z h k n) : J g M QQ pc lv st z h k n :=
  fun p e s m args below meth c H locs ls hS hR hF hl => kk p e s m args below meth c H locs ls hS hR hF (jA_sub hs hl)
theorem J.widen {k' n' : Nat} (h1 : k ≤ k') (h2 : n ≤ n') (kk : J g M QQ pc lv st z h k' n') : J g M QQ pc lv st z h k n :=
  fun p e s m args below meth c H locs ls hS hR hF hl => W.widen h1 h2 (kk p e s m args below meth c H locs ls hS hR hF hl)
end JR
/-- storing into the locals: the place before it holds no long -/
def jNL : Option Value → Bool
  | some (.long _) => false
  | some (.double _) => false
  | _ => true
/-- lv with v at k; the place before k must hold no long -/
def jst : Nat → Value → List (Option Value) → Option (List (Option Value))
  | _, _, [] => none
  | 0, v, _ :: r => some (some v :: r)
  | 1, v, a :: _ :: r => if jNL a then some (a :: some v :: r) else none
  | 1, _, [_] => none
  | k + 2, v, a :: r => (jst (k + 1) v r).map (fun r => a :: r)
theorem jst_at : ∀ (k : Nat) (v : Value) (lv lv' : List (Option Value)), jst k v lv = some lv' → k < lv.length ∧ (∀ j w, lv'[j]? = some (some w) → (j = k ∧ w = v) ∨ (j ≠ k ∧ lv[j]? = some (some w) ∧ ¬ (j + 1 = k ∧ w.category = 2)))
  | k, v, [], lv', h => by cases k <;> simp [jst] at h
  | 0, v, a :: r, lv', h => by
    simp [jst] at h
    subst h
    refine ⟨by simp, fun j w hj => ?_⟩
    cases j with
    | zero => simp at hj; exact Or.inl ⟨rfl, hj.symm⟩
    | succ j => exact Or.inr ⟨by simp, by simpa using hj, by omega⟩
  | 1, v, [a], lv', h => by simp [jst] at h
  | 1, v, a :: b :: r, lv', h => by
    simp only [jst] at h
    split at h
    · rename_i ha
      cases h
      refine ⟨by simp, fun j w hj => ?_⟩
      match j, hj with
      | 0, hj =>
        simp at hj
        subst hj
        refine Or.inr ⟨by simp, by simp, fun q => ?_⟩
        have h2 := q.2
        cases w <;> simp [Value.category] at h2 <;> simp [jNL] at ha
      | 1, hj => simp at hj; exact Or.inl ⟨rfl, hj.symm⟩
      | j + 2, hj => exact Or.inr ⟨by omega, by simpa using hj, by omega⟩
    · cases h
  | k + 2, v, a :: r, lv', h => by
    simp only [jst, Option.map_eq_some_iff] at h
    obtain ⟨r', h1, h2⟩ := h
    subst h2
    obtain ⟨e1, e2⟩ := jst_at (k + 1) v r r' h1
    refine ⟨by simp; omega, fun j w hj => ?_⟩
    cases j with
    | zero => exact Or.inr ⟨by omega, by simpa using hj, by omega⟩
    | succ j =>
      rcases e2 j w (by simpa using hj) with ⟨x1, x2⟩ | ⟨x1, x2, x3⟩
      · exact Or.inl ⟨by omega, x2⟩
      · exact Or.inr ⟨by omega, by simpa using x2, fun q => x3 ⟨by omega, q.2⟩⟩
theorem jst_has {ls : Array Slot} {nL k : Nat} {v : Value} {lv lv' : List (Option Value)} (hs : jst k v lv = some lv') (hl : lv_has ls nL ((k, v) :: (jA 0 lv).filter (fun q => !(q.1 == k) && !(q.1 + 1 == k && q.2.category == 2)))) : lv_has ls nL (jA 0 lv') := by
  refine ⟨hl.1, hl.2.1, fun q hq => ?_⟩
  obtain ⟨-, h2⟩ := jA_of lv' 0 q hq
  rcases (jst_at k v lv lv' hs).2 _ _ (by simpa using h2) with ⟨x1, x2⟩ | ⟨x1, x2, x3⟩
  · have : q = (k, v) := Prod.ext x1 x2
    rw [this]
    exact hl.2.2 _ List.mem_cons_self
  · refine hl.2.2 q (List.mem_cons_of_mem _ (List.mem_filter.mpr ⟨?_, ?_⟩))
    · have := jA_mem lv 0 q.1 q.2 x2
      rwa [Nat.zero_add] at this
    · simp only [Bool.and_eq_true, Bool.not_eq_true', beq_eq_false_iff_ne, ne_eq, Bool.and_eq_false_iff]
      refine ⟨x1, ?_⟩
      by_cases y : q.1 + 1 = k
      · exact Or.inr (fun c => x3 ⟨y, c⟩)
      · exact Or.inl y
