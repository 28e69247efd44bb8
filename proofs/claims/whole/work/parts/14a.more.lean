theorem wNew_kd (h : AH) (a kk n : Nat) : kd (wNew h a kk n) a = kk := by
  show (u1 h.1 a (kk, n) a).1 = kk
  rw [u1_self]
theorem wNew_ln (h : AH) (a kk n : Nat) : ln (wNew h a kk n) a = n := by
  show (u1 h.1 a (kk, n) a).2 = n
  rw [u1_self]
theorem jNL_q (r : Option Nat) : jNL (some (va_rf r)) = true := by cases r <;> rfl
/-- what a call has come to: its answer, the next address, the heap -/
def bd3 {α β : Type} (r : Option (α × Nat × AH)) (f : α → Nat → AH → Option β) : Option β := Option.bind r (fun o => f o.1 o.2.1 o.2.2)
def bd2 {β : Type} (r : Option (Nat × AH)) (f : Nat → AH → Option β) : Option β := Option.bind r (fun o => f o.1 o.2)
theorem rfs3 {α β : Type} {r : Option (α × Nat × AH)} {f : α → Nat → AH → Option β} {o : β} (h : bd3 r f = some o) : ∃ v z w, r = some (v, z, w) ∧ f v z w = some o := by
  cases r with
  | none => cases h
  | some a => exact ⟨a.1, a.2.1, a.2.2, rfl, h⟩
theorem rfs2 {β : Type} {r : Option (Nat × AH)} {f : Nat → AH → Option β} {o : β} (h : bd2 r f = some o) : ∃ z w, r = some (z, w) ∧ f z w = some o := by
  cases r with
  | none => cases h
  | some a => exact ⟨a.1, a.2, rfl, h⟩
theorem bb3 {α β : Type} {r : Option (α × Nat × AH)} {v : α} {z : Nat} {w : AH} (h : r = some (v, z, w)) (f : α → Nat → AH → Option β) : bd3 r f = f v z w := by rw [h]; rfl
theorem bb2 {β : Type} {r : Option (Nat × AH)} {z : Nat} {w : AH} (h : r = some (z, w)) (f : Nat → AH → Option β) : bd2 r f = f z w := by rw [h]; rfl
