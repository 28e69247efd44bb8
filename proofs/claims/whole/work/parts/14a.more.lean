theorem wNew_kd (h : AH) (a kk n : Nat) : kd (wNew h a kk n) a = kk := by
  show (u1 h.1 a (kk, n) a).1 = kk
  rw [u1_self]
theorem wNew_ln (h : AH) (a kk n : Nat) : ln (wNew h a kk n) a = n := by
  show (u1 h.1 a (kk, n) a).2 = n
  rw [u1_self]
theorem jNL_q (r : Option Nat) : jNL (some (va_rf r)) = true := by cases r <;> rfl
