/-! ===== the invariant, whole; printed by wip/whole/geninv.py ===== -/
def Jrul (s : ST) : Prop := s.1 2002 = s.1 5541
def Jrnd (s : ST) : Prop := ∀ k, k < 9 → s.2.1 49 k = s.2.1 49 k
def Jroo (t : Nat) (s : ST) : Prop := s.2.2.2.2.length ≤ 1000 * t
theorem Jroo_s {t : Nat} {s : ST} (h : Jroo t s) : Jroo (t + 1) s := Nat.le_trans h (by omega)
def J (t : Nat) (s : ST) : Prop := Jnow s ∧ Jhou s ∧ Jrow s ∧ Jord s ∧ Jmen s ∧ Jtap s ∧ Jthi s ∧ Jjud s ∧ Jask s ∧ Jrea s ∧ Jsca s ∧ Jvie s ∧ Jrul s ∧ Jrnd s ∧ Jroo t s
theorem Rok_mono {n h n2 h2 k ho ot dy hr sm ha le pa to cl : Int} (r : Rok n h k ho ot dy hr sm ha le pa to cl) (a : n ≤ n2) (b : h ≤ h2) : Rok n2 h2 k ho ot dy hr sm ha le pa to cl := by
  unfold Rok at r ⊢
  omega
theorem sI_1 {s : ST} {k : Nat} {v : Int32} : (sI s k v).1 = va_up s.1 k v := rfl
theorem sI_2 {s : ST} {k : Nat} {v : Int32} : (sI s k v).2 = s.2 := rfl
theorem sA_1 {s : ST} {k : Nat} {v : Nat → Int32} : (sA s k v).1 = s.1 := rfl
theorem sA_21 {s : ST} {k : Nat} {v : Nat → Int32} : (sA s k v).2.1 = va_up s.2.1 k v := rfl
theorem sA_22 {s : ST} {k : Nat} {v : Nat → Int32} : (sA s k v).2.2 = s.2.2 := rfl
theorem sL_1 {s : ST} {k : Nat} {v : Nat → Int64} : (sL s k v).1 = s.1 := rfl
theorem sL_21 {s : ST} {k : Nat} {v : Nat → Int64} : (sL s k v).2.1 = s.2.1 := rfl
theorem sL_221 {s : ST} {k : Nat} {v : Nat → Int64} : (sL s k v).2.2.1 = va_up s.2.2.1 k v := rfl
theorem sL_222 {s : ST} {k : Nat} {v : Nat → Int64} : (sL s k v).2.2.2 = s.2.2.2 := rfl
