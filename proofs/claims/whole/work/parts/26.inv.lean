/-! ===== the invariant, whole; printed by wip/whole/geninv.py ===== -/
def Jrul (s : ST) : Prop := s.1 2002 = s.1 5541
def Jrnd (s : ST) : Prop := ∀ k, k < 9 → s.2.1 49 k = s.2.1 49 k
def Jroo (t : Nat) (s : ST) : Prop := s.2.2.2.2.length ≤ 1000 * t
theorem Jroo_s {t : Nat} {s : ST} (h : Jroo t s) : Jroo (t + 1) s := Nat.le_trans h (by omega)
def J (t : Nat) (s : ST) : Prop := Jnow s ∧ Jhou s ∧ Jrow s ∧ Jord s ∧ Jmen s ∧ Jtap s ∧ Jthi s ∧ Jjud s ∧ Jask s ∧ Jrea s ∧ Jsca s ∧ Jvie s ∧ Jrul s ∧ Jrnd s ∧ Jroo t s
theorem Rok_mono {n h n2 h2 k ho ot dy hr sm ha le pa to cl : Int} (r : Rok n h k ho ot dy hr sm ha le pa to cl) (a : n ≤ n2) (b : h ≤ h2) : Rok n2 h2 k ho ot dy hr sm ha le pa to cl := by
  unfold Rok at r ⊢
  omega
theorem ix11 {i c : Nat} (hi : i < 150) (hc : c < 11) : (nI i * (11 : Int32) + nI c).toNatClampNeg = 11 * i + c := by
  have e : nI i * (11 : Int32) + nI c = nI (i * 11 + c) := by
    show nI i * nI 11 + nI c = _
    rw [pk_mul, nI_add]
  rw [e, nI_clamp (by omega)]
  omega
theorem pin11 {i c : Nat} (hi : i < 150) (hc : c < 11) : pin (nI i * (11 : Int32) + nI c) 1650 = true := by
  have e : nI i * (11 : Int32) + nI c = nI (i * 11 + c) := by
    show nI i * nI 11 + nI c = _
    rw [pk_mul, nI_add]
  rw [e]
  exact pin_nI (by omega) (by omega)
theorem w9 {s : ST} {i c : Nat} {x : Int32} {K : Int32 → ST → Prop} (hR : (s.1 102).toInt ≤ 150) (hi : (i : Int) < (s.1 102).toInt) (hc : c < 11) (hx : x = nI c) : w_9 (nI i) x s K = K (s.2.1 3 (11 * i + c)) s := by
  subst hx
  have i1 : ¬ nI i < 0 := nI_pos (by omega)
  have i2 : ¬ s.1 102 ≤ nI i := by rw [i_le, nI_toInt (by omega)]; omega
  have i3 : ¬ nI c < 0 := nI_pos (by omega)
  have i4 : ¬ (11 : Int32) ≤ nI c := by rw [i_le, nI_toInt (by omega)]; have e : (11 : Int32).toInt = 11 := rfl; omega
  rw [e_9 _ _ _ (fun _ _ _ _ => pin11 (by omega) hc)]
  unfold v_9
  rw [if_neg i1, if_neg i2, if_neg i3, if_neg i4, ix11 (by omega) hc]
theorem w9o {s : ST} {p x : Int32} {K : Int32 → ST → Prop} (h : ¬ (0 ≤ p.toInt ∧ p.toInt < (s.1 102).toInt)) : w_9 p x s K = K (-1) s := by
  have o : ob_9 p x s := by
    intro h1 h2
    rw [i_lt, l_0] at h1
    rw [i_le] at h2
    exact absurd ⟨by omega, by omega⟩ h
  rw [e_9 _ _ _ o]
  unfold v_9
  by_cases c : p < 0
  · rw [if_pos c]
  · rw [if_neg c]
    rw [i_lt, l_0] at c
    have d : s.1 102 ≤ p := by rw [i_le]; omega
    rw [if_pos d]
theorem nar1 : vp_nar .boolean (1 : Int32) = 1 := rfl
theorem nar0 : vp_nar .boolean (0 : Int32) = 0 := rfl
theorem sI_1 {s : ST} {k : Nat} {v : Int32} : (sI s k v).1 = va_up s.1 k v := rfl
theorem sI_2 {s : ST} {k : Nat} {v : Int32} : (sI s k v).2 = s.2 := rfl
theorem sA_1 {s : ST} {k : Nat} {v : Nat → Int32} : (sA s k v).1 = s.1 := rfl
theorem sA_21 {s : ST} {k : Nat} {v : Nat → Int32} : (sA s k v).2.1 = va_up s.2.1 k v := rfl
theorem sA_22 {s : ST} {k : Nat} {v : Nat → Int32} : (sA s k v).2.2 = s.2.2 := rfl
theorem sL_1 {s : ST} {k : Nat} {v : Nat → Int64} : (sL s k v).1 = s.1 := rfl
theorem sL_21 {s : ST} {k : Nat} {v : Nat → Int64} : (sL s k v).2.1 = s.2.1 := rfl
theorem sL_221 {s : ST} {k : Nat} {v : Nat → Int64} : (sL s k v).2.2.1 = va_up s.2.2.1 k v := rfl
theorem sL_222 {s : ST} {k : Nat} {v : Nat → Int64} : (sL s k v).2.2.2 = s.2.2.2 := rfl
