/-! ===== the invariant, whole; printed by wip/whole/geninv.py ===== -/
/-- where a stay's set is counted -/
def rIx (p0 p1 : Int32) : Int32 := ((p0 * (256 : Int32)) + (((p1 >>> ((p0 + (1 : Int32)) &&& 31)) <<< (p0 &&& 31)) ||| (p1 &&& (((1 : Int32) <<< (p0 &&& 31)) - (1 : Int32)))))
def Jrnd (s : ST) : Prop := (∀ a, a < 9 → 0 ≤ (s.2.1 49 a).toInt ∧ (s.2.1 49 a).toInt ≤ 64) ∧ ∀ i, i < 2304 → s.2.1 47 i = 0 ∨ ∃ a k : Nat, a < 9 ∧ (k : Int) < (s.2.1 49 a).toInt ∧ rIx (nI a) (s.2.1 48 (64 * a + k)) = nI i
def Jroo (t : Nat) (s : ST) : Prop := s.2.2.2.2.length ≤ 1000 * t ∧ psl s.2.2.2.2 ≤ 14000 * t
theorem Jroo_s {t : Nat} {s : ST} (h : Jroo t s) : Jroo (t + 1) s := ⟨Nat.le_trans h.1 (by omega), Nat.le_trans h.2 (by omega)⟩
def J (t : Nat) (s : ST) : Prop := Jnow s ∧ Jhou s ∧ Jrow s ∧ Jord s ∧ Jmen s ∧ Jtap s ∧ Jthi s ∧ Jjud s ∧ Jask s ∧ Jrea s ∧ Jsca s ∧ Jvie s ∧ Jrul s ∧ Jrnd s ∧ Jroo t s
theorem Rok_mono {n h n2 h2 k ho ot dy hr sm ha le pa to cl : Int} (r : Rok n h k ho ot dy hr sm ha le pa to cl) (a : n ≤ n2) (b : h ≤ h2) : Rok n2 h2 k ho ot dy hr sm ha le pa to cl := by
  unfold Rok at r ⊢
  omega
theorem ix11 {i c : Nat} (hi : i < 150) (hc : c < 11) : (nI i * (11 : Int32) + nI c).toNatClampNeg = 11 * i + c := by
  have e : nI i * (11 : Int32) + nI c = nI (i * 11 + c) := by
    show nI i * nI 11 + nI c = _
    rw [pk_mul, nI_add]
  rw [e, nI_clamp (by omega)]
  omega
theorem pin11 {i c : Nat} (hi : i < 150) (hc : c < 11) : pin (nI i * (11 : Int32) + nI c) 1650 = true := by
  have e : nI i * (11 : Int32) + nI c = nI (i * 11 + c) := by
    show nI i * nI 11 + nI c = _
    rw [pk_mul, nI_add]
  rw [e]
  exact pin_nI (by omega) (by omega)
theorem w9 {s : ST} {i c : Nat} {x : Int32} {K : Int32 → ST → Prop} (hR : (s.1 102).toInt ≤ 150) (hi : (i : Int) < (s.1 102).toInt) (hc : c < 11) (hx : x = nI c) : w_9 (nI i) x s K = K (s.2.1 3 (11 * i + c)) s := by
  subst hx
  have i1 : ¬ nI i < 0 := nI_pos (by omega)
  have i2 : ¬ s.1 102 ≤ nI i := by rw [i_le, nI_toInt (by omega)]; omega
  have i3 : ¬ nI c < 0 := nI_pos (by omega)
  have i4 : ¬ (11 : Int32) ≤ nI c := by rw [i_le, nI_toInt (by omega)]; have e : (11 : Int32).toInt = 11 := rfl; omega
  rw [e_9 _ _ _ (fun _ _ _ _ => pin11 (by omega) hc)]
  unfold v_9
  rw [if_neg i1, if_neg i2, if_neg i3, if_neg i4, ix11 (by omega) hc]
theorem w9o {s : ST} {p x : Int32} {K : Int32 → ST → Prop} (h : ¬ (0 ≤ p.toInt ∧ p.toInt < (s.1 102).toInt)) : w_9 p x s K = K (-1) s := by
  have o : ob_9 p x s := by
    intro h1 h2
    rw [i_lt, l_0] at h1
    rw [i_le] at h2
    exact absurd ⟨by omega, by omega⟩ h
  rw [e_9 _ _ _ o]
  unfold v_9
  by_cases c : p < 0
  · rw [if_pos c]
  · rw [if_neg c]
    rw [i_lt, l_0] at c
    have d : s.1 102 ≤ p := by rw [i_le]; omega
    rw [if_pos d]
theorem nar1 : vp_nar .boolean (1 : Int32) = 1 := rfl
theorem nar0 : vp_nar .boolean (0 : Int32) = 0 := rfl
theorem sI_1 {s : ST} {k : Nat} {v : Int32} : (sI s k v).1 = va_up s.1 k v := rfl
theorem sI_2 {s : ST} {k : Nat} {v : Int32} : (sI s k v).2 = s.2 := rfl
theorem sA_1 {s : ST} {k : Nat} {v : Nat → Int32} : (sA s k v).1 = s.1 := rfl
theorem sA_21 {s : ST} {k : Nat} {v : Nat → Int32} : (sA s k v).2.1 = va_up s.2.1 k v := rfl
theorem sA_22 {s : ST} {k : Nat} {v : Nat → Int32} : (sA s k v).2.2 = s.2.2 := rfl
theorem sL_1 {s : ST} {k : Nat} {v : Nat → Int64} : (sL s k v).1 = s.1 := rfl
theorem sL_21 {s : ST} {k : Nat} {v : Nat → Int64} : (sL s k v).2.1 = s.2.1 := rfl
theorem sL_221 {s : ST} {k : Nat} {v : Nat → Int64} : (sL s k v).2.2.1 = va_up s.2.2.1 k v := rfl
theorem sL_222 {s : ST} {k : Nat} {v : Nat → Int64} : (sL s k v).2.2.2 = s.2.2.2 := rfl
def dis (F : FS) (I A : List Nat) : Bool := I.all (fun k => !F.1.contains k) && A.all (fun k => !F.2.1.contains k)
theorem dis_I {F : FS} {I A : List Nat} (d : dis F I A = true) (k : Nat) (h : I.contains k = true := by rfl) : F.1.contains k = false := by
  have := List.all_eq_true.mp (Bool.and_eq_true_iff.mp d).1 k (List.contains_iff_mem.mp h)
  rw [Bool.not_eq_true'] at this
  exact this
theorem dis_A {F : FS} {I A : List Nat} (d : dis F I A = true) (k : Nat) (h : A.contains k = true := by rfl) : F.2.1.contains k = false := by
  have := List.all_eq_true.mp (Bool.and_eq_true_iff.mp d).2 k (List.contains_iff_mem.mp h)
  rw [Bool.not_eq_true'] at this
  exact this
theorem Jnow_G {F : FS} {s s1 : ST} (f : Fr F s s1) (h : Jnow s) (d : dis F [100, 5500] [] = true := by rfl) : Jnow s1 := by
  unfold Jnow at h ⊢
  simp only [f.1 100 (dis_I d 100), f.1 5500 (dis_I d 5500)] at h ⊢
  exact h
theorem Jhou_G {F : FS} {s s1 : ST} (f : Fr F s s1) (h : Jhou s) (d : dis F [101, 5501] [2, 56] = true := by rfl) : Jhou s1 := by
  unfold Jhou nH at h ⊢
  simp only [f.1 101 (dis_I d 101), f.1 5501 (dis_I d 5501), f.2.1 2 (dis_A d 2), f.2.1 56 (dis_A d 56)] at h ⊢
  exact h
theorem Jrow_G {F : FS} {s s1 : ST} (f : Fr F s s1) (h : Jrow s) (d : dis F [102, 5502, 5500, 5501] [3, 57, 58, 59, 60, 61, 62, 63, 64, 65, 66, 67] = true := by rfl) : Jrow s1 := by
  unfold Jrow nR at h ⊢
  simp only [f.1 102 (dis_I d 102), f.1 5502 (dis_I d 5502), f.1 5500 (dis_I d 5500), f.1 5501 (dis_I d 5501), f.2.1 3 (dis_A d 3), f.2.1 57 (dis_A d 57), f.2.1 58 (dis_A d 58), f.2.1 59 (dis_A d 59), f.2.1 60 (dis_A d 60), f.2.1 61 (dis_A d 61), f.2.1 62 (dis_A d 62), f.2.1 63 (dis_A d 63), f.2.1 64 (dis_A d 64), f.2.1 65 (dis_A d 65), f.2.1 66 (dis_A d 66), f.2.1 67 (dis_A d 67)] at h ⊢
  exact h
theorem Jord_G {F : FS} {s s1 : ST} (f : Fr F s s1) (h : Jord s) (d : dis F [5502] [4, 60, 61] = true := by rfl) : Jord s1 := by
  unfold Jord nR at h ⊢
  simp only [f.1 5502 (dis_I d 5502), f.2.1 4 (dis_A d 4), f.2.1 60 (dis_A d 60), f.2.1 61 (dis_A d 61)] at h ⊢
  exact h
theorem Jmen_G {F : FS} {s s1 : ST} (f : Fr F s s1) (h : Jmen s) (d : dis F [103, 5503, 5502, 5500] [5, 6, 7, 69, 70, 71, 66] = true := by rfl) : Jmen s1 := by
  unfold Jmen nM at h ⊢
  simp only [f.1 103 (dis_I d 103), f.1 5503 (dis_I d 5503), f.1 5502 (dis_I d 5502), f.1 5500 (dis_I d 5500), f.2.1 5 (dis_A d 5), f.2.1 6 (dis_A d 6), f.2.1 7 (dis_A d 7), f.2.1 69 (dis_A d 69), f.2.1 70 (dis_A d 70), f.2.1 71 (dis_A d 71), f.2.1 66 (dis_A d 66)] at h ⊢
  exact h
theorem Jtap_G {F : FS} {s s1 : ST} (f : Fr F s s1) (h : Jtap s) (d : dis F [7, 5525] [27, 75] = true := by rfl) : Jtap s1 := by
  unfold Jtap at h ⊢
  simp only [f.1 7 (dis_I d 7), f.1 5525 (dis_I d 5525), f.2.1 27 (dis_A d 27), f.2.1 75 (dis_A d 75)] at h ⊢
  exact h
theorem Jthi_G {F : FS} {s s1 : ST} (f : Fr F s s1) (h : Jthi s) (d : dis F [] [28, 108] = true := by rfl) : Jthi s1 := by
  unfold Jthi at h ⊢
  simp only [f.2.1 28 (dis_A d 28), f.2.1 108 (dis_A d 108)] at h ⊢
  exact h
theorem Jjud_G {F : FS} {s s1 : ST} (f : Fr F s s1) (h : Jjud s) (d : dis F [] [29, 68] = true := by rfl) : Jjud s1 := by
  unfold Jjud at h ⊢
  simp only [f.2.1 29 (dis_A d 29), f.2.1 68 (dis_A d 68)] at h ⊢
  exact h
theorem Jask_G {F : FS} {s s1 : ST} (f : Fr F s s1) (h : Jask s) (d : dis F [13, 5578, 5502] [30, 31, 32, 112, 113, 114] = true := by rfl) : Jask s1 := by
  unfold Jask nA at h ⊢
  simp only [f.1 13 (dis_I d 13), f.1 5578 (dis_I d 5578), f.1 5502 (dis_I d 5502), f.2.1 30 (dis_A d 30), f.2.1 31 (dis_A d 31), f.2.1 32 (dis_A d 32), f.2.1 112 (dis_A d 112), f.2.1 113 (dis_A d 113), f.2.1 114 (dis_A d 114)] at h ⊢
  exact h
theorem Jrea_G {F : FS} {s s1 : ST} (f : Fr F s s1) (h : Jrea s) (d : dis F [2300, 5579] [24, 25, 26, 115, 116, 117] = true := by rfl) : Jrea s1 := by
  unfold Jrea nG at h ⊢
  simp only [f.1 2300 (dis_I d 2300), f.1 5579 (dis_I d 5579), f.2.1 24 (dis_A d 24), f.2.1 25 (dis_A d 25), f.2.1 26 (dis_A d 26), f.2.1 115 (dis_A d 115), f.2.1 116 (dis_A d 116), f.2.1 117 (dis_A d 117)] at h ⊢
  exact h
theorem Jsca_G {F : FS} {s s1 : ST} (f : Fr F s s1) (h : Jsca s) (d : dis F [1600, 5552] [] = true := by rfl) : Jsca s1 := by
  unfold Jsca at h ⊢
  simp only [f.1 1600 (dis_I d 1600), f.1 5552 (dis_I d 5552)] at h ⊢
  exact h
theorem Jvie_G {F : FS} {s s1 : ST} (f : Fr F s s1) (h : Jvie s) (d : dis F [5502] [9, 14, 15] = true := by rfl) : Jvie s1 := by
  unfold Jvie nR at h ⊢
  simp only [f.1 5502 (dis_I d 5502), f.2.1 9 (dis_A d 9), f.2.1 14 (dis_A d 14), f.2.1 15 (dis_A d 15)] at h ⊢
  exact h
theorem Jrul_G {F : FS} {s s1 : ST} (f : Fr F s s1) (h : Jrul s) (d : dis F [2002, 5541, 2202, 5542] [83, 84, 85, 86, 87, 88, 89, 90, 91] = true := by rfl) (r1 : F.2.2.2.1 = false := by rfl) (r2 : F.2.2.2.2 = false := by rfl) : Jrul s1 := by
  refine Jrul_app (e := []) (fun a h1 h2 => ?_) (f.1 2002 (dis_I d 2002)) (f.1 5541 (dis_I d 5541)) (f.1 2202 (dis_I d 2202)) (f.1 5542 (dis_I d 5542)) (f.2.2.2.1 r1) (by rw [List.append_nil]; exact f.2.2.2.2 r2) h
  have hc : a = 83 ∨ a = 84 ∨ a = 85 ∨ a = 86 ∨ a = 87 ∨ a = 88 ∨ a = 89 ∨ a = 90 ∨ a = 91 := by omega
  rcases hc with e | e | e | e | e | e | e | e | e <;> subst e
  · exact f.2.1 83 (dis_A d 83)
  · exact f.2.1 84 (dis_A d 84)
  · exact f.2.1 85 (dis_A d 85)
  · exact f.2.1 86 (dis_A d 86)
  · exact f.2.1 87 (dis_A d 87)
  · exact f.2.1 88 (dis_A d 88)
  · exact f.2.1 89 (dis_A d 89)
  · exact f.2.1 90 (dis_A d 90)
  · exact f.2.1 91 (dis_A d 91)
theorem Jrnd_G {F : FS} {s s1 : ST} (f : Fr F s s1) (h : Jrnd s) (d : dis F [] [47, 48, 49] = true := by rfl) : Jrnd s1 := by
  unfold Jrnd at h ⊢
  simp only [f.2.1 47 (dis_A d 47), f.2.1 48 (dis_A d 48), f.2.1 49 (dis_A d 49)] at h ⊢
  exact h
