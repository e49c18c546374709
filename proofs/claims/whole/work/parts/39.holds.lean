/-! ===== holds; printed by wip/whole/genholds.py ===== -/
theorem w_at {D s : ST} {t : Int32} {k : Nat} {K : Int32 → ST → Prop} (h : Bk D) (pv : PV D t s) (hk : k < (kL D t).length) : w_123 (nI k) s K = K (nI (kL D t)[k]) s := w123 pv.2.1 pv.2.2.1 (kL_150 h) hk
/-- the class's cell of a row of the view -/
theorem cv {D s : ST} {t : Int32} {x c : Nat} {y : Int32} {K : Int32 → ST → Prop} (h : Bk D) (f : Fr fsS D s) (hx : x < nR D) (hc : c < 11) (hy : y = nI c) : w_9 (nI x) y s K = K (D.2.1 3 (11 * x + c)) s := by
  rw [c9 (c := c) (Bk_S f h) (by rw [nR_S f]; exact hx) hc hy, f.2.1 3 rfl]
theorem cc0 {D s : ST} {x : Nat} {K : Int32 → ST → Prop} (h : Bk D) (f : Fr fsS D s) (hx : x < nR D) : w_9 (nI x) 0 s K = K (D.2.1 57 x) s := by rw [cv (t := 0) (c := 0) (y := 0) h f hx (by omega) rfl, Nat.add_zero, (h.2.2.1.2.2.2 x hx).1.1]
theorem cc1 {D s : ST} {x : Nat} {K : Int32 → ST → Prop} (h : Bk D) (f : Fr fsS D s) (hx : x < nR D) : w_9 (nI x) 1 s K = K (D.2.1 58 x) s := by rw [cv (t := 0) (c := 1) (y := 1) h f hx (by omega) rfl, (h.2.2.1.2.2.2 x hx).1.2.1]
theorem cc2 {D s : ST} {x : Nat} {K : Int32 → ST → Prop} (h : Bk D) (f : Fr fsS D s) (hx : x < nR D) : w_9 (nI x) 2 s K = K (D.2.1 59 x) s := by rw [cv (t := 0) (c := 2) (y := 2) h f hx (by omega) rfl, (h.2.2.1.2.2.2 x hx).1.2.2.1]
theorem cc3 {D s : ST} {x : Nat} {K : Int32 → ST → Prop} (h : Bk D) (f : Fr fsS D s) (hx : x < nR D) : w_9 (nI x) 3 s K = K (D.2.1 60 x) s := by rw [cv (t := 0) (c := 3) (y := 3) h f hx (by omega) rfl, (h.2.2.1.2.2.2 x hx).1.2.2.2.1]
theorem cc4 {D s : ST} {x : Nat} {K : Int32 → ST → Prop} (h : Bk D) (f : Fr fsS D s) (hx : x < nR D) : w_9 (nI x) 4 s K = K (D.2.1 61 x) s := by rw [cv (t := 0) (c := 4) (y := 4) h f hx (by omega) rfl, (h.2.2.1.2.2.2 x hx).1.2.2.2.2.1]
theorem cc5 {D s : ST} {x : Nat} {K : Int32 → ST → Prop} (h : Bk D) (f : Fr fsS D s) (hx : x < nR D) : w_9 (nI x) 5 s K = K (D.2.1 62 x) s := by rw [cv (t := 0) (c := 5) (y := 5) h f hx (by omega) rfl, (h.2.2.1.2.2.2 x hx).1.2.2.2.2.2.1]
theorem cc6 {D s : ST} {x : Nat} {K : Int32 → ST → Prop} (h : Bk D) (f : Fr fsS D s) (hx : x < nR D) : w_9 (nI x) 6 s K = K (D.2.1 63 x) s := by rw [cv (t := 0) (c := 6) (y := 6) h f hx (by omega) rfl, (h.2.2.1.2.2.2 x hx).1.2.2.2.2.2.2.1]
theorem cc7 {D s : ST} {x : Nat} {K : Int32 → ST → Prop} (h : Bk D) (f : Fr fsS D s) (hx : x < nR D) : w_9 (nI x) 7 s K = K (D.2.1 64 x) s := by rw [cv (t := 0) (c := 7) (y := 7) h f hx (by omega) rfl, (h.2.2.1.2.2.2 x hx).1.2.2.2.2.2.2.2.1]
theorem cc8 {D s : ST} {x : Nat} {K : Int32 → ST → Prop} (h : Bk D) (f : Fr fsS D s) (hx : x < nR D) : w_9 (nI x) 8 s K = K (D.2.1 65 x) s := by rw [cv (t := 0) (c := 8) (y := 8) h f hx (by omega) rfl, (h.2.2.1.2.2.2 x hx).1.2.2.2.2.2.2.2.2.1]
theorem cc9 {D s : ST} {x : Nat} {K : Int32 → ST → Prop} (h : Bk D) (f : Fr fsS D s) (hx : x < nR D) : w_9 (nI x) 9 s K = K (D.2.1 66 x) s := by rw [cv (t := 0) (c := 9) (y := 9) h f hx (by omega) rfl, (h.2.2.1.2.2.2 x hx).1.2.2.2.2.2.2.2.2.2.1]
theorem cc10 {D s : ST} {x : Nat} {K : Int32 → ST → Prop} (h : Bk D) (f : Fr fsS D s) (hx : x < nR D) : w_9 (nI x) 10 s K = K (D.2.1 67 x) s := by rw [cv (t := 0) (c := 10) (y := 10) h f hx (by omega) rfl, (h.2.2.1.2.2.2 x hx).1.2.2.2.2.2.2.2.2.2.2]
def dirI (D : ST) (x : Nat) (h : Int32) : Int32 := if D.2.1 57 x = 2 ∧ D.2.1 59 x = h then 1 else if ¬ D.2.1 58 x = h then 0 else if D.2.1 57 x = 3 then 0 else if D.2.1 57 x = 0 then 1 else -1
def hst (D : ST) (t h d acc : Int32) (x : Nat) : Int32 := if D.2.1 60 x ≤ d then acc + smI D t x * dirI D x h else acc
theorem w17 {D s : ST} {x : Nat} {p : Int32} {K : Int32 → ST → Prop} (h : Bk D) (f : Fr fsS D s) (hx : x < nR D) (hp : 0 ≤ p.toInt) (k : K (dirI D x p) s) : w_17 (nI x) p s K := by
  obtain ⟨⟨q0, q1, q2, _⟩, hk⟩ := h.2.2.1.2.2.2 x hx
  have c0 : ∀ {K : Int32 → ST → Prop}, w_9 (nI x) 0 s K = K (D.2.1 57 x) s := by
    intro K; rw [cv (t := 0) (c := 0) (y := 0) h f hx (by omega) rfl, Nat.add_zero, q0]
  have c1 : ∀ {K : Int32 → ST → Prop}, w_9 (nI x) 1 s K = K (D.2.1 58 x) s := by
    intro K; rw [cv (t := 0) (c := 1) (y := 1) h f hx (by omega) rfl, q1]
  have c2 : ∀ {K : Int32 → ST → Prop}, w_9 (nI x) 2 s K = K (D.2.1 59 x) s := by
    intro K; rw [cv (t := 0) (c := 2) (y := 2) h f hx (by omega) rfl, q2]
  have rest : ¬ (D.2.1 57 x = 2 ∧ D.2.1 59 x = p) → w_9 (nI x) 0 s (fun r4 s3 => w_9 (nI x) 1 s3 (fun r6 s5 => ((¬ r6 = p → K (0 : Int32) s5) ∧ (¬ (¬ r6 = p) → ((¬ r4 = (3 : Int32) → ((¬ r4 = 0 → K (-1 : Int32) s5) ∧ (¬ (¬ r4 = 0) → K (1 : Int32) s5))) ∧ (¬ (¬ r4 = (3 : Int32)) → K (0 : Int32) s5)))))) := by
    intro ne
    unfold dirI at k
    rw [if_neg ne] at k
    rw [c0, c1]
    by_cases a : D.2.1 58 x = p
    · rw [if_neg (fun z => z a)] at k
      refine br_f (fun z => z a) ?_
      by_cases b : D.2.1 57 x = 3
      · rw [if_pos b] at k
        exact br_f (fun z => z b) k
      · rw [if_neg b] at k
        refine br_t b ?_
        by_cases c : D.2.1 57 x = 0
        · rw [if_pos c] at k
          exact br_f (fun z => z c) k
        · rw [if_neg c] at k
          exact br_t c k
    · rw [if_pos a] at k
      exact br_t a k
  unfold w_17 w_16
  rw [c0]
  by_cases a : D.2.1 57 x = 2
  · refine br_f (fun z => z a) ?_
    rw [c2]
    by_cases b : D.2.1 59 x = p
    · unfold dirI at k
      rw [if_pos ⟨a, b⟩] at k
      exact br_f (fun z => z b) k
    · exact br_t b (rest (fun z => b z.2))
  · refine br_t a ?_
    refine br_t (fun z => ?_) (rest (fun z => a z.1))
    rw [i_eq, l_m1] at z
    omega
theorem hst_end {D : ST} {t h d : Int32} : ∀ (M : List Nat) (a : Int32), (∀ x, x ∈ M → ¬ D.2.1 60 x ≤ d) → M.foldl (hst D t h d) a = a
  | [], _, _ => rfl
  | x :: M, a, hM => by
    rw [List.foldl_cons, hst, if_neg (hM x (List.mem_cons_self))]
    exact hst_end M a (fun y hy => hM y (List.mem_cons_of_mem x hy))
theorem fold_take {D : ST} {t : Int32} {f : Int32 → Nat → Int32} {a : Int32} {k : Nat} (hk : k < (kL D t).length) : ((kL D t).take (k + 1)).foldl f a = f (((kL D t).take k).foldl f a) (kL D t)[k] := by
  rw [List.take_succ_eq_append_getElem hk, List.foldl_append]
  rfl
theorem l_133 {D s : ST} {t p d a : Int32} {X X2 K : Int32 → ST → Prop} (h : Bk D) (pv : PV D t s) (hp : 0 ≤ p.toInt) (h1 : X ((kL D t).foldl (hst D t p d) a) s) (h2 : X2 ((kL D t).foldl (hst D t p d) a) s) : ∀ n k, k ≤ (kL D t).length → (kL D t).length - k < n → w_133_L24 n p d (((kL D t).take k).foldl (hst D t p d) a) (nI k) s X X2 K := by
  have h150 := kL_150 h (t := t)
  intro n
  induction n with
  | zero => intro k _ z; omega
  | succ n ih =>
    intro k hk hn
    rw [w_133_L24, pv.2.1, nI_leI (by omega) (by omega)]
    by_cases c : (kL D t).length ≤ k
    · rw [List.take_of_length_le c]
      exact br_t c h1
    refine br_f c ?_
    have hkl : k < (kL D t).length := by omega
    have hx := (kL_lt h hkl).1
    have nx := ih (k + 1) (by omega) (by omega)
    rw [fold_take hkl, ← nI_1] at nx
    have q3 : D.2.1 3 (11 * (kL D t)[k] + 3) = D.2.1 60 (kL D t)[k] := (h.2.2.1.2.2.2 _ hx).1.2.2.2.1
    rw [w_at h pv hkl, cv (t := t) (c := 3) (y := 3) h pv.1 hx (by omega) rfl, q3]
    by_cases e : D.2.1 60 (kL D t)[k] ≤ d
    · rw [hst, if_pos e] at nx
      refine br_t e ?_
      rw [w119 (by have := (bkR h).2.2; omega), pv.2.2.2 _ hx]
      exact w17 h pv.1 hx hp nx
    · refine br_f e ?_
      have e2 : ((kL D t).take k).foldl (hst D t p d) a = (kL D t).foldl (hst D t p d) a := by
        have z := congrArg (List.foldl (hst D t p d) a) (List.take_append_drop k (kL D t))
        rw [List.foldl_append, hst_end] at z
        · exact z
        · intro x hx
          obtain ⟨j, hj, rfl⟩ := List.mem_drop_iff_getElem.mp hx
          have m := kL_day hkl (show k + j < (kL D t).length by omega) (by omega)
          rw [i_le] at e ⊢
          omega
      rw [e2]
      exact h2
/-- the reference's row of a place -/
theorem rp {D s : ST} {t : Int32} (h : Bk D) (r : RW D t s) {k : Nat} (hk : k < (kL D t).length) : s.2.1 72 k = nI (kL D t)[k] ∧ pin (nI k) 150 = true ∧ pin (nI (kL D t)[k]) 150 = true ∧ (kL D t)[k] < nR D ∧ (nI (kL D t)[k]).toNatClampNeg = (kL D t)[k] ∧ s.2.1 73 (kL D t)[k] = smI D t (kL D t)[k] := by
  have h150 := kL_150 h (t := t)
  have hx := (kL_lt h hk).1
  have hR := (bkR h).2.2
  exact ⟨r.2.1 k hk, pin_nI (by omega) (by omega), pin_nI (by omega) (by omega), hx, nI_clamp (by omega), r.2.2.1 _ hx⟩
theorem l_199 {D s : ST} {t p d a : Int32} {X K : Int32 → ST → Prop} (h : Bk D) (f : Fr fsS D s) (r : RW D t s) (hp : 0 ≤ p.toInt) (h1 : X ((kL D t).foldl (hst D t p d) a) s) : ∀ n k, k ≤ (kL D t).length → (kL D t).length - k < n → w_199_L22 n p d (((kL D t).take k).foldl (hst D t p d) a) (nI k) s X K := by
  have h150 := kL_150 h (t := t)
  intro n
  induction n with
  | zero => intro k _ z; omega
  | succ n ih =>
    intro k hk hn
    rw [w_199_L22, r.1, nI_leI (by omega) (by omega)]
    by_cases c : (kL D t).length ≤ k
    · rw [List.take_of_length_le c]
      exact br_t c h1
    refine br_f c ?_
    have hkl : k < (kL D t).length := by omega
    obtain ⟨r1, r2, r3, hx, r5, r6⟩ := rp h r hkl
    have nx := ih (k + 1) (by omega) (by omega)
    rw [fold_take hkl, ← nI_1] at nx
    rw [nI_clamp (show k < 2 ^ 31 by omega), r1, r5, r6, f.2.1 60 rfl, f.2.1 57 rfl, f.2.1 58 rfl, f.2.1 59 rfl]
    generalize ((kL D t).take k).foldl (hst D t p d) a = acc at nx
    have ok := (h.2.2.1.2.2.2 _ hx).2
    unfold Rok at ok
    generalize (kL D t)[k] = x at *
    refine ⟨r2, r3, ?_⟩
    have a0 : ∀ y : Int32, y + 0 = y := Int32.add_zero
    have s0 : ∀ y : Int32, y - 0 = y := fun y => by rw [Int32.sub_eq_add_neg]; have z : -(0 : Int32) = 0 := by decide
                                                    rw [z, Int32.add_zero]
    have m0 : ∀ y : Int32, y * 0 = 0 := fun y => Int32.mul_zero
    have mm : ∀ y : Int32, y * (-1) = -y := fun y => by rw [Int32.mul_comm]; exact m1_mul y
    have e2 : (2 : Int32).toInt = 2 := rfl
    have e3 : (3 : Int32).toInt = 3 := rfl
    by_cases e : D.2.1 60 x ≤ d
    · rw [hst, if_pos e] at nx
      refine br_f (by rw [i_le] at e; rw [i_lt]; omega) ⟨r3, ?_⟩
      unfold dirI at nx
      by_cases k3 : D.2.1 57 x = 3
      · refine br_f (fun z => z k3) ?_
        have n2 : ¬ (D.2.1 57 x = 2 ∧ D.2.1 59 x = p) := by rw [k3]; exact fun z => absurd z.1 (by decide)
        rw [if_neg n2] at nx
        by_cases hh : D.2.1 58 x = p
        · rw [if_neg (fun z => z hh), if_pos k3, m0, a0] at nx; exact nx
        · rw [if_pos hh, m0, a0] at nx; exact nx
      · refine br_t k3 ⟨r3, ?_⟩
        by_cases k0 : D.2.1 57 x = 0
        · refine br_f (fun z => z k0) ⟨r3, ?_⟩
          have n2 : ¬ (D.2.1 57 x = 2 ∧ D.2.1 59 x = p) := by rw [k0]; exact fun z => absurd z.1 (by decide)
          rw [if_neg n2] at nx
          by_cases hh : D.2.1 58 x = p
          · rw [if_neg (fun z => z hh), if_neg k3, if_pos k0, Int32.mul_one] at nx
            exact br_f (fun z => z hh) ⟨r3, nx⟩
          · rw [if_pos hh, m0] at nx
            exact br_t hh nx
        · refine br_t k0 ⟨r3, ?_⟩
          by_cases hh : D.2.1 58 x = p
          · refine br_f (fun z => z hh) ⟨r3, r3, ?_⟩
            have ho : ¬ (D.2.1 57 x = 2 ∧ D.2.1 59 x = p) := by
              intro z
              have z1 := z.1
              have z2 := z.2
              rw [i_eq] at z1 z2 hh
              omega
            rw [if_neg ho, if_neg (fun z => z hh), if_neg k3, if_neg k0, mm] at nx
            rw [a0, Int32.sub_eq_add_neg]
            by_cases k2 : D.2.1 57 x = 2
            · exact br_f (fun z => z k2) ⟨r3, br_t (fun z => ho ⟨k2, z⟩) nx⟩
            · exact br_t k2 nx
          · refine br_t hh ⟨r3, ?_⟩
            rw [s0, a0]
            by_cases k2 : D.2.1 57 x = 2
            · refine br_f (fun z => z k2) ⟨r3, ?_⟩
              by_cases ho : D.2.1 59 x = p
              · rw [if_pos ⟨k2, ho⟩, Int32.mul_one] at nx
                exact br_f (fun z => z ho) ⟨r3, nx⟩
              · rw [if_neg (fun z => ho z.2), if_pos hh, m0, a0] at nx
                exact br_t ho nx
            · rw [if_neg (fun z => k2 z.1), if_pos hh, m0, a0] at nx
              exact br_t k2 nx
    · rw [hst, if_neg e] at nx
      exact br_t (by rw [i_le] at e; rw [i_lt]; omega) nx
theorem sp_5 {t : Nat} {s : ST} {X F : ST → Prop} (a1 : Int32) (a2 : Int32) (a3 : Int32) (h : J t s) (hX : ∀ s1, J (t + 1) s1 → X s1) : st_5 a1 a2 a3 s X F := by
  obtain ⟨hnow, hhou, hrow, hord, hmen, htap, hthi, hjud, hask, hrea, hsca, hvie, hrul, hrnd, hroo⟩ := h
  have hJ : J t s := ⟨hnow, hhou, hrow, hord, hmen, htap, hthi, hjud, hask, hrea, hsca, hvie, hrul, hrnd, hroo⟩
  have hB := J_Bk hJ
  unfold st_5 w_133
  simp only [e_1, t_1, e_182, t_182, hhou.1]
  have rej : (¬ (0 ≤ a1.toInt ∧ a1.toInt < (s.1 5501).toInt) ∨ ¬ (0 ≤ a2.toInt ∧ a2.toInt ≤ 3999) ∨ ¬ (0 ≤ a3.toInt ∧ a3.toInt ≤ 3999)) → w_199 a1 a2 a3 s (fun r4 s3 => (-1000000000 = r4 → X s3) ∧ (¬ -1000000000 = r4 → F s3)) := by
    intro hc
    have fin : X s := hX _ (J_s hJ)
    unfold w_199
    simp only [e_189, t_189, e_187, t_187]
    by_cases c : 0 ≤ a1.toInt ∧ a1.toInt < (s.1 5501).toInt
    · refine br_f (fun z => z c) ?_
      by_cases d : 0 ≤ a2.toInt ∧ a2.toInt ≤ 3999
      · refine br_f (fun z => z d) ?_
        have e : ¬ (0 ≤ a3.toInt ∧ a3.toInt ≤ 3999) := by
          rcases hc with h | h | h
          · exact absurd c h
          · exact absurd d h
          · exact h
        exact br_f (fun z => z e) (br_t (by trivial) fin)
      · exact br_t d (br_t (by trivial) fin)
    · exact br_t c (br_t (by trivial) fin)
  by_cases c : 0 ≤ a1.toInt ∧ a1.toInt < (s.1 5501).toInt
  · refine br_f (fun z => z c) ?_
    by_cases d : 0 ≤ a2.toInt ∧ a2.toInt ≤ 3999
    · refine br_f (fun z => z d) ?_
      by_cases e : 0 ≤ a3.toInt ∧ a3.toInt ≤ 3999
      · refine br_t (fun z => z e) ?_
        refine mp_111 hB (fr_rfl _ _) hvie (fun s1 f1 vw jv => ?_)
        have fS : Fr fsS s s1 := fr_weak rfl f1
        obtain ⟨q, hq, rfl⟩ := of_rng (n := 10) c.1 (by have := hhou.2.2.1; omega)
        have cq := c.2
        rw [nI_toInt (by omega)] at cq
        have hq2 : q < nH s := by show q < (s.1 5501).toInt.toNat; omega
        have e101 : s1.1 101 = s.1 5501 := (f1.1 101 rfl).trans hhou.1
        have v4 : ∀ {K : Int32 → ST → Prop}, w_4 (nI q) s1 K = K (s.2.1 56 q) s1 := by
          intro K
          rw [e_4 _ _ (fun _ _ => pin_nI hq (by omega))]
          unfold v_4
          rw [if_neg (nI_pos (by omega)), if_neg (by rw [e101, i_le, nI_toInt (by omega)]; omega), nI_clamp (by omega), f1.2.1 2 rfl, (hhou.2.2.2 q hq2).1]
        rw [v4]
        have h150 := kL_150 hB (t := a3)
        have fin : w_199 (nI q) a2 a3 s1 (fun r4 s3 => ((kL s a3).foldl (hst s a3 (nI q) a2) (s.2.1 56 q) = r4 → X s3) ∧ (¬ (kL s a3).foldl (hst s a3 (nI q) a2) (s.2.1 56 q) = r4 → F s3)) := by
          have e5501 : s1.1 5501 = s.1 5501 := f1.1 5501 rfl
          unfold w_199
          simp only [e_189, t_189, e_187, t_187, e5501]
          refine br_f (fun z => z c) (br_f (fun z => z d) (br_t (fun z => z e) ?_))
          refine mp_197 hB fS (fun s2 f2 rw2 => ?_)
          have fS2 : Fr fsS s s2 := fr_tr (F := fq197) rfl fS f2
          rw [nI_clamp (by omega), fS2.2.1 56 rfl]
          refine ⟨pin_nI hq (by omega), 160, l_199 hB fS2 rw2 c.1 ?_ 160 0 (by omega) (by omega)⟩
          exact br_t (by trivial) (hX _ (J_Q (fr_tr (F := fq197) rfl (fr_weak rfl f1) f2) hJ (Jvie_G f2 jv)))
        exact ⟨160, l_133 hB vw.2.1 c.1 fin fin 160 0 (by omega) (by omega)⟩
      · exact br_f (fun z => z e) (rej (Or.inr (Or.inr e)))
    · exact br_t d (rej (Or.inr (Or.inl d)))
  · exact br_t c (rej (Or.inl c))
