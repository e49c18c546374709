/-! ===== the class's rounder: its tables ===== -/
abbrev fqRd : FS := ([], [47, 48, 49], [], false, false)
def RI (u0 : Nat) (s : ST) (L : List (Nat × Nat)) (W : Nat × Nat → Nat) : Prop := L.Nodup ∧ (∀ x, x ∈ L → (x.1 < 9 ∧ x.2 < 512 ∧ x.2.testBit x.1 = true ∧ okS u0 x.1 x.2) ∧ (1 ≤ W x ∧ W x ≤ 100000) ∧ s.2.1 47 (ixN x) = nI (W x)) ∧ (∀ i, i < 2304 → (∀ x, x ∈ L → ¬ ixN x = i) → s.2.1 47 i = 0) ∧ (∀ a, a < 9 → s.2.1 49 a = nI (Lf L a).length) ∧ (∀ a, a < 9 → ∀ j x, (Lf L a)[j]? = some x → s.2.1 48 (64 * a + j) = nI x.2)
theorem RI_fr {u0 : Nat} {F : FS} {s s1 : ST} {L : List (Nat × Nat)} {W : Nat × Nat → Nat} (f : Fr F s s1) (h : RI u0 s L W) (d : dis F [] [47, 48, 49] = true := by rfl) : RI u0 s1 L W := by
  unfold RI at h ⊢
  rw [f.2.1 47 (dis_A d 47), f.2.1 48 (dis_A d 48), f.2.1 49 (dis_A d 49)]
  exact h
theorem Lf_mem {L : List (Nat × Nat)} {a : Nat} {x : Nat × Nat} : x ∈ Lf L a ↔ x ∈ L ∧ x.1 = a := by
  unfold Lf
  rw [List.mem_filter, decide_eq_true_eq]
theorem all_mem {u0 a S : Nat} (hS : S < 512) (h1 : S.testBit a = true) (h2 : okS u0 a S) : (a, S) ∈ allS u0 a := by
  unfold allS
  refine List.mem_map.mpr ⟨S, List.mem_filter.mpr ⟨List.mem_range.mpr hS, ?_⟩, rfl⟩
  show (S.testBit a && decide (pcN 12 S ≤ 5) && S.testBit u0 && (!decide (a = u0) || decide (S = 2 ^ u0))) = true
  rw [h1, decide_eq_true h2.1, h2.2.2.1]
  by_cases c : a = u0
  · rw [decide_eq_true c, decide_eq_true (h2.2.2.2 c)]
    rfl
  · rw [decide_eq_false c]
    rfl
theorem RI_sub {u0 : Nat} {s : ST} {L : List (Nat × Nat)} {W : Nat × Nat → Nat} {a : Nat} (h : RI u0 s L W) : ∀ x, x ∈ Lf L a → x ∈ allS u0 a := by
  intro x hx
  obtain ⟨h1, h2⟩ := Lf_mem.mp hx
  obtain ⟨⟨_, q2, q3, q4⟩, _⟩ := h.2.1 x h1
  obtain ⟨x1, x2⟩ := x
  subst h2
  exact all_mem q2 q3 q4
theorem RI_nd {u0 : Nat} {s : ST} {L : List (Nat × Nat)} {W : Nat × Nat → Nat} {a : Nat} (h : RI u0 s L W) : (Lf L a).Nodup := List.Pairwise.filter _ h.1
theorem RI_len {u0 : Nat} {s : ST} {L : List (Nat × Nat)} {W : Nat × Nat → Nat} {a : Nat} (h : RI u0 s L W) (ha : a < 9) : (Lf L a).length ≤ 64 := by
  by_cases c : Lf L a = []
  · rw [c]
    exact Nat.zero_le _
  · obtain ⟨x, hx⟩ := List.exists_mem_of_ne_nil _ c
    obtain ⟨⟨_, _, _, q4⟩, _⟩ := h.2.1 x (Lf_mem.mp hx).1
    exact Nat.le_trans (sub_len _ _ (RI_nd h) (RI_sub h)) (allS_le q4.2.1 ha)
theorem ix_inj {x y : Nat × Nat} (hx : x.1 < 9 ∧ x.2 < 512 ∧ x.2.testBit x.1 = true) (hy : y.1 < 9 ∧ y.2 < 512 ∧ y.2.testBit y.1 = true) (e : ixN x = ixN y) : x = y := by
  have h1 := (ix_ok hx.1 hx.2.1 hx.2.2).2.2
  have h2 := (ix_ok hy.1 hy.2.1 hy.2.2).2.2
  have e2 : ixN (x.1, x.2) = ixN (y.1, y.2) := e
  rw [e2, h2] at h1
  exact h1.symm
theorem RI_J {u0 : Nat} {s : ST} {L : List (Nat × Nat)} {W : Nat × Nat → Nat} (h : RI u0 s L W) : Jrnd s := by
  refine ⟨fun a ha => ?_, fun i hi => ?_⟩
  · have := RI_len h ha
    rw [h.2.2.2.1 a ha, nI_toInt (by omega)]
    omega
  · by_cases c : ∀ x, x ∈ L → ¬ ixN x = i
    · exact Or.inl (h.2.2.1 i hi c)
    · right
      obtain ⟨x, hx⟩ := Classical.not_forall.mp c
      obtain ⟨hx1, hx2⟩ := Classical.not_imp.mp hx
      have hx3 := Classical.not_not.mp hx2
      obtain ⟨⟨q1, q2, q3, q4⟩, _⟩ := h.2.1 x hx1
      have hm : x ∈ Lf L x.1 := Lf_mem.mpr ⟨hx1, rfl⟩
      obtain ⟨j, hl, e⟩ := List.getElem_of_mem hm
      have := RI_len h q1
      refine ⟨x.1, j, q1, ?_, ?_⟩
      · rw [h.2.2.2.1 _ q1, nI_toInt (by omega)]; omega
      · rw [h.2.2.2.2 x.1 q1 j x (by rw [List.getElem?_eq_getElem hl, e]), (ix_ok q1 q2 q3).1]
        exact congrArg nI hx3
theorem satI {a b : Nat} (ha : a ≤ 100000) (hb : b ≤ 100000) : (if nI a + nI b < (100000 : Int32) then nI a + nI b else (100000 : Int32)) = nI (min 100000 (a + b)) := by
  have eM : (100000 : Int32) = nI 100000 := rfl
  rw [nI_add, eM]
  by_cases c : a + b < 100000
  · rw [if_pos (nI_lt c (by omega)), show min 100000 (a + b) = a + b by omega]
  · rw [if_neg (nI_nlt (by omega) (by omega)), show min 100000 (a + b) = 100000 by omega]
def wUp (W : Nat × Nat → Nat) (y : Nat × Nat) (n : Nat) (z : Nat × Nat) : Nat := if z = y then n else W z
theorem wUp_e {W : Nat × Nat → Nat} {y : Nat × Nat} {n : Nat} : wUp W y n y = n := if_pos rfl
theorem wUp_n {W : Nat × Nat → Nat} {y z : Nat × Nat} {n : Nat} (h : ¬ z = y) : wUp W y n z = W z := if_neg h
theorem mp_105 {u0 : Nat} {s : ST} {L : List (Nat × Nat)} {W : Nat × Nat → Nat} {b S m : Nat} {K : ST → Prop} (h : RI u0 s L W) (hb : b < 9) (hS : S < 512) (ht : S.testBit b = true) (hp : okS u0 b S) (m1 : 1 ≤ m) (m2 : m ≤ 100000) (k : ∀ s1 L1 W1, Fr fqRd s s1 → RI u0 s1 L1 W1 → (∀ (v : Nat × Nat → Nat) x, min 100000 (x + sumL L1 (fun z => W1 z * v z)) = min 100000 (x + sumL L (fun z => W z * v z) + m * v (b, S))) → (∀ a, ¬ a = b → Lf L1 a = Lf L a ∧ ∀ z : Nat × Nat, z.1 = a → W1 z = W z) → K s1) : w_105 (nI b) (nI S) (nI m) s K := by
  obtain ⟨ix1, ix2, ix3⟩ := ix_ok hb hS ht
  have hlen := RI_len h hb
  have e64 : (64 : Int32) = nI 64 := rfl
  have e8 : (8 : Int32).toInt = 8 := rfl
  have e2303 : (Int32.ofNat 2304 - 1 : Int32).toInt = 2303 := rfl
  unfold w_105 w_104
  have ixe : (nI b * (256 : Int32)) + (((nI S >>> ((nI b + (1 : Int32)) &&& 31)) <<< (nI b &&& 31)) ||| (nI S &&& (((1 : Int32) <<< (nI b &&& 31)) - (1 : Int32)))) = nI (ixN (b, S)) := ix1
  simp only [ixe, e_181, t_181, l_0, e8, e2303]
  rw [nI_toInt (show b < 2 ^ 31 by omega), nI_toInt (show ixN (b, S) < 2 ^ 31 by omega), nI_clamp (show ixN (b, S) < 2 ^ 31 by omega), nI_clamp (show b < 2 ^ 31 by omega)]
  refine br_f (fun z => z ⟨by omega, by omega⟩) (br_t (fun z => z ⟨by omega, by omega⟩) ⟨pin_nI ix2 (by omega), ?_⟩)
  have gd : ∀ x, x ∈ L → ¬ x = (b, S) → ¬ ixN x = ixN (b, S) := by
    intro x hx hne z
    obtain ⟨⟨q1, q2, q3, q4⟩, _⟩ := h.2.1 x hx
    exact hne (ix_inj ⟨q1, q2, q3⟩ ⟨hb, hS, ht⟩ z)
  by_cases c : (b, S) ∈ L
  · obtain ⟨_, ⟨w1, w2⟩, w3⟩ := h.2.1 _ c
    rw [w3, satI w2 m2]
    refine br_t (fun z => ?_) ⟨pin_nI ix2 (by omega), pin_nI ix2 (by omega), ?_⟩
    · have e0 : (0 : Int32) = nI 0 := rfl
      rw [e0, nI_eq (by omega) (by omega)] at z
      omega
    · refine k _ L (wUp W (b, S) (min 100000 (W (b, S) + m))) (fr_sA 47 (fr_rfl _ _)) ⟨h.1, ?_, ?_, h.2.2.2.1, h.2.2.2.2⟩ ?_ ?_
      · intro x hx
        obtain ⟨q1, q2, q3⟩ := h.2.1 x hx
        by_cases d : x = (b, S)
        · rw [d, wUp_e]
          refine ⟨⟨hb, hS, ht, hp⟩, by omega, ?_⟩
          show upd (s.2.1 47) (ixN (b, S)) _ (ixN (b, S)) = _
          rw [pk_us]
        · rw [wUp_n d]
          refine ⟨q1, q2, ?_⟩
          show upd (s.2.1 47) (ixN (b, S)) _ (ixN x) = _
          rw [pk_un (gd x hx d)]
          exact q3
      · intro i hi hn
        show upd (s.2.1 47) (ixN (b, S)) _ i = 0
        rw [pk_un (fun z => hn _ c z.symm)]
        exact h.2.2.1 i hi hn
      · intro v x
        have e1 := sumL_upd (g := fun z => wUp W (b, S) (min 100000 (W (b, S) + m)) z * v z) (h := fun z => W z * v z) (y := (b, S)) L h.1 c (fun z _ hz => by show wUp W (b, S) (min 100000 (W (b, S) + m)) z * v z = W z * v z; rw [wUp_n hz])
        have e1b : sumL L (fun z => wUp W (b, S) (min 100000 (W (b, S) + m)) z * v z) + W (b, S) * v (b, S) = sumL L (fun z => W z * v z) + wUp W (b, S) (min 100000 (W (b, S) + m)) (b, S) * v (b, S) := e1
        rw [wUp_e] at e1b
        have e4 := sumL_upd (g := wUp (fun z => W z * v z) (b, S) 0) (h := fun z => W z * v z) (y := (b, S)) L h.1 c (fun z _ hz => by rw [wUp_n hz])
        have e4b : sumL L (wUp (fun z => W z * v z) (b, S) 0) + W (b, S) * v (b, S) = sumL L (fun z => W z * v z) + wUp (fun z => W z * v z) (b, S) 0 (b, S) := e4
        rw [wUp_e] at e4b
        generalize sumL L (wUp (fun z => W z * v z) (b, S) 0) = y at e4b
        have e6 : sumL L (fun z => wUp W (b, S) (min 100000 (W (b, S) + m)) z * v z) = y + min 100000 (W (b, S) + m) * v (b, S) := by omega
        have ey : sumL L (fun z => W z * v z) = y + W (b, S) * v (b, S) := by omega
        rw [e6, ey]
        have e7 := sat (C := 100000) (x := x + y) (w := W (b, S)) (m := m) (v := v (b, S))
        rw [show x + (y + min 100000 (W (b, S) + m) * v (b, S)) = x + y + min 100000 (W (b, S) + m) * v (b, S) by omega, e7]
        congr 1
        omega
      · intro a ha
        refine ⟨rfl, fun z hz => ?_⟩
        exact wUp_n (fun q => ha (by rw [← hz, q]))
  · have z47 : s.2.1 47 (ixN (b, S)) = 0 := h.2.2.1 _ ix2 (fun x hx => gd x hx (fun q => c (q ▸ hx)))
    have hlt : (Lf L b).length < 64 := by
      have h1 := sub_len ((b, S) :: Lf L b) (allS u0 b) (List.nodup_cons.mpr ⟨fun z => c (Lf_mem.mp z).1, RI_nd h⟩) (fun x hx => by
        rcases List.mem_cons.mp hx with z | z
        · rw [z]; exact all_mem hS ht hp
        · exact RI_sub h x z)
      have h2 := allS_le hp.2.1 hb
      have h3 : ((b, S) :: Lf L b).length = (Lf L b).length + 1 := rfl
      omega
    have e0 : (0 : Int32) = nI 0 := rfl
    have ei : nI b * (64 : Int32) + nI (Lf L b).length = nI (64 * b + (Lf L b).length) := by
      rw [e64, pk_mul, nI_add, Nat.mul_comm]
    rw [h.2.2.2.1 b hb, e64, nI_leI (by omega) (by omega), ← e64, ei, nI_clamp (show 64 * b + (Lf L b).length < 2 ^ 31 by omega), nI_1]
    refine br_f (fun z => z z47) ⟨pin_nI hb (by omega), br_f (by omega) ⟨pin_nI hb (by omega), pin_nI (by omega) (by omega), pin_nI hb (by omega), pin_nI hb (by omega), pin_nI ix2 (by omega), pin_nI ix2 (by omega), ?_⟩⟩
    rw [z47, e0, satI (by omega) m2, Nat.zero_add, show min 100000 m = m by omega]
    refine k _ (L ++ [(b, S)]) (wUp W (b, S) m) (fr_sA 47 (fr_sA 49 (fr_sA 48 (fr_rfl _ _)))) ⟨?_, ?_, ?_, ?_, ?_⟩ ?_ ?_
    · rw [List.nodup_append]
      exact ⟨h.1, List.nodup_cons.mpr ⟨List.not_mem_nil, List.nodup_nil⟩, fun x hx y hy => by rw [List.mem_singleton.mp hy]; exact fun q => c (q ▸ hx)⟩
    · intro x hx
      by_cases d : x = (b, S)
      · rw [d, wUp_e]
        refine ⟨⟨hb, hS, ht, hp⟩, by omega, ?_⟩
        show upd (s.2.1 47) (ixN (b, S)) _ (ixN (b, S)) = _
        rw [pk_us]
      · have hx2 : x ∈ L := by
          rcases List.mem_append.mp hx with z | z
          · exact z
          · exact absurd (List.mem_singleton.mp z) d
        obtain ⟨q1, q2, q3⟩ := h.2.1 x hx2
        rw [wUp_n d]
        refine ⟨q1, q2, ?_⟩
        show upd (s.2.1 47) (ixN (b, S)) _ (ixN x) = _
        rw [pk_un (gd x hx2 d)]
        exact q3
    · intro i hi hn
      show upd (s.2.1 47) (ixN (b, S)) _ i = 0
      rw [pk_un (fun z => hn (b, S) (List.mem_append_right _ (List.mem_singleton.mpr rfl)) z.symm)]
      exact h.2.2.1 i hi (fun x hx => hn x (List.mem_append_left _ hx))
    · intro a ha
      show upd (s.2.1 49) b (nI ((Lf L b).length + 1)) a = _
      rw [Lf_app]
      by_cases d : a = b
      · subst d
        rw [pk_us, if_pos rfl, List.length_append, List.length_singleton]
      · rw [pk_un d, if_neg (fun q => d q.symm), List.append_nil]
        exact h.2.2.2.1 a ha
    · intro a ha j x hj
      show upd (s.2.1 48) (64 * b + (Lf L b).length) (nI S) (64 * a + j) = _
      rw [Lf_app] at hj
      by_cases d : a = b
      · subst d
        rw [if_pos rfl] at hj
        by_cases q : j < (Lf L a).length
        · rw [List.getElem?_append_left q] at hj
          rw [pk_un (by omega)]
          exact h.2.2.2.2 a ha j x hj
        · have hj2 := (List.getElem?_eq_some_iff.mp hj).1
          rw [List.length_append, List.length_singleton] at hj2
          have e : j = (Lf L a).length := by omega
          rw [e, List.getElem?_append_right (Nat.le_refl _), Nat.sub_self] at hj
          have e2 : (a, S) = x := by injection hj
          rw [e, pk_us, ← e2]
      · rw [if_neg (fun q => d q.symm), List.append_nil] at hj
        have hja := (List.getElem?_eq_some_iff.mp hj).1
        have hla := RI_len h ha
        rw [pk_un (by omega)]
        exact h.2.2.2.2 a ha j x hj
    · intro v x
      rw [sumL_app]
      have e1 : sumL L (fun z => wUp W (b, S) m z * v z) = sumL L (fun z => W z * v z) := sumL_congr L (fun z hz => by
        show wUp W (b, S) m z * v z = W z * v z
        rw [wUp_n (show ¬ z = (b, S) from fun q => c (by rw [← q]; exact hz))])
      rw [e1, wUp_e]
      congr 1
      omega
    · intro a ha
      refine ⟨?_, fun z hz => ?_⟩
      · rw [Lf_app, if_neg (fun q => ha q.symm), List.append_nil]
      · exact wUp_n (fun q => ha (by rw [← hz, q]))
