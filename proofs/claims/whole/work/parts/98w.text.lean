/-! ===== a text is added to the class's rules, or to its chains; printed by wip/whole/gentext5.py ===== -/
theorem grow_n : ∀ n : Fin 20, 10 ≤ n.val → (if nI n.val + 1 - nI n.val < nI n.val >>> ((1 : Int32) &&& 31) then nI n.val >>> ((1 : Int32) &&& 31) else nI n.val + 1 - nI n.val) = nI (n.val / 2) := by decide +kernel
theorem psl_ge : ∀ (dy : PH) (b : Nat) (e : PC), dy[b]? = some e → psz e ≤ psl dy
  | [], b, e, h => by simp at h
  | x :: t, 0, e, h => by
    simp at h
    subst h
    show psz x ≤ psl (x :: t)
    unfold psl
    rw [List.map_cons, List.sum_cons]
    omega
  | x :: t, b + 1, e, h => by
    simp at h
    have := psl_ge t b e h
    unfold psl at this ⊢
    rw [List.map_cons, List.sum_cons]
    omega
abbrev fqA20 : FS := ([2000, 2002], [], [], true, true)
theorem mp_301_20 {s : ST} {p n : Nat} {g : Nat → Option Nat} {o : Nat × List Value} {K : Int32 → ST → Prop} (hs : s.1 2002 = nI n) (hn : n < 20) (hL : (n = 0 ∧ s.2.2.2.1 20 = .float 1) ∨ ∃ b cap, s.2.2.2.1 20 = .ref (b + 118) ∧ s.2.2.2.2[b]? = some (.inl (4, cap, .inr (.inr g))) ∧ 10 ≤ cap ∧ n ≤ cap ∧ cap < 2 ^ 31) (ho : ∀ j, j < n → ∃ c o, g j = some (c + 118) ∧ s.2.2.2.2[c]? = some (.inr o)) (hp : s.2.2.2.2[p]? = some (.inr o)) (k : ∀ (s1 : ST) (b1 cap1 q : Nat) (g1 : Nat → Option Nat), Fr fqA20 s s1 → s1.1 2002 = nI (n + 1) → s1.2.2.2.1 20 = .ref (b1 + 118) → s1.2.2.2.1 22 = s.2.2.2.1 22 → s1.2.2.2.2[b1]? = some (.inl (4, cap1, .inr (.inr g1))) → 10 ≤ cap1 → n + 1 ≤ cap1 → s1.2.2.2.2.length ≤ s.2.2.2.2.length + 1 → psl s1.2.2.2.2 ≤ psl s.2.2.2.2 + 40 → ((s.2.2.2.1 20 = .float 1 ∧ q = s.2.2.2.2.length) ∨ s.2.2.2.1 20 = .ref (q + 118)) → (∀ i x, s.2.2.2.2[i]? = some x → ¬ i = q → s1.2.2.2.2[i]? = some x) → (∀ j, j < n → g1 j = g j) → g1 n = some (p + 118) → K 1 s1) : w_301_R20 p s K := by
  have e1 : (sI s 2000 (s.1 2000 + 1)).1 2002 = nI n := hs
  unfold w_301_R20
  rcases hL with ⟨n0, hf⟩ | ⟨b, cap, hb, hr, h10, hnc, hcap⟩
  · subst n0
    refine Or.inl ⟨hf, ?_⟩
    unfold w_300_R20_F1
    rw [hs]
    refine br_f (fun z => z rfl) ?_
    unfold w_296_R20 w_295_R20
    rw [e1]
    have e10 : (if (10 : Int32) < nI 0 + 1 then nI 0 + 1 else 10) = nI 10 := by decide
    rw [e10, nI_clamp (show 10 < 2 ^ 31 by omega)]
    refine Or.inl ⟨hf, Or.inl ⟨hf, by decide, by decide, ?_⟩⟩
    refine ⟨10, fun _ => none, o, prowR_of q_an, by decide, q_ao hp, ?_⟩
    rw [nI_clamp (show 0 < 2 ^ 31 by omega), nI_1]
    refine k _ s.2.2.2.2.length 10 s.2.2.2.2.length (va_up (fun _ => none) 0 (some (p + 118))) (fr_sD (fr_sI 2002 (fr_sD (fr_sR 20 (fr_sI 2000 (fr_rfl _ _)))))) rfl rfl rfl ?_ (by omega) (by omega) ?_ ?_ (Or.inl ⟨hf, rfl⟩) (fun i x hx ne => ?_) (fun j hj => absurd hj (by omega)) vu_s
    · exact q_ss (by show s.2.2.2.2.length < (s.2.2.2.2 ++ [_]).length; rw [q_al]; omega)
    · show ((s.2.2.2.2 ++ [_]).set _ _).length ≤ _
      rw [List.length_set, q_al]
      omega
    · show psl ((s.2.2.2.2 ++ [(Sum.inl (4, 10, .inr (.inr (fun _ => none))) : PC)]).set s.2.2.2.2.length (.inl (4, 10, .inr (.inr (va_up (fun _ => none) 0 (some (p + 118))))))) ≤ _
      rw [psl_R q_an, psl_push]
      show psl s.2.2.2.2 + 10 ≤ _
      omega
    · exact q_sn (q_ao hx) ne
  · refine Or.inr ⟨b, hb, ?_⟩
    unfold w_300_R20
    rw [hs]
    refine ⟨cap, g, prowR_of hr, ?_⟩
    by_cases c : n = cap
    · subst c
      refine br_f (fun z => z rfl) ?_
      unfold w_296_R20 w_295_R20
      rw [e1]
      refine Or.inr ⟨b, hb, n, g, prowR_of hr, br_t ?_ ?_⟩
      · show (0 : Int32) < nI n
        rw [i_lt, nI_toInt (by omega), l_0]
        omega
      have eN := grow_n ⟨n, by omega⟩ h10
      have eN : (if nI n + 1 - Int32.ofNat n < Int32.ofNat n >>> ((1 : Int32) &&& 31) then Int32.ofNat n >>> ((1 : Int32) &&& 31) else nI n + 1 - Int32.ofNat n) = nI (n / 2) := eN
      have eS : Int32.ofNat n + nI (n / 2) = nI (n + n / 2) := nI_add n (n / 2)
      have eM : (if nI (n + n / 2) < Int32.ofNat n then nI (n + n / 2) else Int32.ofNat n) = nI n := if_neg (nI_nlt (a := n + n / 2) (b := n) (by omega) (by omega))
      unfold w_307
      rw [eN, eS]
      refine br_f (by rw [i_le, nI_toInt (by omega), l_0]; omega) (br_f (by rw [i_lt, nI_toInt (by omega)]; have e : (2147483639 : Int32).toInt = 2147483639 := rfl; omega) (Or.inr ⟨b, hb, ?_⟩))
      unfold w_303
      refine ⟨n, g, prowR_of hr, ?_⟩
      unfold w_304_F4
      rw [nI_clamp (show n + n / 2 < 2 ^ 31 by omega)]
      refine ⟨nI_pos (by omega), by omega, n, g, prowR_of (q_ao hr), n, g, n + n / 2, fun _ => none, prowR_of (q_ao hr), prowR_of q_an, by decide, by decide, ?_⟩
      rw [eM, nI_clamp (show n < 2 ^ 31 by omega), show (0 : Int32).toNatClampNeg = 0 from rfl]
      refine ⟨nI_pos (by omega), by omega, by omega, ?_, ?_⟩
      · unfold pels
        rw [List.all_eq_true]
        intro i hi
        have hi := List.mem_range.mp hi
        obtain ⟨c1, o1, q1, q2⟩ := ho i hi
        have q4 : (hpS (sD (sI s 2000 (s.1 2000 + 1)) (s.2.2.2.2 ++ [(Sum.inl (4, n + n / 2, .inr (.inr (fun _ => none))) : PC)])))[c1 + 118]? = some (.inr o1) := by
          rw [dy_at]
          exact q_ao q2
        rw [Nat.zero_add, q1]
        show (match (hpS (sD (sI s 2000 (s.1 2000 + 1)) (s.2.2.2.2 ++ [(Sum.inl (4, n + n / 2, .inr (.inr (fun _ => none))) : PC)])))[c1 + 118]? with | some (.inr _) => true | _ => false) = true
        rw [q4]
      · have hC : ((s.2.2.2.2 ++ [(Sum.inl (4, n + n / 2, .inr (.inr (fun _ => none))) : PC)]).set s.2.2.2.2.length (.inl (4, n + n / 2, .inr (.inr (va_cpy g (fun _ => none) 0 0 n)))))[s.2.2.2.2.length]? = some (.inl (4, n + n / 2, .inr (.inr (va_cpy g (fun _ => none) 0 0 n)))) := q_ss (by rw [q_al]; omega)
        have old : ∀ (i : Nat) (x : PC), s.2.2.2.2[i]? = some x → ((s.2.2.2.2 ++ [(Sum.inl (4, n + n / 2, .inr (.inr (fun _ => none))) : PC)]).set s.2.2.2.2.length (.inl (4, n + n / 2, .inr (.inr (va_cpy g (fun _ => none) 0 0 n)))))[i]? = some x := fun i x hx => q_sn (q_ao hx) (by have := q_lt hx; omega)
        refine ⟨n + n / 2, va_cpy g (fun _ => none) 0 0 n, o, prowR_of hC, pin_nI (by omega) (by omega), old p _ hp, ?_⟩
        rw [nI_1]
        refine k _ s.2.2.2.2.length (n + n / 2) b (va_up (va_cpy g (fun _ => none) 0 0 n) n (some (p + 118))) (fr_sD (fr_sI 2002 (fr_sR 20 (fr_sD (fr_sI 2000 (fr_rfl _ _)))))) rfl rfl rfl (q_ss (q_lt hC)) (by omega) (by omega) ?_ ?_ (Or.inr hb) (fun i x hx ne => ?_) (fun j hj => ?_) vu_s
        · show (((s.2.2.2.2 ++ [_]).set _ _).set _ _).length ≤ _
          rw [List.length_set, List.length_set, q_al]
          omega
        · show psl (((s.2.2.2.2 ++ [(Sum.inl (4, n + n / 2, .inr (.inr (fun _ => none))) : PC)]).set s.2.2.2.2.length (.inl (4, n + n / 2, .inr (.inr (va_cpy g (fun _ => none) 0 0 n))))).set s.2.2.2.2.length (.inl (4, n + n / 2, .inr (.inr (va_up (va_cpy g (fun _ => none) 0 0 n) n (some (p + 118))))))) ≤ _
          rw [psl_R hC, psl_R q_an, psl_push]
          show psl s.2.2.2.2 + (n + n / 2) ≤ _
          omega
        · exact q_sn (old i x hx) (show ¬ i = s.2.2.2.2.length by have := q_lt hx; omega)
        · rw [vu_n (by omega), pk_cpy_in (by omega) (by omega), Nat.zero_add, Nat.sub_zero]
    · refine br_t ?_ ⟨cap, g, o, prowR_of hr, pin_nI (by omega) (by omega), hp, ?_⟩
      · show ¬ nI n = nI cap
        rw [nI_eq (by omega) (by omega)]
        exact c
      · rw [nI_clamp (show n < 2 ^ 31 by omega), nI_1]
        refine k _ b cap b (va_up g n (some (p + 118))) (fr_sD (fr_sI 2002 (fr_sI 2000 (fr_rfl _ _)))) rfl hb rfl (q_ss (q_lt hr)) h10 (by omega) ?_ ?_ (Or.inr hb) (fun i x hx ne => q_sn hx ne) (fun j hj => vu_n (by omega)) vu_s
        · show (s.2.2.2.2.set _ _).length ≤ _
          rw [List.length_set]
          omega
        · show psl (s.2.2.2.2.set b (.inl (4, cap, .inr (.inr (va_up g n (some (p + 118))))))) ≤ _
          rw [psl_R hr]
          omega
abbrev fqA22 : FS := ([2200, 2202], [], [], true, true)
theorem mp_301_22 {s : ST} {p n : Nat} {g : Nat → Option Nat} {o : Nat × List Value} {K : Int32 → ST → Prop} (hs : s.1 2202 = nI n) (hn : n < 20) (hL : (n = 0 ∧ s.2.2.2.1 22 = .float 1) ∨ ∃ b cap, s.2.2.2.1 22 = .ref (b + 118) ∧ s.2.2.2.2[b]? = some (.inl (4, cap, .inr (.inr g))) ∧ 10 ≤ cap ∧ n ≤ cap ∧ cap < 2 ^ 31) (ho : ∀ j, j < n → ∃ c o, g j = some (c + 118) ∧ s.2.2.2.2[c]? = some (.inr o)) (hp : s.2.2.2.2[p]? = some (.inr o)) (k : ∀ (s1 : ST) (b1 cap1 q : Nat) (g1 : Nat → Option Nat), Fr fqA22 s s1 → s1.1 2202 = nI (n + 1) → s1.2.2.2.1 22 = .ref (b1 + 118) → s1.2.2.2.1 20 = s.2.2.2.1 20 → s1.2.2.2.2[b1]? = some (.inl (4, cap1, .inr (.inr g1))) → 10 ≤ cap1 → n + 1 ≤ cap1 → s1.2.2.2.2.length ≤ s.2.2.2.2.length + 1 → psl s1.2.2.2.2 ≤ psl s.2.2.2.2 + 40 → ((s.2.2.2.1 22 = .float 1 ∧ q = s.2.2.2.2.length) ∨ s.2.2.2.1 22 = .ref (q + 118)) → (∀ i x, s.2.2.2.2[i]? = some x → ¬ i = q → s1.2.2.2.2[i]? = some x) → (∀ j, j < n → g1 j = g j) → g1 n = some (p + 118) → K 1 s1) : w_301_R22 p s K := by
  have e1 : (sI s 2200 (s.1 2200 + 1)).1 2202 = nI n := hs
  unfold w_301_R22
  rcases hL with ⟨n0, hf⟩ | ⟨b, cap, hb, hr, h10, hnc, hcap⟩
  · subst n0
    refine Or.inl ⟨hf, ?_⟩
    unfold w_300_R22_F1
    rw [hs]
    refine br_f (fun z => z rfl) ?_
    unfold w_296_R22 w_295_R22
    rw [e1]
    have e10 : (if (10 : Int32) < nI 0 + 1 then nI 0 + 1 else 10) = nI 10 := by decide
    rw [e10, nI_clamp (show 10 < 2 ^ 31 by omega)]
    refine Or.inl ⟨hf, Or.inl ⟨hf, by decide, by decide, ?_⟩⟩
    refine ⟨10, fun _ => none, o, prowR_of q_an, by decide, q_ao hp, ?_⟩
    rw [nI_clamp (show 0 < 2 ^ 31 by omega), nI_1]
    refine k _ s.2.2.2.2.length 10 s.2.2.2.2.length (va_up (fun _ => none) 0 (some (p + 118))) (fr_sD (fr_sI 2202 (fr_sD (fr_sR 22 (fr_sI 2200 (fr_rfl _ _)))))) rfl rfl rfl ?_ (by omega) (by omega) ?_ ?_ (Or.inl ⟨hf, rfl⟩) (fun i x hx ne => ?_) (fun j hj => absurd hj (by omega)) vu_s
    · exact q_ss (by show s.2.2.2.2.length < (s.2.2.2.2 ++ [_]).length; rw [q_al]; omega)
    · show ((s.2.2.2.2 ++ [_]).set _ _).length ≤ _
      rw [List.length_set, q_al]
      omega
    · show psl ((s.2.2.2.2 ++ [(Sum.inl (4, 10, .inr (.inr (fun _ => none))) : PC)]).set s.2.2.2.2.length (.inl (4, 10, .inr (.inr (va_up (fun _ => none) 0 (some (p + 118))))))) ≤ _
      rw [psl_R q_an, psl_push]
      show psl s.2.2.2.2 + 10 ≤ _
      omega
    · exact q_sn (q_ao hx) ne
  · refine Or.inr ⟨b, hb, ?_⟩
    unfold w_300_R22
    rw [hs]
    refine ⟨cap, g, prowR_of hr, ?_⟩
    by_cases c : n = cap
    · subst c
      refine br_f (fun z => z rfl) ?_
      unfold w_296_R22 w_295_R22
      rw [e1]
      refine Or.inr ⟨b, hb, n, g, prowR_of hr, br_t ?_ ?_⟩
      · show (0 : Int32) < nI n
        rw [i_lt, nI_toInt (by omega), l_0]
        omega
      have eN := grow_n ⟨n, by omega⟩ h10
      have eN : (if nI n + 1 - Int32.ofNat n < Int32.ofNat n >>> ((1 : Int32) &&& 31) then Int32.ofNat n >>> ((1 : Int32) &&& 31) else nI n + 1 - Int32.ofNat n) = nI (n / 2) := eN
      have eS : Int32.ofNat n + nI (n / 2) = nI (n + n / 2) := nI_add n (n / 2)
      have eM : (if nI (n + n / 2) < Int32.ofNat n then nI (n + n / 2) else Int32.ofNat n) = nI n := if_neg (nI_nlt (a := n + n / 2) (b := n) (by omega) (by omega))
      unfold w_307
      rw [eN, eS]
      refine br_f (by rw [i_le, nI_toInt (by omega), l_0]; omega) (br_f (by rw [i_lt, nI_toInt (by omega)]; have e : (2147483639 : Int32).toInt = 2147483639 := rfl; omega) (Or.inr ⟨b, hb, ?_⟩))
      unfold w_303
      refine ⟨n, g, prowR_of hr, ?_⟩
      unfold w_304_F4
      rw [nI_clamp (show n + n / 2 < 2 ^ 31 by omega)]
      refine ⟨nI_pos (by omega), by omega, n, g, prowR_of (q_ao hr), n, g, n + n / 2, fun _ => none, prowR_of (q_ao hr), prowR_of q_an, by decide, by decide, ?_⟩
      rw [eM, nI_clamp (show n < 2 ^ 31 by omega), show (0 : Int32).toNatClampNeg = 0 from rfl]
      refine ⟨nI_pos (by omega), by omega, by omega, ?_, ?_⟩
      · unfold pels
        rw [List.all_eq_true]
        intro i hi
        have hi := List.mem_range.mp hi
        obtain ⟨c1, o1, q1, q2⟩ := ho i hi
        have q4 : (hpS (sD (sI s 2200 (s.1 2200 + 1)) (s.2.2.2.2 ++ [(Sum.inl (4, n + n / 2, .inr (.inr (fun _ => none))) : PC)])))[c1 + 118]? = some (.inr o1) := by
          rw [dy_at]
          exact q_ao q2
        rw [Nat.zero_add, q1]
        show (match (hpS (sD (sI s 2200 (s.1 2200 + 1)) (s.2.2.2.2 ++ [(Sum.inl (4, n + n / 2, .inr (.inr (fun _ => none))) : PC)])))[c1 + 118]? with | some (.inr _) => true | _ => false) = true
        rw [q4]
      · have hC : ((s.2.2.2.2 ++ [(Sum.inl (4, n + n / 2, .inr (.inr (fun _ => none))) : PC)]).set s.2.2.2.2.length (.inl (4, n + n / 2, .inr (.inr (va_cpy g (fun _ => none) 0 0 n)))))[s.2.2.2.2.length]? = some (.inl (4, n + n / 2, .inr (.inr (va_cpy g (fun _ => none) 0 0 n)))) := q_ss (by rw [q_al]; omega)
        have old : ∀ (i : Nat) (x : PC), s.2.2.2.2[i]? = some x → ((s.2.2.2.2 ++ [(Sum.inl (4, n + n / 2, .inr (.inr (fun _ => none))) : PC)]).set s.2.2.2.2.length (.inl (4, n + n / 2, .inr (.inr (va_cpy g (fun _ => none) 0 0 n)))))[i]? = some x := fun i x hx => q_sn (q_ao hx) (by have := q_lt hx; omega)
        refine ⟨n + n / 2, va_cpy g (fun _ => none) 0 0 n, o, prowR_of hC, pin_nI (by omega) (by omega), old p _ hp, ?_⟩
        rw [nI_1]
        refine k _ s.2.2.2.2.length (n + n / 2) b (va_up (va_cpy g (fun _ => none) 0 0 n) n (some (p + 118))) (fr_sD (fr_sI 2202 (fr_sR 22 (fr_sD (fr_sI 2200 (fr_rfl _ _)))))) rfl rfl rfl (q_ss (q_lt hC)) (by omega) (by omega) ?_ ?_ (Or.inr hb) (fun i x hx ne => ?_) (fun j hj => ?_) vu_s
        · show (((s.2.2.2.2 ++ [_]).set _ _).set _ _).length ≤ _
          rw [List.length_set, List.length_set, q_al]
          omega
        · show psl (((s.2.2.2.2 ++ [(Sum.inl (4, n + n / 2, .inr (.inr (fun _ => none))) : PC)]).set s.2.2.2.2.length (.inl (4, n + n / 2, .inr (.inr (va_cpy g (fun _ => none) 0 0 n))))).set s.2.2.2.2.length (.inl (4, n + n / 2, .inr (.inr (va_up (va_cpy g (fun _ => none) 0 0 n) n (some (p + 118))))))) ≤ _
          rw [psl_R hC, psl_R q_an, psl_push]
          show psl s.2.2.2.2 + (n + n / 2) ≤ _
          omega
        · exact q_sn (old i x hx) (show ¬ i = s.2.2.2.2.length by have := q_lt hx; omega)
        · rw [vu_n (by omega), pk_cpy_in (by omega) (by omega), Nat.zero_add, Nat.sub_zero]
    · refine br_t ?_ ⟨cap, g, o, prowR_of hr, pin_nI (by omega) (by omega), hp, ?_⟩
      · show ¬ nI n = nI cap
        rw [nI_eq (by omega) (by omega)]
        exact c
      · rw [nI_clamp (show n < 2 ^ 31 by omega), nI_1]
        refine k _ b cap b (va_up g n (some (p + 118))) (fr_sD (fr_sI 2202 (fr_sI 2200 (fr_rfl _ _)))) rfl hb rfl (q_ss (q_lt hr)) h10 (by omega) ?_ ?_ (Or.inr hb) (fun i x hx ne => q_sn hx ne) (fun j hj => vu_n (by omega)) vu_s
        · show (s.2.2.2.2.set _ _).length ≤ _
          rw [List.length_set]
          omega
        · show psl (s.2.2.2.2.set b (.inl (4, cap, .inr (.inr (va_up g n (some (p + 118))))))) ≤ _
          rw [psl_R hr]
          omega
