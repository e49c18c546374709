/-! ===== the class's reader: signs, faults, what it emits ===== -/
theorem fa_or (a b : Nat) : nI a ||| nI b = nI (a ||| b) := by
  apply Int32.toBitVec_inj.1
  show BitVec.ofNat 32 a ||| BitVec.ofNat 32 b = BitVec.ofNat 32 (a ||| b)
  apply BitVec.eq_of_getLsbD_eq
  intro i hi
  simp [BitVec.getLsbD_ofNat, Nat.testBit_or, hi]
theorem enc_or {v o : Nat} (hv : v < 2 ^ 26) (ho : o < 16) : (nI v <<< ((4 : Int32) &&& 31)) ||| nI o = nI (16 * v + o) := by
  rw [pk_shlN _ 4 (by decide) (by omega), fa_or, show v * 2 ^ 4 = 2 ^ 4 * v by omega, ← Nat.two_pow_add_eq_or_of_lt (by omega)]
abbrev fqPs : FS := ([3503, 3504, 3505, 3506], [36], [], false, false)
def sgI (x : Nat) : Int32 := if x = 256 then -1 else nI x
theorem sgI_toInt {x : Nat} (h : x ≤ 256) : (sgI x).toInt = if x = 256 then -1 else (x : Int) := by
  unfold sgI
  by_cases c : x = 256
  · rw [if_pos c, if_pos c]; rfl
  · rw [if_neg c, if_neg c, nI_toInt (by omega)]
theorem sg_y {x : Nat} (c : Nat) (h : x = c) (hc : c < 256) : sgI x = nI c := by
  unfold sgI
  rw [if_neg (by omega), h]
theorem sg_n {x : Nat} (c : Nat) (h : ¬ x = c) (hx : x ≤ 256) (hc : c < 256) : ¬ sgI x = nI c := by
  rw [i_eq, sgI_toInt hx, nI_toInt (by omega)]
  split <;> omega
def TX (S0 : ST) (T : Nat → Nat) (n : Nat) : Prop := n ≤ 160 ∧ S0.1 3502 = nI n ∧ ∀ i, i < n → S0.2.1 27 i = nI (T i) ∧ T i < 256
def CXv (n : Nat) (s : ST) : Prs → Prop
  | .inl e => s.1 3505 = nI e.1 ∧ s.1 3506 = nI e.2 ∧ 0 < e.1 ∧ e.1 ≤ 6 ∧ ∃ u, u ≤ 160 ∧ s.1 3503 = nI u
  | .inr z => s.1 3505 = 0 ∧ s.1 3504 = nI z.1 ∧ s.1 3503 = nI z.2.length ∧ z.1 ≤ n ∧ z.2.length ≤ z.1 ∧ ∀ i (h : i < z.2.length), s.2.1 36 i = nI (16 * z.2[i].2 + z.2[i].1)
def CX (S0 : ST) (n : Nat) (s : ST) (r : Prs) : Prop := Fr fqPs S0 s ∧ CXv n s r
section Cx
variable {S0 s : ST} {T : Nat → Nat} {n : Nat}
theorem sgn_le (hT : TX S0 T n) {a : Nat} : sgn T n a ≤ 256 := by
  unfold sgn
  split
  · rename_i h; have := (hT.2.2 a h).2; omega
  · omega
theorem sgn_out {a : Nat} (h : n ≤ a) : sgn T n a = 256 := if_neg (by omega)
theorem sgn_in (hT : TX S0 T n) {a : Nat} (h : ¬ sgn T n a = 256) : a < n := sg_lt (fun _ h => sgn_out h) h
theorem w81l {e : Nat × Nat} {K : Int32 → ST → Prop} (h : CX S0 n s (.inl e)) : w_81 s K = K (-1) s := by
  obtain ⟨_, h1, h2, h3, h4, _⟩ := h
  have : ¬ s.1 3505 = 0 := by rw [h1, i_eq, nI_toInt (by omega), l_0]; omega
  unfold w_81
  exact propext ⟨fun h => h.1 this, fun h => ⟨fun _ => h, fun z => absurd this z⟩⟩
theorem w81r {a : Nat} {G : List Pc} {K : Int32 → ST → Prop} (hT : TX S0 T n) (h : CX S0 n s (.inr (a, G))) : w_81 s K = K (sgI (sgn T n a)) s := by
  obtain ⟨f, h1, h2, h3, h4, h5, h6⟩ := h
  obtain ⟨t1, t2, t3⟩ := hT
  have h4 : a ≤ n := h4
  unfold w_81
  rw [h1, h2, f.1 3502 rfl, t2, nI_leI (by omega) (by omega), nI_clamp (by omega), f.2.1 27 rfl]
  by_cases c : n ≤ a
  · rw [sgn_out c]
    exact propext ⟨fun h => (((h.2 (fun z => z rfl)).2 (nI_pos (by omega))).1 c), fun h => br_f (fun z => z rfl) (br_f (nI_pos (by omega)) (br_t c h))⟩
  · have e : sgn T n a = T a := if_pos (by omega)
    obtain ⟨t4, t5⟩ := t3 a (by omega)
    have e2 : sgI (T a) = nI (T a) := if_neg (by omega)
    rw [e, e2, t4]
    exact propext ⟨fun h => (((h.2 (fun z => z rfl)).2 (nI_pos (by omega))).2 c).2, fun h => br_f (fun z => z rfl) (br_f (nI_pos (by omega)) (br_f c ⟨pin_nI (by omega) (by omega), h⟩))⟩
theorem w85l {e : Nat × Nat} {p q : Int32} {K : ST → Prop} (h : CX S0 n s (.inl e)) : w_85 p q s K = K s := by
  obtain ⟨_, h1, h2, h3, h4, _⟩ := h
  have : ¬ s.1 3505 = 0 := by rw [h1, i_eq, nI_toInt (by omega), l_0]; omega
  unfold w_85
  exact propext ⟨fun h => h.1 this, fun h => ⟨fun _ => h, fun z => absurd this z⟩⟩
theorem mp_85 {a : Nat} {G : List Pc} {K : ST → Prop} (k p : Nat) (hT : TX S0 T n) (h : CX S0 n s (.inr (a, G))) (hk : 0 < k ∧ k ≤ 6) (kk : ∀ s1, CX S0 n s1 (.inl (k, p)) → K s1) : w_85 (nI k) (nI p) s K := by
  obtain ⟨f, h1, h2, h3, h4, h5, h6⟩ := h
  have hn := hT.1
  have h4 : a ≤ n := h4
  have h5 : G.length ≤ a := h5
  unfold w_85
  exact br_f (fun z => z h1) (kk _ ⟨fr_sI 3506 (fr_sI 3505 f), rfl, rfl, hk.1, hk.2, G.length, by omega, h3⟩)
theorem CX_at {e : Nat × Nat} {x : Int32} (h : CX S0 n s (.inl e)) : CX S0 n (sI s 3504 x) (.inl e) := ⟨fr_sI 3504 h.1, h.2⟩
theorem CX_adv {a : Nat} {G : List Pc} (h : CX S0 n s (.inr (a, G))) (ha : a < n) : CX S0 n (sI s 3504 (s.1 3504 + 1)) (.inr (a + 1, G)) := by
  obtain ⟨f, h1, h2, h3, h4, h5, h6⟩ := h
  have h5 : G.length ≤ a := h5
  refine ⟨fr_sI 3504 f, h1, ?_, h3, ha, ?_, h6⟩
  · show s.1 3504 + 1 = nI (a + 1)
    rw [h2, ← nI_1]
  · show G.length ≤ a + 1
    omega
theorem mp_86l {e : Nat × Nat} {p q : Int32} {K : Int32 → ST → Prop} (h : CX S0 n s (.inl e)) (k : ∀ x s1, CX S0 n s1 (.inl e) → K x s1) : w_86 p q s K := by
  obtain ⟨f, h1, h2, h3, h4, u, h5, h6⟩ := h
  unfold w_86
  rw [h6, show Int32.ofNat 160 = nI 160 from rfl]
  by_cases c : u < 160
  · refine br_t (nI_lt c (by omega)) ⟨pin_nI c (by omega), k _ _ ⟨fr_sA 36 (fr_sI 3503 f), h1, h2, h3, h4, u + 1, by omega, ?_⟩⟩
    show nI u + 1 = nI (u + 1)
    exact nI_1 u
  · exact br_f (nI_nlt (by omega) (by omega)) (k _ _ ⟨f, h1, h2, h3, h4, u, h5, h6⟩)
theorem enc_app {G : List Pc} {o v : Nat} {f : Nat → Int32} (h : ∀ i (h : i < G.length), f i = nI (16 * G[i].2 + G[i].1)) : ∀ i (hi : i < (G ++ [(o, v)]).length), upd f G.length (nI (16 * v + o)) i = nI (16 * (G ++ [(o, v)])[i].2 + (G ++ [(o, v)])[i].1) := by
  intro i hi
  rw [List.length_append] at hi
  have hi : i < G.length + 1 := hi
  by_cases c : i = G.length
  · subst c
    rw [pk_us, List.getElem_append_right (Nat.le_refl _)]
    simp
  · rw [pk_un c, List.getElem_append_left (by omega)]
    exact h i (by omega)
theorem mp_86 {a o v : Nat} {G : List Pc} {K : Int32 → ST → Prop} (hT : TX S0 T n) (h : CX S0 n s (.inr (a, G))) (hr : G.length < a) (ho : o < 16) (hv : v < 2 ^ 26) (k : ∀ s1, CX S0 n s1 (.inr (a, G ++ [(o, v)])) → K (nI G.length) s1) : w_86 (nI o) (nI v) s K := by
  obtain ⟨f, h1, h2, h3, h4, h5, h6⟩ := h
  have hn := hT.1
  have h4 : a ≤ n := h4
  have h3 : s.1 3503 = nI G.length := h3
  unfold w_86
  rw [h3, show Int32.ofNat 160 = nI 160 from rfl, t_a1s, enc_or hv ho, nI_clamp (by omega), nI_1]
  refine br_t (nI_lt (by omega) (by omega)) ⟨pin_nI (by omega) (by omega), k _ ⟨fr_sA 36 (fr_sI 3503 f), h1, h2, ?_, h4, ?_, enc_app h6⟩⟩
  · show nI (G.length + 1) = nI (G ++ [(o, v)]).length
    rw [List.length_append]
    rfl
  · show (G ++ [(o, v)]).length ≤ a
    rw [List.length_append]
    exact hr
theorem mp_87l {e : Nat × Nat} {p q : Int32} {K : ST → Prop} (h : CX S0 n s (.inl e)) (k : ∀ s1, CX S0 n s1 (.inl e) → K s1) : w_87 p q s K := by
  unfold w_87
  simp only [e_181, t_181, l_0]
  have e : (Int32.ofNat 160 - 1).toInt = 159 := rfl
  rw [e]
  by_cases c : 0 ≤ p.toInt ∧ p.toInt ≤ 159
  · exact br_f (fun z => z c) ⟨pin_iff.mpr ⟨c.1, by omega⟩, k _ ⟨fr_sA 36 h.1, h.2⟩⟩
  · exact br_t c (k _ h)
theorem mp_87 {a o g : Nat} {G : List Pc} {K : ST → Prop} (hT : TX S0 T n) (h : CX S0 n s (.inr (a, G))) (ho : o < 16) (hg : g < G.length) (k : ∀ s1, CX S0 n s1 (.inr (a, G.set g (o, G.length))) → K s1) : w_87 (nI g) (nI o) s K := by
  obtain ⟨f, h1, h2, h3, h4, h5, h6⟩ := h
  have hn := hT.1
  have h4 : a ≤ n := h4
  have h5 : G.length ≤ a := h5
  have h3 : s.1 3503 = nI G.length := h3
  unfold w_87
  simp only [e_181, t_181, l_0]
  have e : (Int32.ofNat 160 - 1).toInt = 159 := rfl
  rw [e, nI_toInt (by omega), h3, enc_or (by omega) ho, nI_clamp (by omega)]
  refine br_f (fun z => z ⟨by omega, by omega⟩) ⟨pin_nI (by omega) (by omega), k _ ⟨fr_sA 36 f, h1, h2, ?_, h4, ?_, ?_⟩⟩
  · show s.1 3503 = nI (G.set g (o, G.length)).length
    rw [List.length_set]
    exact h3
  · show (G.set g (o, G.length)).length ≤ a
    rw [List.length_set]
    exact h5
  · intro i hi
    have hi : i < (G.set g (o, G.length)).length := hi
    rw [List.length_set] at hi
    show upd (s.2.1 36) g (nI (16 * G.length + o)) i = nI (16 * (G.set g (o, G.length))[i].2 + (G.set g (o, G.length))[i].1)
    by_cases c : i = g
    · subst c
      rw [pk_us, List.getElem_set_self]
    · rw [pk_un c, List.getElem_set_ne (fun z => c z.symm)]
      exact h6 i hi
theorem mp_83 {r : Prs} {c : Nat} {K : ST → Prop} (hT : TX S0 T n) (h : CX S0 n s r) (hc : c < 256) (k : ∀ s1, CX S0 n s1 (pb r (fun a G => if sgn T n a = c then .inr (a + 1, G) else .inl (1, a))) → K s1) : w_83 (nI c) s K := by
  unfold w_83
  cases r with
  | inl e =>
    rw [w81l h]
    refine br_t ?_ ?_
    · rw [i_eq, nI_toInt (by omega), l_m1]; omega
    · rw [w85l h]; exact k _ h
  | inr z =>
    obtain ⟨a, G⟩ := z
    rw [w81r hT h]
    have k : ∀ s1, CX S0 n s1 (if sgn T n a = c then .inr (a + 1, G) else .inl (1, a)) → K s1 := k
    by_cases d : sgn T n a = c
    · rw [if_pos d] at k
      exact br_f (fun z => z (sg_y c d hc)) (k _ (CX_adv h (sgn_in hT (by omega))))
    · rw [if_neg d] at k
      have h2 := h.2.2.1
      have h2 : s.1 3504 = nI a := h2
      refine br_t (sg_n c d (sgn_le hT) hc) ?_
      rw [h2]
      exact mp_85 1 a hT h (by omega) k
theorem mp_80 {a d e : Nat} {G : List Pc} {K : Int32 → ST → Prop} (hT : TX S0 T n) (h : CX S0 n s (.inr (a, G))) (ha : a < n) (hd : e + d = 6) (k1 : ¬ e = 0 → ∀ s1, CX S0 n s1 (.inr (a + 1, G)) → K 1 s1) (k0 : e = 0 → ∀ s1, CX S0 n s1 (.inl (5, a)) → K 0 s1) : w_80 (nI d) s K := by
  have h2 := h.2.2.1
  have h2 : s.1 3504 = nI a := h2
  unfold w_80
  by_cases c : e = 0
  · refine br_f (nI_nlt (a := d) (b := 6) (by omega) (by omega)) ?_
    rw [h2]
    exact mp_85 5 a hT h (by omega) (k0 c)
  · exact br_t (nI_lt (a := d) (b := 6) (by omega) (by omega)) (k1 c _ (CX_adv h ha))
end Cx
