/-! ===== the class's rounder: forgetting, going on ===== -/
theorem mp_102 {s : ST} {a k : Nat} {K : Int32 → ST → Prop} (ha : a < 9) (hk : k < 64) (kk : K (s.2.1 48 (64 * a + k)) s) : w_102 (nI a) (nI k) s K := by
  have e64 : (64 : Int32) = nI 64 := rfl
  have e575 : (Int32.ofNat 576 - 1 : Int32).toInt = 575 := rfl
  have ei : nI a * (64 : Int32) + nI k = nI (64 * a + k) := by
    rw [e64, pk_mul, nI_add, Nat.mul_comm]
  unfold w_102
  simp only [ei, e_181, t_181, l_0, e575]
  rw [nI_toInt (by omega), nI_clamp (by omega)]
  exact br_f (fun z => z ⟨by omega, by omega⟩) ⟨pin_nI (by omega) (by omega), kk⟩
theorem mp_103 {u0 : Nat} {s : ST} {L : List (Nat × Nat)} {W : Nat × Nat → Nat} {a S : Nat} {K : Int32 → ST → Prop} (h : RI u0 s L W) (hm : (a, S) ∈ L) (kk : K (nI (W (a, S))) s) : w_103 (nI a) (nI S) s K := by
  obtain ⟨⟨q1, q2, q3, q4⟩, _, w3⟩ := h.2.1 _ hm
  obtain ⟨ix1, ix2, ix3⟩ := ix_ok q1 q2 q3
  have e2303 : (Int32.ofNat 2304 - 1 : Int32).toInt = 2303 := rfl
  have ixe : (nI a * (256 : Int32)) + (((nI S >>> ((nI a + (1 : Int32)) &&& 31)) <<< (nI a &&& 31)) ||| (nI S &&& (((1 : Int32) <<< (nI a &&& 31)) - (1 : Int32)))) = nI (ixN (a, S)) := ix1
  have ix2b : ixN (a, S) < 2304 := ix2
  unfold w_103 w_104
  simp only [ixe, e_181, t_181, l_0, e2303]
  rw [nI_toInt (by omega), nI_clamp (by omega), w3]
  exact br_f (fun z => z ⟨by omega, by omega⟩) ⟨pin_nI ix2 (by omega), kk⟩
def ZI (S0 s : ST) (a k : Nat) : Prop := ∀ i, i < 2304 → s.2.1 47 i = 0 ∨ ∃ a2 k2 : Nat, a2 < 9 ∧ (a < a2 ∨ (a2 = a ∧ k ≤ k2)) ∧ (k2 : Int) < (S0.2.1 49 a2).toInt ∧ rIx (nI a2) (S0.2.1 48 (64 * a2 + k2)) = nI i
theorem l_106i {S0 S1 : ST} {a z : Nat} {X : Int32 → ST → Prop} {K : ST → Prop} (ha : a < 9) (hz : z ≤ 64) (h49 : S1.2.1 49 a = nI z) (hz0 : (S0.2.1 49 a).toInt = z) (h48 : S1.2.1 48 = S0.2.1 48) (hX : ∀ s, Fr ([], [47], [], false, false) S1 s → ZI S0 s (a + 1) 0 → X (nI a) s) : ∀ m k s, k + m = z → Fr ([], [47], [], false, false) S1 s → ZI S0 s a k → w_106_L7 (m + 1) (nI a) (nI k) s X K := by
  have e2303 : (Int32.ofNat 2304 - 1 : Int32).toInt = 2303 := rfl
  intro m
  induction m with
  | zero =>
    intro k s hk fr h
    rw [w_106_L7, nI_clamp (by omega), fr.2.1 49 rfl, h49, nI_leI (by omega) (by omega)]
    refine ⟨pin_nI ha (by omega), br_t (by omega) (hX s fr ?_)⟩
    intro i hi
    rcases h i hi with y | ⟨a2, k2, y1, y2, y3, y4⟩
    · exact Or.inl y
    · right
      refine ⟨a2, k2, y1, ?_, y3, y4⟩
      rcases y2 with y2 | ⟨y2, y5⟩
      · by_cases q : a2 = a + 1
        · exact Or.inr ⟨q, Nat.zero_le _⟩
        · exact Or.inl (by omega)
      · subst y2; omega
  | succ m ih =>
    intro k s hk fr h
    rw [w_106_L7, nI_clamp (by omega), fr.2.1 49 rfl, h49, nI_leI (by omega) (by omega)]
    refine ⟨pin_nI ha (by omega), br_f (by omega) (mp_102 ha (by omega) ?_)⟩
    rw [fr.2.1 48 rfl, h48]
    unfold w_104
    simp only [e_181, t_181, l_0, e2303]
    show (¬ (0 ≤ (rIx (nI a) (S0.2.1 48 (64 * a + k))).toInt ∧ (rIx (nI a) (S0.2.1 48 (64 * a + k))).toInt ≤ 2303) → _) ∧ (¬ ¬ (0 ≤ (rIx (nI a) (S0.2.1 48 (64 * a + k))).toInt ∧ (rIx (nI a) (S0.2.1 48 (64 * a + k))).toInt ≤ 2303) → (pin (rIx (nI a) (S0.2.1 48 (64 * a + k))) 2304 = true ∧ w_106_L7 (m + 1) (nI a) (nI k + 1) (sA s 47 (upd (s.2.1 47) (rIx (nI a) (S0.2.1 48 (64 * a + k))).toNatClampNeg 0)) X K))
    generalize hr : rIx (nI a) (S0.2.1 48 (64 * a + k)) = r4
    rw [nI_1]
    have step : ∀ i, i < 2304 → ¬ r4 = nI i → (s.2.1 47 i = 0 ∨ ∃ a2 k2 : Nat, a2 < 9 ∧ (a < a2 ∨ (a2 = a ∧ k + 1 ≤ k2)) ∧ (k2 : Int) < (S0.2.1 49 a2).toInt ∧ rIx (nI a2) (S0.2.1 48 (64 * a2 + k2)) = nI i) := by
      intro i hi hne
      rcases h i hi with y | ⟨a2, k2, y1, y2, y3, y4⟩
      · exact Or.inl y
      · right
        refine ⟨a2, k2, y1, ?_, y3, y4⟩
        rcases y2 with y2 | ⟨y2, y5⟩
        · exact Or.inl y2
        · right
          refine ⟨y2, ?_⟩
          by_cases q : k2 = k
          · subst q
            subst y2
            exact absurd (hr.symm.trans y4) hne
          · omega
    by_cases c : 0 ≤ r4.toInt ∧ r4.toInt ≤ 2303
    · refine br_f (fun y => y c) ⟨pin_of c.1 (by omega), ih (k + 1) _ (by omega) (fr_sA 47 fr) ?_⟩
      intro i hi
      show upd (s.2.1 47) r4.toNatClampNeg 0 i = 0 ∨ _
      by_cases q : i = r4.toNatClampNeg
      · left; rw [q, pk_us]
      · rw [pk_un q]
        exact step i hi (fun y => q (by rw [y, nI_clamp (by omega)]))
    · refine br_t c (ih (k + 1) s (by omega) fr ?_)
      intro i hi
      exact step i hi (fun y => c (by rw [y, nI_toInt (by omega)]; omega))
theorem l_106 {S0 : ST} {X K : ST → Prop} (hj : Jrnd S0) (hX : ∀ s, Fr fqRd S0 s → (∀ i, i < 2304 → s.2.1 47 i = 0) → (∀ a, a < 9 → s.2.1 49 a = 0) → X s) : ∀ m a s, a + m = 9 → Fr fqRd S0 s → s.2.1 48 = S0.2.1 48 → (∀ b, b < a → s.2.1 49 b = 0) → (∀ b, a ≤ b → s.2.1 49 b = S0.2.1 49 b) → ZI S0 s a 0 → w_106_L2 (m + 1) (nI a) s X K := by
  have e9 : (9 : Int32) = nI 9 := rfl
  intro m
  induction m with
  | zero =>
    intro a s ha fr h48 h1 h2 hz
    rw [w_106_L2, e9, nI_leI (by omega) (by omega)]
    refine br_t (by omega) (hX s fr (fun i hi => ?_) (fun b hb => h1 b (by omega)))
    rcases hz i hi with y | ⟨a2, k2, y1, y2, _⟩
    · exact y
    · omega
  | succ m ih =>
    intro a s ha fr h48 h1 h2 hz
    have ha9 : a < 9 := by omega
    obtain ⟨z0, z1⟩ := hj.1 a ha9
    obtain ⟨z, hzl, ez⟩ := of_rng (n := 65) z0 (by omega)
    rw [w_106_L2, e9, nI_leI (by omega) (by omega)]
    refine br_f (by omega) ⟨z + 1, ?_⟩
    refine l_106i (S0 := S0) (S1 := s) (z := z) ha9 (by omega) (by rw [h2 a (Nat.le_refl _), ez]) (by rw [ez, nI_toInt (by omega)]) h48 ?_ z 0 s (by omega) (fr_rfl _ _) hz
    intro s1 f1 hz1
    refine ⟨pin_nI ha9 (by omega), ?_⟩
    rw [nI_clamp (by omega), nI_1]
    have f2 : Fr fqRd S0 s1 := fr_tr (F := ([], [47], [], false, false)) rfl fr f1
    refine ih (a + 1) _ (by omega) (fr_sA 49 f2) ?_ ?_ ?_ hz1
    · show s1.2.1 48 = _
      rw [f1.2.1 48 rfl]; exact h48
    · intro b hb
      show upd (s1.2.1 49) a 0 b = 0
      by_cases q : b = a
      · rw [q, pk_us]
      · rw [pk_un q, f1.2.1 49 rfl]; exact h1 b (by omega)
    · intro b hb
      show upd (s1.2.1 49) a 0 b = _
      rw [pk_un (by omega), f1.2.1 49 rfl]
      exact h2 b (by omega)
theorem mp_106 {u0 : Nat} {s : ST} {W : Nat × Nat → Nat} {K : ST → Prop} (hj : Jrnd s) (k : ∀ s1, Fr fqRd s s1 → RI u0 s1 [] W → K s1) : w_106 s K := by
  refine ⟨10, l_106 hj ?_ 9 0 s (by omega) (fr_rfl _ _) rfl (fun b hb => absurd hb (by omega)) (fun b _ => rfl) ?_⟩
  · intro s1 f1 h1 h2
    refine k s1 f1 ⟨List.nodup_nil, fun x hx => absurd hx List.not_mem_nil, fun i hi _ => h1 i hi, fun a ha => h2 a ha, fun a ha j x hx => ?_⟩
    have e : Lf ([] : List (Nat × Nat)) a = [] := rfl
    rw [e, List.getElem?_nil] at hx
    cases hx
  · intro i hi
    rcases hj.2 i hi with y | ⟨a2, k2, y1, y2, y3⟩
    · exact Or.inl y
    · right
      refine ⟨a2, k2, y1, ?_, y2, y3⟩
      by_cases q : a2 = 0
      · exact Or.inr ⟨q, Nat.zero_le _⟩
      · exact Or.inl (by omega)
theorem Lf_at {L : List (Nat × Nat)} {a j : Nat} (h : j < (Lf L a).length) : (Lf L a)[j] = (a, (Lf L a)[j].2) ∧ (Lf L a)[j] ∈ L := by
  have hm := Lf_mem.mp (List.getElem_mem h)
  exact ⟨Prod.ext hm.2 rfl, hm.1⟩
/-- what a move brings home -/
theorem l_101h {u0 : Nat} {s : ST} {L : List (Nat × Nat)} {W : Nat × Nat → Nat} {a T : Nat} {X K : Int32 → ST → Prop} (h : RI u0 s L W) (ha : a < 9) (hX : X (nI T) s) : ∀ m j acc, j + m = (Lf L a).length → acc ≤ 100000 → min 100000 (acc + sumL ((Lf L a).drop j) W) = T → w_101_L16 (m + 1) (nI a) (-1) (nI acc) (nI (Lf L a).length) (nI j) s X K := by
  have hl := RI_len h ha
  intro m
  induction m with
  | zero =>
    intro j acc hj hacc ht
    rw [w_101_L16, nI_leI (by omega) (by omega)]
    refine br_t (by omega) ?_
    rw [List.drop_of_length_le (by omega), sumL_nil] at ht
    rw [show acc = T by omega]
    exact hX
  | succ m ih =>
    intro j acc hj hacc ht
    have hjl : j < (Lf L a).length := by omega
    obtain ⟨e1, e2⟩ := Lf_at hjl
    rw [w_101_L16, nI_leI (by omega) (by omega)]
    refine br_f (by omega) (mp_102 ha (by omega) ?_)
    rw [h.2.2.2.2 a ha j _ (List.getElem?_eq_getElem hjl)]
    refine br_f (fun z => z rfl) (mp_103 h (by rw [← e1]; exact e2) ?_)
    rw [← e1, nI_1]
    obtain ⟨_, ⟨w1, w2⟩, _⟩ := h.2.1 _ e2
    rw [satI hacc w2]
    refine ih (j + 1) _ (by omega) (by omega) ?_
    rw [List.drop_eq_getElem_cons hjl, sumL_cons] at ht
    omega
/-- a move that goes on -/
def GG (W v : Nat × Nat → Nat) (b : Nat) (z : Nat × Nat) : Nat := if z.2.testBit b = false ∧ pcN 12 z.2 < 5 then W z * v (b, z.2 ||| 2 ^ b) else 0
theorem l_101b {u0 : Nat} {S0 : ST} {L : List (Nat × Nat)} {W : Nat × Nat → Nat} {a b : Nat} {X K : Int32 → ST → Prop} (ha : a < 9) (hb : b < 9) (hab : ¬ a = b) (hl : (Lf L a).length ≤ 64) (hX : ∀ s L1 W1, Fr fqRd S0 s → RI u0 s L1 W1 → (∀ (v : Nat × Nat → Nat) x, min 100000 (x + sumL L1 (fun z => W1 z * v z)) = min 100000 (x + sumL L (fun z => W z * v z) + sumL (Lf L a) (GG W v b))) → X 0 s) : ∀ m j s L1 W1, j + m = (Lf L a).length → Fr fqRd S0 s → RI u0 s L1 W1 → Lf L1 a = Lf L a → (∀ z : Nat × Nat, z.1 = a → W1 z = W z) → (∀ (v : Nat × Nat → Nat) x, min 100000 (x + sumL L1 (fun z => W1 z * v z) + sumL ((Lf L a).drop j) (GG W v b)) = min 100000 (x + sumL L (fun z => W z * v z) + sumL (Lf L a) (GG W v b))) → w_101_L16 (m + 1) (nI a) (nI b) 0 (nI (Lf L a).length) (nI j) s X K := by
  have e5 : (5 : Int32) = nI 5 := rfl
  intro m
  induction m with
  | zero =>
    intro j s L1 W1 hj fr h hf hw ht
    rw [w_101_L16, nI_leI (by omega) (by omega)]
    refine br_t (by omega) (hX s L1 W1 fr h ?_)
    intro v x
    have := ht v x
    rw [List.drop_of_length_le (by omega), sumL_nil, Nat.add_zero] at this
    exact this
  | succ m ih =>
    intro j s L1 W1 hj fr h hf hw ht
    have hjl : j < (Lf L a).length := by omega
    obtain ⟨e1, e2⟩ := Lf_at (L := L1) (a := a) (j := j) (by rw [hf]; exact hjl)
    have ee : (Lf L1 a)[j]'(by rw [hf]; exact hjl) = (Lf L a)[j] := by simp only [hf]
    rw [ee] at e1 e2
    obtain ⟨⟨q1, q2, q3, q4⟩, ⟨w1, w2⟩, _⟩ := h.2.1 _ e2
    have dr : ∀ v : Nat × Nat → Nat, sumL ((Lf L a).drop j) (GG W v b) = GG W v b (Lf L a)[j] + sumL ((Lf L a).drop (j + 1)) (GG W v b) := fun v => by rw [List.drop_eq_getElem_cons hjl, sumL_cons]
    have e48 : s.2.1 48 (64 * a + j) = nI ((Lf L a)[j]).2 := h.2.2.2.2 a ha j _ (by rw [hf]; exact List.getElem?_eq_getElem hjl)
    generalize hx : (Lf L a)[j] = y at *
    have hy1 : y.1 = a := by rw [e1]
    have q5 : pcN 12 y.2 ≤ 5 := q4.1
    obtain ⟨o1, o2, o3⟩ := or_ok (S := y.2) hb q2
    rw [w_101_L16, nI_leI (by omega) (by omega)]
    refine br_f (by omega) (mp_102 ha (by omega) ?_)
    rw [e48]
    refine br_t (fun z => by rw [i_eq, nI_toInt (by omega), l_m1] at z; omega) ?_
    simp only [e_184, t_184, o2, nI_1]
    have skip : GG W (fun _ => 0) b y = 0 → (∀ v : Nat × Nat → Nat, GG W v b y = 0) → w_101_L16 (m + 1) (nI a) (nI b) 0 (nI (Lf L a).length) (nI (j + 1)) s X K := by
      intro _ hg
      refine ih (j + 1) s L1 W1 (by omega) fr h hf hw ?_
      intro v x
      have := ht v x
      rw [dr v, hg v, Nat.zero_add] at this
      exact this
    cases ct : y.2.testBit b with
    | true =>
      have hg : ∀ v : Nat × Nat → Nat, GG W v b y = 0 := fun v => by
        unfold GG
        rw [ct, if_neg (fun z => absurd z.1 (by decide))]
      exact br_t (by decide) (skip (hg _) hg)
    | false =>
      refine br_f (fun z => z rfl) ?_
      rw [e_283, (pc_ok (m := y.2) (by omega) s).1, e5, nI_leI (by omega) (by omega)]
      by_cases c5 : 5 ≤ pcN 12 y.2
      · have hg : ∀ v : Nat × Nat → Nat, GG W v b y = 0 := fun v => by
          unfold GG
          rw [if_neg (fun z => by omega)]
        exact br_t c5 (skip (hg _) hg)
      · refine br_f c5 (mp_103 h (by rw [← e1]; exact e2) ?_)
        rw [← e1, o1]
        refine mp_105 h hb (or_512 hb q2) (by rw [or_bit, decide_eq_true rfl, Bool.or_true]) ⟨by rw [pcT hb q2 ct]; omega, q4.2.1, by rw [or_bit, q4.2.2.1, Bool.true_or], fun z => absurd (ct.symm.trans (show y.2.testBit b = true by rw [z]; exact q4.2.2.1)) (by decide)⟩ w1 w2 ?_
        intro s2 L2 W2 f2 h2 hs2 hk2
        refine ih (j + 1) s2 L2 W2 (by omega) (fr_tr (F := fqRd) rfl fr f2) h2 (by rw [(hk2 a hab).1]; exact hf) (fun z hz => by rw [(hk2 a hab).2 z hz]; exact hw z hz) ?_
        intro v x
        have t1 := ht v x
        rw [dr v] at t1
        have hg : GG W v b y = W1 y * v (b, y.2 ||| 2 ^ b) := by
          unfold GG
          rw [if_pos ⟨ct, by omega⟩, hw y hy1]
        rw [hg] at t1
        have t2 := hs2 v (x + sumL ((Lf L a).drop (j + 1)) (GG W v b))
        rw [← t1, show x + sumL L2 (fun z => W2 z * v z) + sumL ((Lf L a).drop (j + 1)) (GG W v b) = x + sumL ((Lf L a).drop (j + 1)) (GG W v b) + sumL L2 (fun z => W2 z * v z) by omega, t2]
        congr 1
        omega
