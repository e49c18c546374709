/-! ===== the sums of a day ===== -/
abbrev fsS : FS := ([7, 800, 801, 1600, 3502, 3503, 3504, 3505, 3506, 3710, 3711, 5007, 5008, 5009, 5520, 5525, 5526, 5527, 5528, 5529, 5530, 5531, 5532, 5533, 5552, 5557, 5558, 5571, 5572, 5573, 5574], [9, 10, 11, 12, 13, 14, 15, 21, 33, 34, 36, 38, 39, 40, 41, 42, 43, 44, 45, 47, 48, 49, 51, 52, 53, 54, 72, 73, 74, 76, 77, 78, 79, 80, 81, 82, 94, 95, 96, 97, 98, 99, 100, 101, 102, 103, 104, 105, 106, 109, 110], [17, 18, 92, 93, 107], false, false)
def Bk (s : ST) : Prop := Jnow s ∧ Jhou s ∧ Jrow s ∧ Jord s ∧ Jmen s
theorem Bk_S {D s : ST} (f : Fr fsS D s) (h : Bk D) : Bk s := ⟨Jnow_G f h.1, Jhou_G f h.2.1, Jrow_G f h.2.2.1, Jord_G f h.2.2.2.1, Jmen_G f h.2.2.2.2⟩
theorem bkR {s : ST} (h : Bk s) : s.1 5502 = nI (nR s) ∧ s.1 102 = nI (nR s) ∧ nR s ≤ 150 := by
  have e : s.1 5502 = nI (nR s) := nI_nat h.2.2.1.2.1
  refine ⟨e, by rw [h.2.2.1.1]; exact e, ?_⟩
  show (s.1 5502).toInt.toNat ≤ 150
  have := h.2.2.1.2.2.1
  omega
theorem bkM {s : ST} (h : Bk s) : s.1 5503 = nI (nM s) ∧ s.1 103 = nI (nM s) ∧ nM s ≤ 100 := by
  have e : s.1 5503 = nI (nM s) := nI_nat h.2.2.2.2.2.1
  refine ⟨e, by rw [h.2.2.2.2.1]; exact e, ?_⟩
  show (s.1 5503).toInt.toNat ≤ 100
  have := h.2.2.2.2.2.2.1
  omega
/-- the class's cell of a row -/
theorem c9 {s : ST} {i c : Nat} {x : Int32} {K : Int32 → ST → Prop} (h : Bk s) (hi : i < nR s) (hc : c < 11) (hx : x = nI c) : w_9 (nI i) x s K = K (s.2.1 3 (11 * i + c)) s := by
  obtain ⟨_, h2, h3⟩ := bkR h
  exact w9 (by rw [h2, nI_toInt (by omega)]; omega) (by rw [h2, nI_toInt (by omega)]; omega) hc hx
def smF (a b d : Nat → Int32) (x0 t : Int32) (i : Nat) : Nat → Int32
  | 0 => x0
  | k + 1 => if a k = nI i ∧ d k ≤ t then b k else smF a b d x0 t i k
def smI (s : ST) (t : Int32) (i : Nat) : Int32 := if s.2.1 66 i ≤ t then smF (s.2.1 69) (s.2.1 70) (s.2.1 71) (s.2.1 62 i) t i (nM s) else 0
theorem smI_S {D s : ST} (f : Fr fsS D s) (t : Int32) : smI s t = smI D t := by
  funext i
  unfold smI nM
  rw [f.2.1 66 rfl, f.2.1 69 rfl, f.2.1 70 rfl, f.2.1 71 rfl, f.2.1 62 rfl, f.1 5503 rfl]
theorem smF_rng {s : ST} (h : Bk s) {t : Int32} {i : Nat} (hi : i < nR s) : ∀ k, k ≤ nM s → 0 ≤ (smF (s.2.1 69) (s.2.1 70) (s.2.1 71) (s.2.1 62 i) t i k).toInt ∧ (smF (s.2.1 69) (s.2.1 70) (s.2.1 71) (s.2.1 62 i) t i k).toInt ≤ 1000000
  | 0, _ => by
    have h1 := (h.2.2.1.2.2.2 i hi).2
    unfold Rok at h1
    show 0 ≤ (s.2.1 62 i).toInt ∧ (s.2.1 62 i).toInt ≤ 1000000
    omega
  | k + 1, hk => by
    rw [smF]
    split
    · have h1 := h.2.2.2.2.2.2.2.1 k (by omega)
      exact ⟨h1.2.2.2.2.2.1, h1.2.2.2.2.2.2.1⟩
    · exact smF_rng h hi k (by omega)
theorem smI_rng {s : ST} (h : Bk s) {t : Int32} {i : Nat} (hi : i < nR s) : 0 ≤ (smI s t i).toInt ∧ (smI s t i).toInt ≤ 1000000 := by
  unfold smI
  split
  · exact smF_rng h hi _ (Nat.le_refl _)
  · rw [l_0]; omega
theorem l_194R {s : ST} {t : Int32} {i : Nat} {X K : Int32 → ST → Prop} (h1 : s.1 5503 = nI (nM s)) (h3 : nM s ≤ 100) (hX : X (smF (s.2.1 69) (s.2.1 70) (s.2.1 71) (s.2.1 62 i) t i (nM s)) s) : ∀ n k, k ≤ nM s → nM s - k < n → w_194_L15 n (nI i) t (smF (s.2.1 69) (s.2.1 70) (s.2.1 71) (s.2.1 62 i) t i k) (nI k) s X K := by
  intro n
  induction n with
  | zero => intro k _ z; omega
  | succ n ih =>
    intro k hk hn
    rw [w_194_L15, h1, nI_leI (by omega) (by omega)]
    by_cases c : nM s ≤ k
    · have : k = nM s := by omega
      subst this
      exact br_t c hX
    refine br_f c ?_
    have hp : pin (nI k) 100 = true := pin_nI (by omega) (by omega)
    have nx := ih (k + 1) (by omega) (by omega)
    rw [smF, ← nI_1] at nx
    rw [nI_clamp (show k < 2 ^ 31 by omega)]
    refine ⟨hp, ?_⟩
    by_cases d : s.2.1 69 k = nI i
    · refine br_f (fun z => z d) ⟨hp, ?_⟩
      by_cases e : s.2.1 71 k ≤ t
      · rw [if_pos ⟨d, e⟩] at nx
        refine br_f (by rw [i_le] at e; rw [i_lt]; omega) ⟨hp, nx⟩
      · rw [if_neg (fun z => e z.2)] at nx
        exact br_t (by rw [i_le] at e; rw [i_lt]; omega) nx
    · rw [if_neg (fun z => d z.1)] at nx
      exact br_t d nx
theorem l_194 {s : ST} {t : Int32} {i : Nat} {X K : Int32 → ST → Prop} (h : Bk s) (hX : X (smF (s.2.1 69) (s.2.1 70) (s.2.1 71) (s.2.1 62 i) t i (nM s)) s) : ∀ n k, k ≤ nM s → nM s - k < n → w_194_L15 n (nI i) t (smF (s.2.1 69) (s.2.1 70) (s.2.1 71) (s.2.1 62 i) t i k) (nI k) s X K := l_194R (bkM h).1 (bkM h).2.2 hX
theorem mp_194 {s : ST} {t : Int32} {i : Nat} {K : Int32 → ST → Prop} (h : Bk s) (hi : i < nR s) (k : K (smI s t i) s) : w_194 (nI i) t s K := by
  have hR := (bkR h).2.2
  unfold w_194
  have hp : pin (nI i) 150 = true := pin_nI (by omega) (by omega)
  rw [nI_clamp (show i < 2 ^ 31 by omega)]
  refine ⟨hp, ?_⟩
  unfold smI at k
  by_cases c : s.2.1 66 i ≤ t
  · rw [if_pos c] at k
    exact br_t c ⟨hp, 101, l_194 h k 101 0 (by omega) (by have := (bkM h).2.2; omega)⟩
  · rw [if_neg c] at k
    exact br_f c k
theorem w12 {s : ST} {m : Nat} {K : Int32 → ST → Prop} (h : Bk s) (hm : m < nM s) : w_12 (nI m) s K = K (s.2.1 5 m) s := by
  obtain ⟨_, h2, h3⟩ := bkM h
  rw [e_12 _ _ (fun _ _ => pin_nI (by omega) (by omega))]
  unfold v_12
  rw [if_neg (nI_pos (by omega)), if_neg (by rw [h2, nI_leI (by omega) (by omega)]; omega), nI_clamp (by omega)]
theorem w13 {s : ST} {m : Nat} {K : Int32 → ST → Prop} (h : Bk s) (hm : m < nM s) : w_13 (nI m) s K = K (s.2.1 6 m) s := by
  obtain ⟨_, h2, h3⟩ := bkM h
  rw [e_13 _ _ (fun _ _ => pin_nI (by omega) (by omega))]
  unfold v_13
  rw [if_neg (nI_pos (by omega)), if_neg (by rw [h2, nI_leI (by omega) (by omega)]; omega), nI_clamp (by omega)]
theorem w14 {s : ST} {m : Nat} {K : Int32 → ST → Prop} (h : Bk s) (hm : m < nM s) : w_14 (nI m) s K = K (s.2.1 7 m) s := by
  obtain ⟨_, h2, h3⟩ := bkM h
  rw [e_14 _ _ (fun _ _ => pin_nI (by omega) (by omega))]
  unfold v_14
  rw [if_neg (nI_pos (by omega)), if_neg (by rw [h2, nI_leI (by omega) (by omega)]; omega), nI_clamp (by omega)]
def bas (s : ST) (t : Int32) (j : Nat) : Int32 := if s.2.1 66 j ≤ t then s.2.1 62 j else 0
theorem fr112 {D s : ST} (f : Fr fs36 D s) : Fr fsS D s := fr_weak rfl f
theorem l_112a {D : ST} {t : Int32} {X K : ST → Prop} (h : Bk D) (ht : D.1 800 = t) (hX : ∀ s, Fr fs36 D s → (∀ j, s.2.1 9 j = if j < nR D then bas D t j else D.2.1 9 j) → X s) : ∀ n i s, i ≤ nR D → nR D - i < n → Fr fs36 D s → (∀ j, s.2.1 9 j = if j < i then bas D t j else D.2.1 9 j) → w_112_L2 n (nI i) s X K := by
  obtain ⟨_, h2, h3⟩ := bkR h
  intro n
  induction n with
  | zero => intro i s _ z; omega
  | succ n ih =>
    intro i s hi hn f hs
    have hB := Bk_S (fr112 f) h
    have hnR : nR s = nR D := by unfold nR; rw [f.1 5502 rfl]
    rw [w_112_L2, f.1 102 rfl, h2, nI_leI (by omega) (by omega)]
    by_cases c : nR D ≤ i
    · have : i = nR D := by omega
      subst this
      exact br_t c (hX s f hs)
    refine br_f c ?_
    have hq := (hB.2.2.1.2.2.2 i (by omega)).1
    have q9 : s.2.1 3 (11 * i + 9) = s.2.1 66 i := hq.2.2.2.2.2.2.2.2.2.1
    have q5 : s.2.1 3 (11 * i + 5) = s.2.1 62 i := hq.2.2.2.2.2.1
    have hp : pin (nI i) 150 = true := pin_nI (by omega) (by omega)
    have upd_ok : ∀ y, y = bas D t i → ∀ j, upd (s.2.1 9) i y j = if j < i + 1 then bas D t j else D.2.1 9 j := by
      intro y hy j
      rw [upd_ap]
      by_cases e : j = i
      · subst e; rw [if_pos rfl, if_pos (by omega)]; exact hy
      · rw [if_neg e, hs]
        by_cases d : j < i
        · rw [if_pos d, if_pos (by omega)]
        · rw [if_neg d, if_neg (by omega)]
    rw [c9 (i := i) (c := 9) (x := 9) hB (by omega) (by omega) rfl, q9, f.1 800 rfl, ht, f.2.1 66 rfl]
    by_cases d : D.2.1 66 i ≤ t
    · refine br_f (by rw [i_le] at d; rw [i_lt]; omega) ?_
      rw [c9 (i := i) (c := 5) (x := 5) hB (by omega) (by omega) rfl, q5, f.2.1 62 rfl, nI_clamp (by omega), nI_1]
      refine ⟨hp, ih (i + 1) _ (by omega) (by omega) (fr_sA 9 f) (upd_ok _ ?_)⟩
      unfold bas; rw [if_pos d]
    · refine br_t (by rw [i_le] at d; rw [i_lt]; omega) ?_
      rw [nI_clamp (by omega), nI_1]
      refine ⟨hp, ih (i + 1) _ (by omega) (by omega) (fr_sA 9 f) (upd_ok _ ?_)⟩
      unfold bas; rw [if_neg d]
def csm (s : ST) (t : Int32) (m j : Nat) : Int32 := if s.2.1 66 j ≤ t then smF (s.2.1 69) (s.2.1 70) (s.2.1 71) (s.2.1 62 j) t j m else 0
theorem l_112b {D : ST} {t : Int32} {g0 : Nat → Int32} {X K : ST → Prop} (h : Bk D) (ht : D.1 800 = t) (hX : ∀ s, Fr fs36 D s → (∀ j, s.2.1 9 j = if j < nR D then smI D t j else g0 j) → X s) : ∀ n m s, m ≤ nM D → nM D - m < n → Fr fs36 D s → (∀ k, k < m → D.2.1 71 k ≤ t) → (∀ j, s.2.1 9 j = if j < nR D then csm D t m j else g0 j) → w_112_L30 n (nI m) s X K := by
  obtain ⟨_, h2, h3⟩ := bkR h
  obtain ⟨m1, m2, m3⟩ := bkM h
  intro n
  induction n with
  | zero => intro m s _ z; omega
  | succ n ih =>
    intro m s hm hn f hk hs
    have hB := Bk_S (fr112 f) h
    have hnR : nR s = nR D := by unfold nR; rw [f.1 5502 rfl]
    have hnM : nM s = nM D := by unfold nM; rw [f.1 5503 rfl]
    rw [w_112_L30, f.1 103 rfl, m2, nI_leI (by omega) (by omega)]
    by_cases c : nM D ≤ m
    · have : m = nM D := by omega
      subst this
      exact br_t c (hX s f hs)
    refine br_f c ?_
    have hM := h.2.2.2.2.2.2.2.1 m (by omega)
    obtain ⟨p1, p2, p3, p4, p5, p6, p7, p8, p9⟩ := hM
    rw [w14 hB (by omega), f.1 800 rfl, ht, f.2.1 7 rfl, p3]
    by_cases d : D.2.1 71 m ≤ t
    · refine br_f (by rw [i_le] at d; rw [i_lt]; omega) ?_
      rw [w12 hB (by omega), f.2.1 5 rfl, p1]
      rw [h2.symm.trans h.2.2.1.1 |>.symm, nI_toInt (by omega)] at p5
      obtain ⟨r, hr, er⟩ := of_rng (x := D.2.1 69 m) (n := nR D) p4 p5
      rw [er] at p8 ⊢
      rw [nI_clamp (by omega)] at p8
      simp only [e_2, t_2]
      refine br_f (fun z => z ?_) ?_
      · rw [f.1 102 rfl, h2, nI_toInt (by omega), nI_toInt (by omega)]; omega
      rw [w13 hB (by omega), f.2.1 6 rfl, p2, nI_clamp (by omega), nI_1]
      refine ⟨pin_nI (by omega) (by omega), ih (m + 1) _ (by omega) (by omega) (fr_sA 9 f) ?_ ?_⟩
      · intro k hkm
        by_cases e : k = m
        · subst e; exact d
        · exact hk k (by omega)
      · intro j
        show upd (s.2.1 9) r (D.2.1 70 m) j = _
        rw [upd_ap]
        by_cases e : j = r
        · subst e
          rw [if_pos rfl, if_pos hr]
          unfold csm
          rw [smF, if_pos (show D.2.1 66 j ≤ t by rw [i_le] at d ⊢; omega), if_pos ⟨er, d⟩]
        · rw [if_neg e, hs]
          by_cases g : j < nR D
          · rw [if_pos g, if_pos g]
            have hne : ¬ (D.2.1 69 m = nI j ∧ D.2.1 71 m ≤ t) := by
              intro z
              have z1 := z.1
              rw [er, nI_eq (by omega) (by omega)] at z1
              exact e z1.symm
            unfold csm
            rw [smF, if_neg hne]
          · rw [if_neg g, if_neg g]
    · refine br_t (by rw [i_le] at d; rw [i_lt]; omega) (hX s f ?_)
      intro j
      rw [hs j]
      by_cases g : j < nR D
      · rw [if_pos g, if_pos g]
        unfold csm smI
        congr 1
        have : ∀ q, m ≤ q → q ≤ nM D → smF (D.2.1 69) (D.2.1 70) (D.2.1 71) (D.2.1 62 j) t j q = smF (D.2.1 69) (D.2.1 70) (D.2.1 71) (D.2.1 62 j) t j m := by
          intro q hq
          induction hq with
          | refl => intro _; rfl
          | step hle ihq =>
            intro hq2
            rw [smF, if_neg, ihq (by omega)]
            intro z
            have := h.2.2.2.2.2.2.2.2 m _ hle (by omega)
            have z2 := z.2
            rw [i_le] at d z2
            omega
        exact (this (nM D) (by omega) (Nat.le_refl _)).symm
      · rw [if_neg g, if_neg g]
theorem mp_112 {s : ST} {t : Int32} {K : ST → Prop} (h : Bk s) (ht : s.1 800 = t) (k : ∀ s1, Fr fs36 s s1 → (∀ j, s1.2.1 9 j = if j < nR s then smI s t j else s.2.1 9 j) → K s1) : w_112 s K := by
  have hR := (bkR h).2.2
  have hM := (bkM h).2.2
  unfold w_112
  refine ⟨151, l_112a h ht ?_ 151 0 s (by omega) (by omega) (fr_rfl _ _) (fun j => by rw [if_neg (by omega)])⟩
  intro s1 f1 h1
  refine ⟨101, l_112b (g0 := s.2.1 9) h ht k 101 0 s1 (by omega) (by omega) f1 (fun k hk => absurd hk (by omega)) ?_⟩
  intro j
  rw [h1 j]
  rfl
