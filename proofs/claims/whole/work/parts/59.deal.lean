/-! ===== deal and deals: the rows of a kind, a hand's, the marked ===== -/
def pA (D : ST) (kd : Int32) (x : Nat) : Bool := decide (D.2.1 57 x = kd)
def pO (D : ST) (hd kd : Int32) (x : Nat) : Bool := pA D kd x && decide (D.2.1 63 x = hd)
def pM (D : ST) (kd : Int32) (r j : Nat) (x : Nat) : Bool := pA D kd x && trv D r j (fxv D (D.1 5500) x (-1))
def pOM (D : ST) (hd kd : Int32) (r j : Nat) (x : Nat) : Bool := pO D hd kd x && trv D r j (fxv D (D.1 5500) x (-1))
theorem fcp_mono {D : ST} {t : Int32} {p q : Nat → Bool} {k : Nat} (h : ∀ x, p x = true → q x = true) : fcp D t p k ≤ fcp D t q k := by
  unfold fcp
  generalize (kL D t).take k = l
  induction l with
  | nil => exact Nat.le_refl _
  | cons a l ih =>
    rw [List.filter_cons, List.filter_cons]
    by_cases c : p a = true
    · rw [if_pos c, if_pos (h a c)]; exact Nat.succ_le_succ ih
    · rw [if_neg c]
      by_cases d : q a = true
      · rw [if_pos d, List.length_cons]; omega
      · rw [if_neg d]; exact ih
theorem fcp_le {D : ST} {t : Int32} {p : Nat → Bool} {k : Nat} : fcp D t p k ≤ k := by
  unfold fcp
  exact Nat.le_trans (List.length_filter_le _ _) (by rw [List.length_take]; omega)
def b01 (b : Bool) : Nat := if b = true then 1 else 0
/-- clause j is the first of text r that breaks -/
def fst (D : ST) (r j : Nat) : Prop := j < nK D r ∧ D.2.1 87 (10 * r + j) = 114 ∧ ∀ i, i < j → ¬ D.2.1 87 (10 * r + i) = 114
theorem fst_u {D : ST} {r j i : Nat} (h : fst D r j) (g : fst D r i) : j = i := by
  by_cases a : j < i
  · exact absurd h.2.1 (g.2.2 j a)
  · by_cases b : i < j
    · exact absurd g.2.1 (h.2.2 i b)
    · omega
theorem l_109 {D s : ST} {r y : Nat} {fr to : Int32} {X1 : ST → Prop} {X2 : Nat → Int32 → ST → Prop} {K : Option Nat → ST → Prop} (h : TxA D D.2.2.2.2 r y fr to) (hr : r < 20) (hl : s.2.2.2 = D.2.2.2) (h1 : (∀ j, ¬ fst D r j) → X1 s) (h2 : ∀ j, fst D r j → X2 y (nI j) s) : ∀ m j, j + m = nK D r → (∀ i, i < j → ¬ D.2.1 87 (10 * r + i) = 114) → w_109_L2 (m + 1) y (nI j) s X1 X2 K := by
  obtain ⟨t1, t2, t3, v, mc, b, cap, g, p1, p2, p3, p4, p5⟩ := h
  have hd : s.2.2.2.2 = D.2.2.2.2 := by rw [hl]
  intro m
  induction m with
  | zero =>
    intro j hj hs
    have : j = nK D r := by omega
    subst this
    rw [w_109_L2]
    rw [hd]
    refine ⟨v, pg p1 rfl, _, p2, nI (nK D r), by rw [hd]; exact pg p2 rfl, ?_⟩
    dsimp only
    rw [nI_leI (by omega) (by omega)]
    exact br_t (Nat.le_refl _) (h1 (fun i hi => hs i hi.1 hi.2.1))
  | succ m ih =>
    intro j hj hs
    rw [w_109_L2]
    rw [hd]
    refine ⟨v, pg p1 rfl, _, p2, nI (nK D r), by rw [hd]; exact pg p2 rfl, ?_⟩
    dsimp only
    rw [nI_leI (by omega) (by omega)]
    refine br_f (by omega) ?_
    rw [hd]
    obtain ⟨cl, c1, kd2, m2, tg, tc, o1, o2, o3, o4, o5⟩ := p5 j (by omega)
    refine ⟨v, pg p1 rfl, _, p2, mp_299 (by rw [hd]; exact p2) (by rw [hd]; exact p3) p4 (by omega) (by omega) c1 ?_⟩
    rw [hd]
    refine ⟨_, o1, kd2, pg o1 rfl, ?_⟩
    obtain ⟨e1, _⟩ := o2 hr
    rw [e1]
    by_cases d : D.2.1 87 (10 * r + j) = 114
    · exact br_f (fun z => z d) (h2 j ⟨by omega, d, hs⟩)
    · refine br_t d ?_
      rw [nI_1]
      refine ih (j + 1) (by omega) (fun i hi => ?_)
      by_cases e : i = j
      · subst e; exact d
      · exact hs i (by omega)
theorem mp_109 {D s : ST} {r y : Nat} {fr to : Int32} {K : Option Nat → ST → Prop} (h : TxA D D.2.2.2.2 r y fr to) (hr : r < 20) (hl : s.2.2.2 = D.2.2.2) (h1 : (∀ j, ¬ fst D r j) → K none s) (h2 : ∀ j c, fst D r j → ClA D D.2.2.2.2 r j c → K (some c) s) : w_109 y s K := by
  have hx := h
  obtain ⟨t1, t2, t3, v, mc, b, cap, g, p1, p2, p3, p4, p5⟩ := hx
  have hd : s.2.2.2.2 = D.2.2.2.2 := by rw [hl]
  refine ⟨nK D r + 1, l_109 h hr hl h1 ?_ (nK D r) 0 (by omega) (fun i hi => absurd hi (Nat.not_lt_zero _))⟩
  intro j hj
  obtain ⟨cl, c1, c2⟩ := p5 j hj.1
  have c3 := c2
  obtain ⟨kd2, m2, tg, tc, o1, o2, o3, o4, o5⟩ := c3
  rw [hd]
  have hk := hj.1
  refine ⟨v, pg p1 rfl, _, p2, mp_299 (by rw [hd]; exact p2) (by rw [hd]; exact p3) p4 (by omega) hk c1 ?_⟩
  rw [hd]
  exact ⟨_, o1, h2 j cl hj c2⟩
abbrev fq34 : FS := ([], [34], [], false, false)
theorem l_302d {D : ST} {X K : ST → Prop} (hX : ∀ s, Fr fq34 D s → (∀ i, i < 4 → s.2.1 34 i = 0) → X s) : ∀ n k s, k ≤ 4 → 4 - k < n → Fr fq34 D s → (∀ i, i < k → s.2.1 34 i = 0) → w_302_R34_L5 n 0 (nI k) (Int32.ofNat 4) s X K := by
  intro n
  induction n with
  | zero => intro k s _ z; omega
  | succ n ih =>
    intro k s hk hn f hs
    have e20 : Int32.ofNat 4 = nI 4 := rfl
    rw [w_302_R34_L5]
    rw [e20, nI_leI (by omega) (by omega)]
    by_cases c : 4 ≤ k
    · exact br_t c (hX s f (fun i hi => hs i (by omega)))
    refine br_f c ⟨pin_nI (by omega) (by omega), ?_⟩
    rw [nI_clamp (by omega), nI_1]
    refine ih (k + 1) _ (by omega) (by omega) (fr_sA 34 f) ?_
    intro i hi
    show upd (s.2.1 34) k 0 i = 0
    by_cases e : i = k
    · subst e; exact pk_us
    · rw [pk_un e]; exact hs i (by omega)
theorem mp_302d {s : ST} {K : ST → Prop} (k : ∀ s1, Fr fq34 s s1 → (∀ i, i < 4 → s1.2.1 34 i = 0) → K s1) : w_302_R34 0 s K := ⟨5, l_302d k 5 0 s (by omega) (by omega) (fr_rfl _ _) (fun i hi => absurd hi (by omega))⟩
theorem mp_156 {s : ST} {K : ST → Prop} (b1 b2 : Bool) (k : ∀ g, g 0 = s.2.1 34 0 + nI (b01 b1) → g 1 = s.2.1 34 1 + nI (b01 (b1 && b2)) → g 2 = s.2.1 34 2 + 1 → g 3 = s.2.1 34 3 + nI (b01 b2) → K (sA s 34 g)) : w_156 (nI (b01 b1)) (nI (b01 b2)) s K := by
  unfold w_156
  cases b1 <;> cases b2
  · exact ⟨rfl, rfl, rfl, br_t rfl ⟨rfl, rfl, br_t rfl ⟨rfl, rfl, br_t rfl ⟨rfl, k _ rfl rfl rfl rfl⟩⟩⟩⟩
  · exact ⟨rfl, rfl, rfl, br_t rfl ⟨rfl, rfl, br_f (by decide) ⟨rfl, rfl, br_t rfl ⟨rfl, k _ rfl rfl rfl rfl⟩⟩⟩⟩
  · exact ⟨rfl, rfl, rfl, br_f (by decide) ⟨rfl, rfl, br_t rfl ⟨rfl, rfl, br_f (by decide) (br_t rfl ⟨rfl, k _ rfl rfl rfl rfl⟩)⟩⟩⟩
  · exact ⟨rfl, rfl, rfl, br_f (by decide) ⟨rfl, rfl, br_f (by decide) ⟨rfl, rfl, br_f (by decide) (br_f (by decide) ⟨rfl, k _ rfl rfl rfl rfl⟩)⟩⟩⟩
