/-! ===== readings: best, judge ===== -/
def bitI (x set : Int32) : Int32 := (set >>> (x &&& 31)) &&& 1
theorem bit01 (x set : Int32) : bitI x set = 0 ∨ bitI x set = 1 := by
  obtain ⟨j, hj, e⟩ := pk_andE (set >>> (x &&& 31)) (m := 1) 1 rfl
  unfold bitI
  rw [e]
  match j, hj with
  | 0, _ => exact Or.inl rfl
  | 1, _ => exact Or.inr rfl
theorem t_184 {x p : Int32} {s : ST} : (v_184 x p s = 0) ↔ bitI x p = 0 := by
  unfold v_184 bitI
  by_cases c : (p >>> (x &&& 31)) &&& (1 : Int32) = 0
  · rw [if_pos c]; exact ⟨fun _ => c, fun _ => rfl⟩
  · rw [if_neg c]; exact ⟨fun z => absurd z (by decide), fun z => absurd z c⟩
theorem bit1 {x p : Int32} : ((p >>> (x &&& 31)) &&& (1 : Int32) = 1) ↔ ¬ bitI x p = 0 := by
  have h := bit01 x p
  unfold bitI at h ⊢
  rcases h with h | h
  · rw [h]; decide
  · rw [h]; decide
theorem bit0 {x p : Int32} : ((p >>> (x &&& 31)) &&& (1 : Int32) = 0) ↔ bitI x p = 0 := Iff.rfl
def sumS (f : Nat → Int32) (set : Int32) : Nat → Int32
  | 0 => 0
  | k + 1 => sumS f set k + (if bitI (nI k) set = 0 then 0 else f k)
def wo (f : Nat → Int32) (set : Int32) : Nat → Bool
  | 0 => true
  | k + 1 => wo f set k && (decide (bitI (nI k) set = 0) || decide (f k = -1) || !decide (bitI (f k) set = 0))
theorem wo_f {f : Nat → Int32} {set : Int32} {k : Nat} (h : wo f set k = false) : ∀ n, k ≤ n → wo f set n = false := by
  intro n hn
  induction hn with
  | refl => exact h
  | step _ ih => rw [wo, ih]; rfl
theorem i9 {i : Nat} (h : i ≤ 9) : ((9 : Int32) ≤ nI i) ↔ i = 9 := by
  have e : (9 : Int32) = nI 9 := rfl
  rw [e, nI_leI (by omega) (by omega)]
  omega
theorem l_91 {p : Int32} {s : ST} {X26 X22 : ST → Prop} {K : Int32 → ST → Prop} (h1 : wo (s.2.1 26) p 9 = true → X26 s) (h2 : wo (s.2.1 26) p 9 = false → X22 s) : ∀ n i, i ≤ 9 → 9 - i < n → wo (s.2.1 26) p i = true → w_91_L2 n p (nI i) s X26 X22 K := by
  intro n
  induction n with
  | zero => intro i _ h; omega
  | succ n ih =>
    intro i hi hn hw
    rw [w_91_L2]
    by_cases c : i = 9
    · subst c; exact br_t ((i9 (by omega)).mpr rfl) (h1 hw)
    refine br_f (fun z => c ((i9 hi).mp z)) ?_
    have hp : pin (nI i) 9 = true := pin_nI (by omega) (by omega)
    have nx : wo (s.2.1 26) p (i + 1) = true → w_91_L2 n p (nI i + 1) s X26 X22 K := by
      intro z
      rw [nI_1]
      exact ih (i + 1) (by omega) (by omega) z
    have fl : wo (s.2.1 26) p (i + 1) = false → X22 s := fun z => h2 (wo_f z 9 (by omega))
    simp only [e_184, t_184, hp, true_and, nI_clamp (show i < 2 ^ 31 by omega)]
    rw [wo, hw, Bool.true_and] at nx fl
    by_cases a : bitI (nI i) p = 0
    · exact br_t a (nx (by simp [a]))
    refine br_f a ?_
    by_cases b : s.2.1 26 i = -1
    · exact br_t b (nx (by simp [b]))
    refine br_f b ?_
    by_cases d : bitI (s.2.1 26 i) p = 0
    · exact br_f (fun z => z d) (fl (by simp [a, b, d]))
    · exact br_t d (nx (by simp [d]))
theorem sp_91 {p : Int32} {s : ST} {K : Int32 → ST → Prop} (k : K (if wo (s.2.1 26) p 9 = true then 0 else 1) s) : w_91 p s K := by
  unfold w_91
  refine ⟨10, l_91 (fun z => ?_) (fun z => ?_) 10 0 (by omega) (by omega) rfl⟩
  · rw [if_pos z] at k; exact k
  · rw [if_neg (by rw [z]; decide)] at k; exact k
theorem l_93a {p : Int32} {s : ST} {X22 : Int32 → ST → Prop} {K : Int32 → ST → Prop} (h1 : X22 (sumS (s.2.1 25) p 9) s) : ∀ n i, i ≤ 9 → 9 - i < n → w_93_R25_L4 n p (sumS (s.2.1 25) p i) (nI i) s X22 K := by
  intro n
  induction n with
  | zero => intro i _ h; omega
  | succ n ih =>
    intro i hi hn
    rw [w_93_R25_L4]
    by_cases c : i = 9
    · subst c; exact br_t ((i9 (by omega)).mpr rfl) h1
    refine br_f (fun z => c ((i9 hi).mp z)) ?_
    have hp : pin (nI i) 9 = true := pin_nI (by omega) (by omega)
    have nx := ih (i + 1) (by omega) (by omega)
    rw [sumS, ← nI_1] at nx
    simp only [e_184, t_184, hp, true_and, nI_clamp (show i < 2 ^ 31 by omega)]
    by_cases a : bitI (nI i) p = 0
    · rw [if_pos a] at nx; exact br_t a nx
    · rw [if_neg a] at nx; exact br_f a nx
theorem sp_92 {p : Int32} {s : ST} {K : Int32 → ST → Prop} (k : K (sumS (s.2.1 25) p 9) s) : w_92 p s K := by
  unfold w_92 w_93_R25
  exact ⟨10, l_93a k 10 0 (by omega) (by omega)⟩
theorem l_93b {p : Int32} {s : ST} {X22 : Int32 → ST → Prop} {K : Int32 → ST → Prop} (h1 : X22 (sumS (s.2.1 24) p 9) s) : ∀ n i, i ≤ 9 → 9 - i < n → w_93_R24_L4 n p (sumS (s.2.1 24) p i) (nI i) s X22 K := by
  intro n
  induction n with
  | zero => intro i _ h; omega
  | succ n ih =>
    intro i hi hn
    rw [w_93_R24_L4]
    by_cases c : i = 9
    · subst c; exact br_t ((i9 (by omega)).mpr rfl) h1
    refine br_f (fun z => c ((i9 hi).mp z)) ?_
    have hp : pin (nI i) 9 = true := pin_nI (by omega) (by omega)
    have nx := ih (i + 1) (by omega) (by omega)
    rw [sumS, ← nI_1] at nx
    simp only [e_184, t_184, hp, true_and, nI_clamp (show i < 2 ^ 31 by omega)]
    by_cases a : bitI (nI i) p = 0
    · rw [if_pos a] at nx; exact br_t a nx
    · rw [if_neg a] at nx; exact br_f a nx
theorem sp_93 {p : Int32} {s : ST} {K : Int32 → ST → Prop} (k : K (sumS (s.2.1 24) p 9) s) : w_93_R24 p s K := by
  unfold w_93_R24
  exact ⟨10, l_93b k 10 0 (by omega) (by omega)⟩
theorem l_277 {p : Int32} {s : ST} {G : Nat} {X32 X28 : ST → Prop} {K : Int32 → ST → Prop} (hG : s.1 5579 = nI G) (h9 : G ≤ 9) (h1 : wo (s.2.1 117) p G = true → X32 s) (h2 : wo (s.2.1 117) p G = false → X28 s) : ∀ n i, i ≤ G → G - i < n → wo (s.2.1 117) p i = true → w_277_L2 n p (nI i) s X32 X28 K := by
  intro n
  induction n with
  | zero => intro i _ h; omega
  | succ n ih =>
    intro i hi hn hw
    rw [w_277_L2, hG, nI_leI (by omega) (by omega)]
    by_cases c : G ≤ i
    · have : i = G := by omega
      subst this; exact br_t c (h1 hw)
    refine br_f c ?_
    have hp : pin (nI i) 9 = true := pin_nI (by omega) (by omega)
    have nx : wo (s.2.1 117) p (i + 1) = true → w_277_L2 n p (nI i + 1) s X32 X28 K := by
      intro z
      rw [nI_1]
      exact ih (i + 1) (by omega) (by omega) z
    have fl : wo (s.2.1 117) p (i + 1) = false → X28 s := fun z => h2 (wo_f z G (by omega))
    simp only [bit1, bit0, hp, true_and, nI_clamp (show i < 2 ^ 31 by omega)]
    rw [wo, hw, Bool.true_and] at nx fl
    by_cases a : bitI (nI i) p = 0
    · exact br_t (fun z => z a) (nx (by simp [a]))
    refine br_f (fun z => z a) ?_
    by_cases b : s.2.1 117 i = -1
    · exact br_t b (nx (by simp [b]))
    refine br_f b ?_
    by_cases d : bitI (s.2.1 117 i) p = 0
    · exact br_f (fun z => z d) (fl (by simp [a, b, d]))
    · exact br_t d (nx (by simp [d]))
theorem sp_277 {p : Int32} {s : ST} {G : Nat} {K : Int32 → ST → Prop} (hG : s.1 5579 = nI G) (h9 : G ≤ 9) (k : K (if wo (s.2.1 117) p G = true then 1 else 0) s) : w_277 p s K := by
  unfold w_277
  refine ⟨10, l_277 hG h9 (fun z => ?_) (fun z => ?_) 10 0 (by omega) (by omega) rfl⟩
  · rw [if_pos z] at k; exact k
  · rw [if_neg (by rw [z]; decide)] at k; exact k
theorem l_278 {p b : Int32} {s : ST} {G : Nat} {X32 : Int32 → ST → Prop} {K : Int32 → ST → Prop} (hG : s.1 5579 = nI G) (h9 : G ≤ 9) (h1 : X32 (sumS (if b = 0 then s.2.1 116 else s.2.1 115) p G) s) : ∀ n i, i ≤ G → G - i < n → w_278_L4 n p b (sumS (if b = 0 then s.2.1 116 else s.2.1 115) p i) (nI i) s X32 K := by
  intro n
  induction n with
  | zero => intro i _ h; omega
  | succ n ih =>
    intro i hi hn
    rw [w_278_L4, hG, nI_leI (by omega) (by omega)]
    by_cases c : G ≤ i
    · have : i = G := by omega
      subst this; exact br_t c h1
    refine br_f c ?_
    have hp : pin (nI i) 9 = true := pin_nI (by omega) (by omega)
    have nx := ih (i + 1) (by omega) (by omega)
    rw [sumS, ← nI_1] at nx
    simp only [bit0, hp, true_and, nI_clamp (show i < 2 ^ 31 by omega)]
    by_cases a : bitI (nI i) p = 0
    · rw [if_pos a] at nx; exact br_f (fun z => z a) nx
    · rw [if_neg a] at nx
      refine br_t a ?_
      by_cases d : b = 0
      · rw [if_pos d] at nx ⊢; exact br_t d nx
      · rw [if_neg d] at nx ⊢; exact br_f d nx
theorem sp_278 {p b : Int32} {s : ST} {G : Nat} {K : Int32 → ST → Prop} (hG : s.1 5579 = nI G) (h9 : G ≤ 9) (k : K (sumS (if b = 0 then s.2.1 116 else s.2.1 115) p G) s) : w_278 p b s K := by
  unfold w_278
  exact ⟨10, l_278 hG h9 k 10 0 (by omega) (by omega)⟩
/-! a set below 2 ^ G has no bit from G on -/
theorem bit_hi {m G k : Nat} (hm : m < 2 ^ G) (hk : G ≤ k) (h9 : k < 9) : bitI (nI k) (nI m) = 0 := by
  have hs : (((nI k) &&& 31).toBitVec.smod 32).toNat = k := by
    match k, h9 with
    | 0, _ => rfl
    | 1, _ => rfl
    | 2, _ => rfl
    | 3, _ => rfl
    | 4, _ => rfl
    | 5, _ => rfl
    | 6, _ => rfl
    | 7, _ => rfl
    | 8, _ => rfl
    | n + 9, h => omega
  have hb : 2 ^ G ≤ 2 ^ k := Nat.pow_le_pow_right (by omega) hk
  have hc : 2 ^ k ≤ 2 ^ 9 := Nat.pow_le_pow_right (by omega) (by omega)
  unfold bitI
  rw [pk_shrN (by omega) _ k hs, Nat.div_eq_of_lt (by omega)]
  rfl
theorem sumS_eq {f g : Nat → Int32} {G m : Nat} (hm : m < 2 ^ G) (h : ∀ k, k < G → f k = g k) : ∀ n, G ≤ n → n ≤ 9 → sumS f (nI m) n = sumS g (nI m) G := by
  have h0 : ∀ k, k ≤ G → sumS f (nI m) k = sumS g (nI m) k := by
    intro k
    induction k with
    | zero => intro _; rfl
    | succ k ih => intro hk; rw [sumS, sumS, ih (by omega), h k (by omega)]
  intro n hn
  induction hn with
  | refl => intro _; exact h0 G (Nat.le_refl G)
  | step hle ih => intro h9; rw [sumS, bit_hi hm hle (by omega), if_pos rfl, ih (by omega)]; exact Int32.add_zero _
theorem wo_eq {f g : Nat → Int32} {G m : Nat} (hm : m < 2 ^ G) (h : ∀ k, k < G → f k = g k) : ∀ n, G ≤ n → n ≤ 9 → wo f (nI m) n = wo g (nI m) G := by
  have h0 : ∀ k, k ≤ G → wo f (nI m) k = wo g (nI m) k := by
    intro k
    induction k with
    | zero => intro _; rfl
    | succ k ih => intro hk; rw [wo, wo, ih (by omega), h k (by omega)]
  intro n hn
  induction hn with
  | refl => intro _; exact h0 G (Nat.le_refl G)
  | step hle ih => intro h9; rw [wo, bit_hi hm hle (by omega), ih (by omega)]; simp
theorem shl_G {G : Nat} (h : G ≤ 9) : (1 : Int32) <<< (nI G &&& 31) = nI (2 ^ G) := by
  match G, h with
  | 0, _ => rfl
  | 1, _ => rfl
  | 2, _ => rfl
  | 3, _ => rfl
  | 4, _ => rfl
  | 5, _ => rfl
  | 6, _ => rfl
  | 7, _ => rfl
  | 8, _ => rfl
  | 9, _ => rfl
  | n + 10, h => omega
/-! the best set -/
def ok1 (s : ST) (G : Nat) (most x b : Int32) : Bool := wo (s.2.1 117) x G && decide (sumS (s.2.1 115) x G ≤ most) && (decide (0 < sumS (s.2.1 116) x G - sumS (s.2.1 116) b G) || (decide (sumS (s.2.1 116) x G - sumS (s.2.1 116) b G = 0) && !decide (sumS (s.2.1 115) b G ≤ sumS (s.2.1 115) x G)))
def bs (s : ST) (G : Nat) (most : Int32) : Nat → Nat
  | 0 => 0
  | m + 1 => if ok1 s G most (nI (m + 1)) (nI (bs s G most m)) = true then m + 1 else bs s G most m
theorem bs_le {s : ST} {G : Nat} {most : Int32} (m : Nat) : bs s G most m ≤ m := by
  induction m with
  | zero => exact Nat.le_refl 0
  | succ m ih => rw [bs]; split <;> omega
theorem l_279 {p : Int32} {s : ST} {G : Nat} {X : Int32 → ST → Prop} {K : Int32 → ST → Prop} (hG : s.1 5579 = nI G) (h9 : G ≤ 9) (h1 : X (nI (bs s G p (2 ^ G - 1))) s) : ∀ n i, i < 2 ^ G → 2 ^ G - i < n + 1 → w_279_L11 n p (nI (bs s G p i)) (nI (i + 1)) s X K := by
  have hc : 2 ^ G ≤ 2 ^ 9 := Nat.pow_le_pow_right (by omega) (by omega)
  intro n
  induction n with
  | zero => intro i h1 h2; omega
  | succ n ih =>
    intro i hi hn
    rw [w_279_L11, hG, shl_G h9, nI_leI (by omega) (by omega)]
    by_cases c : 2 ^ G ≤ i + 1
    · have e : i = 2 ^ G - 1 := by omega
      subst e; exact br_t c h1
    refine br_f c ?_
    have nx : w_279_L11 n p (nI (bs s G p (i + 1))) (nI (i + 1) + 1) s X K := by
      rw [nI_1]
      exact ih (i + 1) (by omega) (by omega)
    rw [bs] at nx
    unfold ok1 at nx
    refine sp_277 hG h9 ?_
    by_cases a : wo (s.2.1 117) (nI (i + 1)) G = true
    · rw [if_pos a]
      refine br_f (by decide) ?_
      refine sp_278 hG h9 ?_
      rw [if_neg (by decide)]
      rw [a, Bool.true_and] at nx
      by_cases b : sumS (s.2.1 115) (nI (i + 1)) G ≤ p
      · refine br_t b ?_
        refine sp_278 hG h9 ?_
        refine sp_278 hG h9 ?_
        rw [if_pos rfl]
        rw [decide_eq_true b, Bool.true_and] at nx
        by_cases d : 0 < sumS (s.2.1 116) (nI (i + 1)) G - sumS (s.2.1 116) (nI (bs s G p i)) G
        · refine br_t d ?_
          rw [decide_eq_true d, Bool.true_or, if_pos rfl] at nx
          exact nx
        · refine br_f d ?_
          rw [decide_eq_false d, Bool.false_or] at nx
          by_cases e : sumS (s.2.1 116) (nI (i + 1)) G - sumS (s.2.1 116) (nI (bs s G p i)) G = 0
          · refine br_f (fun z => z e) ?_
            rw [decide_eq_true e, Bool.true_and] at nx
            refine sp_278 hG h9 ?_
            refine sp_278 hG h9 ?_
            rw [if_neg (by decide)]
            by_cases f : sumS (s.2.1 115) (nI (bs s G p i)) G ≤ sumS (s.2.1 115) (nI (i + 1)) G
            · refine br_t f ?_
              rw [decide_eq_true f, if_neg (by decide)] at nx
              exact nx
            · refine br_f f ?_
              rw [decide_eq_false f, if_pos (by decide)] at nx
              exact nx
          · refine br_t e ?_
            rw [decide_eq_false e, Bool.false_and, if_neg (by decide)] at nx
            exact nx
      · refine br_f b ?_
        rw [decide_eq_false b, Bool.false_and, if_neg (by decide)] at nx
        exact nx
    · rw [if_neg a]
      refine br_t rfl ?_
      rw [Bool.eq_false_iff.mpr a, Bool.false_and, Bool.false_and, if_neg (by decide)] at nx
      exact nx
theorem l_94 {p : Int32} {s : ST} {G : Nat} {X : Int32 → ST → Prop} {K : Int32 → ST → Prop} (hG : s.1 2300 = nI G) (h9 : G ≤ 9) (h24 : ∀ k, k < G → s.2.1 24 k = s.2.1 115 k) (h25 : ∀ k, k < G → s.2.1 25 k = s.2.1 116 k) (h26 : ∀ k, k < G → s.2.1 26 k = s.2.1 117 k) (h1 : X (nI (bs s G p (2 ^ G - 1))) s) : ∀ n i, i < 2 ^ G → 2 ^ G - i < n + 1 → w_94_L4 n p (nI (bs s G p i)) (nI (i + 1)) s X K := by
  have hc : 2 ^ G ≤ 2 ^ 9 := Nat.pow_le_pow_right (by omega) (by omega)
  intro n
  induction n with
  | zero => intro i h1 h2; omega
  | succ n ih =>
    intro i hi hn
    rw [w_94_L4, w_90, hG, shl_G h9, nI_leI (by omega) (by omega)]
    by_cases c : 2 ^ G ≤ i + 1
    · have e : i = 2 ^ G - 1 := by omega
      subst e; exact br_t c h1
    refine br_f c ?_
    have nx : w_94_L4 n p (nI (bs s G p (i + 1))) (nI (i + 1) + 1) s X K := by
      rw [nI_1]
      exact ih (i + 1) (by omega) (by omega)
    have hb := bs_le (s := s) (G := G) (most := p) i
    have k1 := sumS_eq (m := i + 1) (by omega) h24 9 h9 (by omega)
    have k2 := sumS_eq (m := i + 1) (by omega) h25 9 h9 (by omega)
    have k3 := sumS_eq (m := bs s G p i) (by omega) h24 9 h9 (by omega)
    have k4 := sumS_eq (m := bs s G p i) (by omega) h25 9 h9 (by omega)
    have k5 := wo_eq (m := i + 1) (by omega) h26 9 h9 (by omega)
    rw [bs] at nx
    unfold ok1 at nx
    refine sp_93 ?_
    rw [k1]
    by_cases b : sumS (s.2.1 115) (nI (i + 1)) G ≤ p
    · have b2 : ¬ p < sumS (s.2.1 115) (nI (i + 1)) G := by rw [i_le] at b; rw [i_lt]; omega
      refine br_f b2 ?_
      refine sp_91 ?_
      rw [k5]
      by_cases a : wo (s.2.1 117) (nI (i + 1)) G = true
      · rw [if_pos a]
        refine br_f (by decide) ?_
        rw [a, Bool.true_and, decide_eq_true b, Bool.true_and] at nx
        unfold w_95
        refine sp_92 ?_
        refine sp_92 ?_
        rw [k2, k4]
        by_cases d : 0 < sumS (s.2.1 116) (nI (i + 1)) G - sumS (s.2.1 116) (nI (bs s G p i)) G
        · refine br_t d ?_
          refine br_f (by decide) ?_
          rw [decide_eq_true d, Bool.true_or, if_pos rfl] at nx
          exact nx
        · refine br_f d ?_
          rw [decide_eq_false d, Bool.false_or] at nx
          by_cases e : sumS (s.2.1 116) (nI (i + 1)) G - sumS (s.2.1 116) (nI (bs s G p i)) G = 0
          · refine br_f (fun z => z e) ?_
            rw [decide_eq_true e, Bool.true_and] at nx
            refine sp_93 ?_
            refine sp_93 ?_
            rw [k1, k3]
            by_cases f : sumS (s.2.1 115) (nI (bs s G p i)) G ≤ sumS (s.2.1 115) (nI (i + 1)) G
            · refine br_t f ?_
              refine br_t rfl ?_
              rw [decide_eq_true f, if_neg (by decide)] at nx
              exact nx
            · refine br_f f ?_
              refine br_f (by decide) ?_
              rw [decide_eq_false f, if_pos (by decide)] at nx
              exact nx
          · refine br_t e ?_
            refine br_t rfl ?_
            rw [decide_eq_false e, Bool.false_and, if_neg (by decide)] at nx
            exact nx
      · rw [if_neg a]
        refine br_t (by decide) ?_
        rw [Bool.eq_false_iff.mpr a, Bool.false_and, Bool.false_and, if_neg (by decide)] at nx
        exact nx
    · have b2 : p < sumS (s.2.1 115) (nI (i + 1)) G := by rw [i_le] at b; rw [i_lt]; omega
      refine br_t b2 ?_
      rw [decide_eq_false b, Bool.and_false, Bool.false_and, if_neg (by decide)] at nx
      exact nx
