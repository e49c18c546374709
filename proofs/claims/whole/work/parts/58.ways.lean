/-! ===== ways to deal: numbers of choices ===== -/
theorem RW_g {F : FS} {D S s : ST} {t : Int32} (f : Fr F S s) (h : RW D t S) (d : dis F [5520] [72, 73, 74] = true := by rfl) : RW D t s := by
  unfold RW at h ⊢
  rw [f.1 5520 (dis_I d 5520), f.2.1 72 (dis_A d 72), f.2.1 73 (dis_A d 73), f.2.1 74 (dis_A d 74)]
  exact h
theorem VW_g {F : FS} {D S s : ST} {t : Int32} (f1 : Fr F S s) (v : VW D t S) (hs : fsub F fsS = true := by rfl) (d : dis F [800, 801] [9, 10, 11, 12, 13] = true := by rfl) : VW D t s := by
  obtain ⟨q1, q2, q3, q4, q5⟩ := v
  refine ⟨by rw [f1.1 800 (dis_I d 800)]; exact q1, ⟨fr_tr (F := F) hs q2.1 f1, by rw [f1.1 801 (dis_I d 801)]; exact q2.2.1, by rw [f1.2.1 11 (dis_A d 11)]; exact q2.2.2.1, by rw [f1.2.1 9 (dis_A d 9)]; exact q2.2.2.2⟩, by rw [f1.2.1 9 (dis_A d 9)]; exact q3, by rw [f1.2.1 10 (dis_A d 10)]; exact q4, ?_⟩
  intro kk hk
  rw [f1.2.1 12 (dis_A d 12), f1.2.1 13 (dis_A d 13)]
  exact q5 kk hk
def ch : Nat → Nat → Nat
  | _, 0 => 1
  | 0, _ + 1 => 0
  | n + 1, k + 1 => ch n (k + 1) + ch n k
theorem ch_0 : ∀ n, ch n 0 = 1
  | 0 => rfl
  | _ + 1 => rfl
theorem ch_s (n k : Nat) : ch (n + 1) (k + 1) = ch n (k + 1) + ch n k := rfl
theorem ch_z (k : Nat) : ch 0 (k + 1) = 0 := rfl
theorem ch_big : ∀ n k, n < k → ch n k = 0
  | 0, k + 1, _ => rfl
  | n + 1, k + 1, h => by rw [ch_s, ch_big n (k + 1) (by omega), ch_big n k (by omega)]
theorem ch_le : ∀ n k, ch n k ≤ 2 ^ n
  | 0, 0 => Nat.le_refl 1
  | 0, k + 1 => Nat.zero_le _
  | n + 1, 0 => by rw [ch_0]; exact Nat.one_le_two_pow
  | n + 1, k + 1 => by
    have h1 := ch_le n (k + 1)
    have h2 := ch_le n k
    rw [ch_s, Nat.pow_succ]
    omega
theorem ch_mul : ∀ m i, (i + 1) * ch (m + 1) (i + 1) = (m + 1) * ch m i
  | 0, 0 => rfl
  | 0, i + 1 => by rw [ch_s, ch_z, ch_z]; rfl
  | m + 1, 0 => by
    have ih := ch_mul m 0
    rw [ch_0] at ih ⊢
    rw [ch_s, ch_0]
    omega
  | m + 1, i + 1 => by
    have h1 := ch_mul m (i + 1)
    have h2 := ch_mul m i
    rw [ch_s (m + 1) (i + 1), Nat.mul_add, h1, Nat.succ_mul (i + 1) (ch (m + 1) (i + 1)), h2]
    have e : ch (m + 1) (i + 1) = ch m (i + 1) + ch m i := rfl
    rw [Nat.succ_mul (m + 1), ← Nat.add_assoc, ← Nat.mul_add, ← e]
theorem ch_lt {n k : Nat} (h : n ≤ 50) : ch n k < 2 ^ 51 := Nat.lt_of_le_of_lt (ch_le n k) (Nat.lt_of_le_of_lt (Nat.pow_le_pow_right (by omega) h) (by decide))
theorem l_158 {n k : Nat} {s : ST} {X : Int64 → ST → Prop} {K : Int64 → ST → Prop} (hn : n ≤ 50) (hk : k ≤ n) (hX : X (lN (ch n k)) s) : ∀ m i, i + m = k → w_158_L9 (m + 1) (nI n) (nI k) (lN (ch (n - k + i) i)) (nI (i + 1)) s X K := by
  intro m
  induction m with
  | zero =>
    intro i hi
    have : i = k := by omega
    subst this
    rw [w_158_L9, nI_ltI (by omega) (by omega)]
    refine br_t (by omega) ?_
    rw [show n - i + i = n by omega]
    exact hX
  | succ m ih =>
    intro i hi
    rw [w_158_L9, nI_ltI (by omega) (by omega)]
    refine br_f (by omega) ?_
    have h1 := ih (i + 1) (by omega)
    rw [← nI_1 (i + 1)] at h1
    have hm := ch_mul (n - k + i) i
    have hl : ch (n - k + i) i < 2 ^ 51 := ch_lt (by omega)
    have hb : ch (n - k + i) i * (n - k + (i + 1)) ≤ 2 ^ 51 * 64 := Nat.mul_le_mul (by omega) (by omega)
    rw [pk_sub hk, nI_add, nI_l (by omega), nI_l (by omega), lN_mul, pk_lDiv (by omega) (by omega) (by omega)]
    refine ⟨?_, ?_⟩
    · intro z
      have e0 : (0 : Int64) = lN 0 := rfl
      rw [e0, pk_lEQ (by omega) (by omega)] at z
      omega
    · have e : ch (n - k + i) i * (n - k + (i + 1)) / (i + 1) = ch (n - k + (i + 1)) (i + 1) := by
        rw [Nat.mul_comm, ← Nat.add_assoc, ← hm, Nat.mul_div_cancel_left _ (by omega)]
      rw [e]
      exact h1
theorem mp_158 {n k : Nat} {s : ST} {K : Int64 → ST → Prop} (hn : n ≤ 50) (hk : k ≤ 50) (h : K (lN (ch n k)) s) : w_158 (nI n) (nI k) s K := by
  unfold w_158
  rw [nI_leI (by omega) (by omega)]
  by_cases c : k ≤ n
  · refine br_t c ⟨k + 1, ?_⟩
    have := l_158 (X := fun y2 s1 => K y2 s1) (K := K) hn c h k 0 (by omega)
    rw [ch_0] at this
    exact this
  · refine br_f c ?_
    rw [ch_big n k (by omega)] at h
    exact h
abbrev fq107 : FS := ([], [], [107], false, false)
theorem ix51 {n k : Nat} : (51 : Int32) * nI n + nI k = nI (51 * n + k) := by
  show nI 51 * nI n + nI k = _
  rw [pk_mul, nI_add]
theorem l_259c {S0 : ST} {n : Nat} {X : Int32 → ST → Prop} {K : ST → Prop} (hn : n ≤ 50) (hX : ∀ s, Fr fq107 S0 s → (∀ a b, a ≤ n → b ≤ 50 → s.2.2.1 107 (51 * a + b) = lN (ch a b)) → X (nI n) s) : ∀ m k s, k + m = 51 → Fr fq107 S0 s → (∀ a b, b ≤ 50 → (a < n ∨ (a = n ∧ b < k)) → s.2.2.1 107 (51 * a + b) = lN (ch a b)) → w_259_L7 (m + 1) (nI n) (nI k) s X K := by
  intro m
  induction m with
  | zero =>
    intro k s hk f hs
    have e50 : (50 : Int32) = nI 50 := rfl
    rw [w_259_L7, e50, nI_ltI (by omega) (by omega)]
    exact br_t (by omega) (hX s f (fun a b ha hb => hs a b hb (by omega)))
  | succ m ih =>
    intro k s hk f hs
    have e50 : (50 : Int32) = nI 50 := rfl
    rw [w_259_L7, e50, nI_ltI (by omega) (by omega)]
    refine br_f (by omega) ?_
    have nx : ∀ v, v = lN (ch n k) → w_259_L7 (m + 1) (nI n) (nI k + 1) (sL s 107 (vp_updL (s.2.2.1 107) (51 * n + k) v)) X K := by
      intro v hv
      rw [nI_1]
      refine ih (k + 1) _ (by omega) (fr_sL 107 f) ?_
      intro a b hb hab
      show vp_updL (s.2.2.1 107) (51 * n + k) v (51 * a + b) = _
      rw [updL_ap]
      by_cases e : 51 * a + b = 51 * n + k
      · have e1 : a = n := by omega
        have e2 : b = k := by omega
        rw [if_pos e, hv, e1, e2]
      · rw [if_neg e]
        exact hs a b hb (by omega)
    have pw : pin (nI (51 * n + k)) 2601 = true := pin_nI (by omega) (by omega)
    rw [ix51, nI_clamp (show 51 * n + k < 2 ^ 31 by omega)]
    match k, hk, hs, nx, pw with
    | 0, _, hs, nx, pw =>
      refine br_f (fun z => z rfl) ⟨pw, nx 1 ?_⟩
      rw [ch_0]; rfl
    | k + 1, hk, hs, nx, pw =>
      refine br_t (nI_ne0 (by omega) (by omega)) ?_
      match n, hn, hs, nx, pw with
      | 0, _, hs, nx, pw => exact br_f (fun z => z rfl) ⟨pw, nx 0 rfl⟩
      | n + 1, hn, hs, nx, pw =>
        refine br_t (nI_ne0 (by omega) (by omega)) ?_
        have e1 : (51 : Int32) * (nI (n + 1) - 1) + nI (k + 1) = nI (51 * n + (k + 1)) := by rw [nI_pred, ix51]
        have e2 : nI (51 * n + (k + 1)) - 1 = nI (51 * n + k) := by rw [← Nat.add_assoc, nI_pred]
        rw [e1, e2, nI_clamp (show 51 * n + (k + 1) < 2 ^ 31 by omega), nI_clamp (show 51 * n + k < 2 ^ 31 by omega)]
        refine ⟨pin_nI (by omega) (by omega), pin_nI (by omega) (by omega), pw, nx _ ?_⟩
        rw [hs n (k + 1) (by omega) (by omega), hs n k (by omega) (by omega), lN_add]
        rfl
theorem l_259 {S0 : ST} {X K : ST → Prop} (hX : ∀ s, Fr fq107 S0 s → (∀ a b, a ≤ 50 → b ≤ 50 → s.2.2.1 107 (51 * a + b) = lN (ch a b)) → X s) : ∀ m n s, n + m = 51 → Fr fq107 S0 s → (∀ a b, a < n → b ≤ 50 → s.2.2.1 107 (51 * a + b) = lN (ch a b)) → w_259_L2 (m + 1) (nI n) s X K := by
  intro m
  induction m with
  | zero =>
    intro n s hn f hs
    have e50 : (50 : Int32) = nI 50 := rfl
    rw [w_259_L2, e50, nI_ltI (by omega) (by omega)]
    exact br_t (by omega) (hX s f (fun a b ha hb => hs a b (by omega) hb))
  | succ m ih =>
    intro n s hn f hs
    have e50 : (50 : Int32) = nI 50 := rfl
    rw [w_259_L2, e50, nI_ltI (by omega) (by omega)]
    refine br_f (by omega) ⟨52, ?_⟩
    refine l_259c (S0 := s) (n := n) (by omega) ?_ 51 0 s (by omega) (fr_rfl _ _) (fun a b hb hab => hs a b (by omega) hb)
    intro s1 f1 h1
    rw [nI_1]
    exact ih (n + 1) s1 (by omega) (fr_tr (F := fq107) rfl f f1) (fun a b ha hb => h1 a b (by omega) hb)
theorem mp_259 {s : ST} {K : ST → Prop} (k : ∀ s1, Fr fq107 s s1 → (∀ a b, a ≤ 50 → b ≤ 50 → s1.2.2.1 107 (51 * a + b) = lN (ch a b)) → K s1) : w_259 s K := ⟨52, l_259 k 51 0 s (by omega) (fr_rfl _ _) (fun a b ha => absurd ha (by omega))⟩
/-! the ways to deal at least so many marked rows -/
def wS (O A M : Nat) : Nat → Nat → Int64 → Int64
  | 0, _, a => a
  | n + 1, x, a => wS O A M n (x + 1) (a + lN (ch M x) * lN (ch (A - M) (O - x)))
def wT (O P A M : Nat) : Int64 := wS O A M (O + 1 - P) P 0
theorem l_157 {O A M : Nat} {s : ST} {X : Int64 → ST → Prop} {K : Int64 → ST → Prop} {r : Int64} (h0 : s.2.1 34 0 = nI O) (h3 : s.2.1 34 3 = nI M) (hO : O ≤ 50) (hA : A ≤ 50) (hM : M ≤ A) (hX : X r s) : ∀ m x a, x + m = O + 1 → wS O A M m x a = r → w_157_L17 (m + 1) a (nI (A - M)) (nI x) s X K := by
  intro m
  induction m with
  | zero =>
    intro x a hx hr
    rw [w_157_L17]
    refine ⟨rfl, ?_⟩
    show (s.2.1 34 0 < nI x → _) ∧ (¬ s.2.1 34 0 < nI x → _)
    rw [h0, nI_ltI (by omega) (by omega)]
    refine br_t (by omega) ?_
    subst hr
    exact hX
  | succ m ih =>
    intro x a hx hr
    rw [w_157_L17]
    refine ⟨rfl, ?_⟩
    show (s.2.1 34 0 < nI x → _) ∧ (¬ s.2.1 34 0 < nI x → pin 3 4 = true ∧ w_158 (s.2.1 34 3) (nI x) s _)
    rw [h0, h3, nI_ltI (by omega) (by omega)]
    refine br_f (by omega) ⟨rfl, mp_158 (by omega) (by omega) ⟨rfl, ?_⟩⟩
    show w_158 (nI (A - M)) (s.2.1 34 0 - nI x) s _
    rw [h0, pk_sub (by omega)]
    refine mp_158 (by omega) (by omega) ?_
    rw [nI_1]
    exact ih (x + 1) _ (by omega) hr
theorem mp_157 {O P A M : Nat} {s : ST} {K : Int64 → ST → Prop} (h0 : s.2.1 34 0 = nI O) (h1 : s.2.1 34 1 = nI P) (h2 : s.2.1 34 2 = nI A) (h3 : s.2.1 34 3 = nI M) (hP : P ≤ O) (hO : O ≤ 50) (hA : A ≤ 50) (hM : M ≤ A) (k : K (wT O P A M) s) : w_157 s K := by
  unfold w_157
  refine ⟨rfl, rfl, rfl, O + 1 - P + 1, ?_⟩
  show w_157_L17 _ 0 (s.2.1 34 2 - s.2.1 34 3) (s.2.1 34 1) s _ _
  rw [h1, h2, h3, pk_sub hM]
  exact l_157 h0 h3 hO hA hM k (O + 1 - P) P 0 (by omega) rfl
theorem l_261 {O A M : Nat} {s : ST} {X : Int64 → ST → Prop} {K : Int64 → ST → Prop} {r : Int64} (h0 : s.1 5573 = nI O) (h2 : s.1 5571 = nI A) (h3 : s.1 5572 = nI M) (hc : ∀ a b, a ≤ 50 → b ≤ 50 → s.2.2.1 107 (51 * a + b) = lN (ch a b)) (hO : O ≤ 50) (hA : A ≤ 50) (hM : M ≤ A) (hX : X r s) : ∀ m x a, x + m = O + 1 → wS O A M m x a = r → w_261_L7 (m + 1) a (nI x) s X K := by
  intro m
  induction m with
  | zero =>
    intro x a hx hr
    rw [w_261_L7, h0, nI_ltI (by omega) (by omega)]
    refine br_t (by omega) ?_
    subst hr
    exact hX
  | succ m ih =>
    intro x a hx hr
    rw [w_261_L7, h0, h2, h3, nI_ltI (by omega) (by omega), ix51, pk_sub hM, ix51, pk_sub (by omega), nI_clamp (by omega), nI_clamp (by omega)]
    refine br_f (by omega) ⟨pin_nI (by omega) (by omega), pin_nI (by omega) (by omega), ?_⟩
    have e : 51 * (A - M) + O - x = 51 * (A - M) + (O - x) := by omega
    rw [e, hc M x (by omega) (by omega), hc (A - M) (O - x) (by omega) (by omega), nI_1]
    exact ih (x + 1) _ (by omega) hr
theorem mp_261 {O P A M : Nat} {s : ST} {K : Int64 → ST → Prop} (h0 : s.1 5573 = nI O) (h1 : s.1 5574 = nI P) (h2 : s.1 5571 = nI A) (h3 : s.1 5572 = nI M) (hP : P ≤ O) (hO : O ≤ 50) (hA : A ≤ 50) (hM : M ≤ A) (k : ∀ s1, Fr fq107 s s1 → (∀ a b, a ≤ 50 → b ≤ 50 → s1.2.2.1 107 (51 * a + b) = lN (ch a b)) → K (wT O P A M) s1) : w_261 s K := by
  unfold w_261
  refine mp_259 (fun s1 f1 hc => ⟨O + 1 - P + 1, ?_⟩)
  rw [f1.1 5574 rfl, h1]
  exact l_261 (by rw [f1.1 5573 rfl]; exact h0) (by rw [f1.1 5571 rfl]; exact h2) (by rw [f1.1 5572 rfl]; exact h3) hc hO hA hM (k s1 f1 hc) (O + 1 - P) P 0 (by omega) rfl
