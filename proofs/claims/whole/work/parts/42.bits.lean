/-! ===== parted; printed by wip/whole/genparted.py ===== -/
def pcR (x : Int32) : Nat → Int32
  | 0 => 0
  | k + 1 => pcR x k + bitI (nI k) x
def pcN : Nat → Nat → Nat
  | 0, _ => 0
  | k + 1, m => pcN k m + (m / 2 ^ k) % 2
def pcChk (m : Nat) : Bool := decide (v_283 (nI m) s00 = nI (pcN 12 m)) && decide (pcR (nI m) 30 = nI (pcN 12 m)) && (List.range 13).all (fun n => decide (2 ^ n ≤ m) || decide (pcN 12 m ≤ n)) && decide (pcN 12 m < 13)
theorem pcChk_all : (List.range 64).all (fun a => (List.range 64).all (fun b => pcChk (64 * a + b))) = true := by decide +kernel
theorem pc_ok {m : Nat} (h : m < 4096) (s : ST) : v_283 (nI m) s = nI (pcN 12 m) ∧ pcR (nI m) 30 = nI (pcN 12 m) ∧ (∀ n, n < 13 → m < 2 ^ n → pcN 12 m ≤ n) ∧ pcN 12 m < 13 := by
  have h1 := List.all_eq_true.mp pcChk_all (m / 64) (List.mem_range.mpr (by omega))
  have h2 := List.all_eq_true.mp h1 (m % 64) (List.mem_range.mpr (by omega))
  have e : 64 * (m / 64) + m % 64 = m := by omega
  rw [e] at h2
  unfold pcChk at h2
  simp only [Bool.and_eq_true, decide_eq_true_eq] at h2
  obtain ⟨⟨⟨a1, a2⟩, a3⟩, a4⟩ := h2
  refine ⟨a1, a2, ?_, a4⟩
  intro n hn hm
  have a5 := List.all_eq_true.mp a3 n (List.mem_range.mpr hn)
  rw [Bool.or_eq_true, decide_eq_true_eq, decide_eq_true_eq] at a5
  omega
theorem l_244 {p : Int32} {s : ST} {X K : Int32 → ST → Prop} (h1 : X (pcR p 30) s) : ∀ n k, k ≤ 30 → 30 - k < n → w_244_L4 n p (pcR p k) (nI k) s X K := by
  intro n
  induction n with
  | zero => intro k _ z; omega
  | succ n ih =>
    intro k hk hn
    rw [w_244_L4]
    have e30 : (30 : Int32) = nI 30 := rfl
    rw [e30, nI_leI (by omega) (by omega)]
    by_cases c : 30 ≤ k
    · have : k = 30 := by omega
      subst this
      exact br_t c h1
    refine br_f c ?_
    have nx := ih (k + 1) (by omega) (by omega)
    rw [pcR, ← nI_1] at nx
    exact nx
theorem mp_244 {p : Int32} {s : ST} {K : Int32 → ST → Prop} (k : K (pcR p 30) s) : w_244 p s K := ⟨31, l_244 k 31 0 (by omega) (by omega)⟩
