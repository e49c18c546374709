/-! ===== a sample: which places are drawn ===== -/
def lr (D : ST) (t : Int32) (p : Nat) : Nat := (kL D t).getD p 0
theorem lr_e {D : ST} {t : Int32} {p : Nat} (h : p < (kL D t).length) : lr D t p = (kL D t)[p] := by
  unfold lr
  rw [List.getD_eq_getElem?_getD, List.getElem?_eq_getElem h]
  rfl
def pS (D : ST) (t : Int32) : Nat → Nat
  | 0 => 0
  | k + 1 => pS D t k + smN D t (lr D t k)
def tT (D : ST) (t : Int32) : Nat := pS D t (kL D t).length
theorem pS_le {D : ST} (h : Bk D) {t : Int32} : ∀ k, k ≤ (kL D t).length → pS D t k ≤ 1000000 * k
  | 0, _ => Nat.le_refl 0
  | k + 1, hk => by
    have ih := pS_le h (t := t) k (by omega)
    have r := smI_rng h (t := t) (kL_lt h (show k < (kL D t).length by omega)).1
    rw [pS, lr_e (by omega)]
    have : smN D t (kL D t)[k] ≤ 1000000 := by show (smI D t (kL D t)[k]).toInt.toNat ≤ 1000000; omega
    omega
theorem pS_mono {D : ST} {t : Int32} {j : Nat} : ∀ k, j ≤ k → pS D t j ≤ pS D t k := by
  intro k hk
  induction hk with
  | refl => exact Nat.le_refl _
  | step _ ih => rw [pS]; omega
theorem pS_lt {D : ST} (h : Bk D) {t : Int32} {k : Nat} (hk : k < (kL D t).length) : pS D t k < pS D t (k + 1) := by
  obtain ⟨hx, hxk⟩ := kL_lt h hk
  have r := smI_rng h (t := t) hx
  have n0 : ¬ smI D t (kL D t)[k] = 0 := by
    unfold kp at hxk
    simp at hxk
    exact hxk
  rw [i_eq, l_0] at n0
  rw [pS, lr_e hk]
  have : 0 < smN D t (kL D t)[k] := by show 0 < (smI D t (kL D t)[k]).toInt.toNat; omega
  omega
def plc (g : Nat → Nat) (c : Nat) : Nat → Nat → Nat
  | 0, k => k
  | n + 1, k => if c < g (k + 1) then k else plc g c n (k + 1)
def plT (D : ST) (t : Int32) (c : Nat) : Nat := plc (pS D t) c (kL D t).length 0
theorem plc_lt {D : ST} {t : Int32} {c : Nat} (hc : c < tT D t) : ∀ n k, k + n = (kL D t).length → pS D t k ≤ c → plc (pS D t) c n k < (kL D t).length
  | 0, k, e, h => by
    have : k = (kL D t).length := by omega
    subst this
    unfold tT at hc
    omega
  | n + 1, k, e, h => by
    rw [plc]
    by_cases d : c < pS D t (k + 1)
    · rw [if_pos d]; omega
    · rw [if_neg d]; exact plc_lt hc n (k + 1) (by omega) (by omega)
theorem plT_lt {D : ST} {t : Int32} {c : Nat} (hc : c < tT D t) : plT D t c < (kL D t).length := plc_lt hc _ 0 (by omega) (Nat.zero_le _)
/-! totals -/
theorem sum_l {D : ST} (h : Bk D) {t : Int32} {x : Nat} (hx : x < nR D) : (smI D t x).toInt64 = lN (smN D t x) := by
  have hz := smI_rng h (t := t) hx
  rw [smI_N h hx]
  exact nI_l (by show (smI D t x).toInt.toNat < 2 ^ 31; omega)
theorem l_124 {D s : ST} {t : Int32} {X K : Int32 → ST → Prop} (h : Bk D) (pv : PV D t s) (h1 : X (nI (tT D t)) s) : ∀ n k, k ≤ (kL D t).length → (kL D t).length - k < n → w_124_L4 n (nI (pS D t k)) (nI k) s X K := by
  have h150 := kL_150 h (t := t)
  have hR := (bkR h).2.2
  intro n
  induction n with
  | zero => intro k _ z; omega
  | succ n ih =>
    intro k hk hn
    rw [w_124_L4, pv.2.1, nI_leI (by omega) (by omega)]
    by_cases c : (kL D t).length ≤ k
    · have : k = (kL D t).length := by omega
      subst this
      exact br_t c h1
    refine br_f c ?_
    have hkl : k < (kL D t).length := by omega
    have hx := (kL_lt h hkl).1
    have nx := ih (k + 1) (by omega) (by omega)
    rw [pS, lr_e hkl, ← nI_1 k] at nx
    rw [w_at h pv hkl, w119 (by omega), pv.2.2.2 _ hx, smI_N h hx, nI_add]
    exact nx
theorem mp_124 {D s : ST} {t : Int32} {K : Int32 → ST → Prop} (h : Bk D) (pv : PV D t s) (k : K (nI (tT D t)) s) : w_124 s K := by
  have h150 := kL_150 h (t := t)
  exact ⟨160, l_124 h pv k 160 0 (by omega) (by omega)⟩
theorem l_125 {D s : ST} {t : Int32} {c : Nat} {X27 : Int64 → Int64 → ST → Prop} {X21 : Int64 → Int64 → Int32 → ST → Prop} {K : Int32 → ST → Prop} (h : Bk D) (pv : PV D t s) (hc : c < tT D t) {r : Nat} (h1 : ∀ e, X21 (lN c) e (nI r) s) : ∀ m k, k + m = (kL D t).length → pS D t k ≤ c → plc (pS D t) c m k = r → w_125_L4 (m + 1) (lN c) (lN (pS D t k)) (nI k) s X27 X21 K := by
  have h150 := kL_150 h (t := t)
  have hR := (bkR h).2.2
  intro m
  induction m with
  | zero =>
    intro k hk hp _
    have : k = (kL D t).length := by omega
    subst this
    unfold tT at hc
    omega
  | succ m ih =>
    intro k hk hp hr
    have hkl : k < (kL D t).length := by omega
    have hx := (kL_lt h hkl).1
    have hpl := pS_le h (t := t) (k + 1) (by omega)
    have hcl := pS_le h (t := t) (kL D t).length (Nat.le_refl _)
    have hc2 : c < 2 ^ 40 := by unfold tT at hc; omega
    rw [w_125_L4, pv.2.1, nI_leI (by omega) (by omega)]
    refine br_f (by omega) ?_
    rw [w_at h pv hkl, w119 (by omega), pv.2.2.2 _ hx, sum_l h hx, lN_add]
    have e1 : pS D t k + smN D t (kL D t)[k] = pS D t (k + 1) := by rw [pS, lr_e hkl]
    rw [e1, lg_cmp_ge, pk_lLE (by omega) (by omega), nI_1]
    rw [plc] at hr
    by_cases d : c < pS D t (k + 1)
    · rw [if_pos d] at hr
      subst hr
      exact br_f (by omega) (h1 _)
    · rw [if_neg d] at hr
      exact br_t (by omega) (ih (k + 1) (by omega) (by omega) hr)
theorem mp_125 {D s : ST} {t : Int32} {c : Nat} {K : Int32 → ST → Prop} (h : Bk D) (pv : PV D t s) (hc : c < tT D t) (k : K (nI (lr D t (plT D t c))) s) : w_125 (lN c) s K := by
  unfold w_125
  have hlt := plT_lt hc
  refine ⟨(kL D t).length + 1, l_125 (r := plT D t c) h pv hc ?_ (kL D t).length 0 (by omega) (Nat.zero_le _) rfl⟩
  intro e
  rw [w_at h pv hlt, ← lr_e hlt]
  exact k
theorem l_269p {D s : ST} {t : Int32} {c : Nat} {x1 x3 : Int32} {x4 : Int64} {x6 x7 x8 : Int32} {x9 : Int64} {x11 : Int32} {X : Int32 → Int32 → Int64 → Int32 → Int32 → Int32 → Int64 → Int32 → Int64 → Int32 → ST → Prop} {K : Int32 → ST → Prop} (h : Bk D) (rw0 : RW D t s) (hc : c < tT D t) {r : Nat} (h1 : ∀ e, X x1 x3 x4 x6 x7 x8 x9 x11 e (nI r) s) : ∀ m k, k + m = (kL D t).length → pS D t k ≤ c → plc (pS D t) c m k = r → w_269_L77 (m + 1) x1 x3 x4 x6 x7 x8 x9 x11 (lN (c - pS D t k)) (nI k) s X K := by
  have h150 := kL_150 h (t := t)
  intro m
  induction m with
  | zero =>
    intro k hk hp _
    have : k = (kL D t).length := by omega
    subst this
    unfold tT at hc
    omega
  | succ m ih =>
    intro k hk hp hr
    have hkl : k < (kL D t).length := by omega
    obtain ⟨r1, r2, r3, hx, r5, r6⟩ := rp h rw0 hkl
    have hpl := pS_le h (t := t) (k + 1) (by omega)
    have hcl := pS_le h (t := t) (kL D t).length (Nat.le_refl _)
    have hc2 : c < 2 ^ 40 := by unfold tT at hc; omega
    have e1 : pS D t k + smN D t (kL D t)[k] = pS D t (k + 1) := by rw [pS, lr_e hkl]
    rw [w_269_L77, nI_clamp (show k < 2 ^ 31 by omega), r1, r5, r6, sum_l h hx, lg_cmp_lt, pk_lLT (by omega) (by omega), nI_1]
    refine ⟨r2, r3, ?_⟩
    rw [plc] at hr
    by_cases d : c < pS D t (k + 1)
    · rw [if_pos d] at hr
      subst hr
      exact br_t (by omega) (h1 _)
    · rw [if_neg d] at hr
      refine br_f (by omega) ⟨r2, r3, ?_⟩
      rw [lN_sub (by omega)]
      have e2 : c - pS D t k - smN D t (kL D t)[k] = c - pS D t (k + 1) := by omega
      rw [e2]
      exact ih (k + 1) (by omega) (by omega) hr
/-! the numbers that are drawn -/
def xq (seed : Nat) : Nat → Nat
  | 0 => seed
  | i + 1 => (25173 * xq seed i + 13849) % 65536
theorem xq_lt {seed : Nat} (h : seed < 65536) : ∀ i, xq seed i < 65536
  | 0 => h
  | i + 1 => Nat.mod_lt _ (by omega)
theorem xq_c {seed i : Nat} (h : seed < 65536) : ((25173 : Int32) * nI (xq seed i) + (13849 : Int32)) &&& (65535 : Int32) = nI (xq seed (i + 1)) := by
  have hx := xq_lt h i
  have e1 : (25173 : Int32) = nI 25173 := rfl
  have e2 : (13849 : Int32) = nI 13849 := rfl
  rw [e1, e2, pk_mul, nI_add, pk_andN (by omega) (m := 65535) 16 rfl]
  rfl
theorem xq_r {seed i : Nat} (h : seed < 65536) : ((25173 : Int32) * nI (xq seed i) + (13849 : Int32)) - ((25173 : Int32) * nI (xq seed i) + (13849 : Int32)) / (65536 : Int32) * (65536 : Int32) = nI (xq seed (i + 1)) := by
  have hx := xq_lt h i
  have e1 : (25173 : Int32) = nI 25173 := rfl
  have e2 : (13849 : Int32) = nI 13849 := rfl
  have e3 : (65536 : Int32) = nI 65536 := rfl
  rw [e1, e2, e3, pk_mul, nI_add, pk_rem (by omega) (by omega) (by omega)]
  rfl
def coin (D : ST) (t : Int32) (seed i : Nat) : Nat := xq seed (i + 1) * tT D t / 65536
theorem coin_lt {D : ST} {t : Int32} {seed i : Nat} (h : seed < 65536) (hT : 0 < tT D t) : coin D t seed i < tT D t := by
  have hx := xq_lt h (i + 1)
  unfold coin
  rw [Nat.div_lt_iff_lt_mul (by omega), Nat.mul_comm (tT D t)]
  exact Nat.mul_lt_mul_of_pos_right hx hT
theorem coin_l {D : ST} (h : Bk D) {t : Int32} {seed i : Nat} (hs : seed < 65536) : ((nI (xq seed (i + 1))).toInt64 * lN (tT D t)) / (65536 : Int64) = lN (coin D t seed i) := by
  have hx := xq_lt hs (i + 1)
  have h150 := kL_150 h (t := t)
  have hT := pS_le h (t := t) (kL D t).length (Nat.le_refl _)
  have e3 : (65536 : Int64) = lN 65536 := rfl
  have hm : xq seed (i + 1) * tT D t ≤ 65536 * 150000000 := Nat.mul_le_mul (by omega) (by unfold tT; omega)
  rw [nI_l (by omega), lN_mul, e3, pk_lDiv (by omega) (by omega) (by omega)]
  rfl
def dr (D : ST) (t : Int32) (seed : Nat) : Nat → List Nat
  | 0 => []
  | i + 1 => if plT D t (coin D t seed i) ∈ dr D t seed i then dr D t seed i else dr D t seed i ++ [plT D t (coin D t seed i)]
theorem dr_len {D : ST} {t : Int32} {seed : Nat} : ∀ i, (dr D t seed i).length ≤ i
  | 0 => Nat.le_refl 0
  | i + 1 => by
    have ih := dr_len (D := D) (t := t) (seed := seed) i
    rw [dr]
    split
    · omega
    · rw [List.length_append, List.length_singleton]; omega
theorem dr_lt {D : ST} {t : Int32} {seed : Nat} (h : seed < 65536) (hT : 0 < tT D t) : ∀ i p, p ∈ dr D t seed i → p < (kL D t).length
  | 0, p, hp => absurd hp (List.not_mem_nil)
  | i + 1, p, hp => by
    rw [dr] at hp
    split at hp
    · exact dr_lt h hT i p hp
    · rcases List.mem_append.mp hp with z | z
      · exact dr_lt h hT i p z
      · rw [List.mem_singleton.mp z]; exact plT_lt (coin_lt h hT)
theorem dr_pre {D : ST} {t : Int32} {seed i : Nat} : ∀ n, i ≤ n → ∃ e, dr D t seed n = dr D t seed i ++ e := by
  intro n hn
  induction hn with
  | refl => exact ⟨[], (List.append_nil _).symm⟩
  | step _ ih =>
    obtain ⟨e, he⟩ := ih
    rw [dr]
    split
    · exact ⟨e, he⟩
    · exact ⟨e ++ [_], by rw [he, List.append_assoc]⟩
/-- sums of what is drawn: of findings, and of the others -/
def dsN (D : ST) (t : Int32) (w : Bool) (l : List Nat) : Nat := ((l.filter (fun p => decide (fnd D t (-1) (lr D t p) = w))).map (fun p => smN D t (lr D t p))).sum
theorem dsN_snoc {D : ST} {t : Int32} {w : Bool} {l : List Nat} {p : Nat} : dsN D t w (l ++ [p]) = dsN D t w l + if fnd D t (-1) (lr D t p) = w then smN D t (lr D t p) else 0 := by
  unfold dsN
  rw [List.filter_append, List.map_append, List.sum_append]
  by_cases c : fnd D t (-1) (lr D t p) = w
  · rw [if_pos c, List.filter_cons_of_pos (by simp [c])]; simp
  · rw [if_neg c, List.filter_cons_of_neg (by simp [c])]; simp
