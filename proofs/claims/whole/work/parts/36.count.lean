/-! ===== the class counts a day's rows ===== -/
theorem mp_116 {s : ST} {x : Nat} {tm : Int32} {K : ST → Prop} (h : Bk s) (hx : x < nR s) (k1 : gN s x < 40 → K (sA (sA s 14 (upd (s.2.1 14) (hN s x) (s.2.1 14 (hN s x) + tm))) 15 (upd (s.2.1 15) (gN s x) (s.2.1 15 (gN s x) + tm * s.2.1 9 x)))) (k2 : ¬ gN s x < 40 → K (sA s 14 (upd (s.2.1 14) (hN s x) (s.2.1 14 (hN s x) + tm)))) : w_116 (nI x) tm s K := by
  have hR := (bkR h).2.2
  obtain ⟨e1, e2⟩ := hN_ok h hx
  have q6 : s.2.1 3 (11 * x + 6) = s.2.1 63 x := (h.2.2.1.2.2.2 x hx).1.2.2.2.2.2.2.1
  rw [w_116, c9 (c := 6) (x := 6) h hx (by omega) rfl, q6, e1]
  simp only [e_181, t_181, Int32.reduceToInt]
  rw [nI_toInt (by omega)]
  refine br_f (fun z => z (by omega)) ⟨pin_nI e2 (by omega), pin_nI e2 (by omega), ?_⟩
  rw [nI_clamp (by omega)]
  have f1 : Fr fsS s (sA s 14 (upd (s.2.1 14) (hN s x) (s.2.1 14 (hN s x) + tm))) := fr_sA 14 (fr_rfl _ _)
  have hB1 := Bk_S f1 h
  have g2 := (gN_ok hB1 (x := x) (by rw [nR_S f1]; exact hx))
  have eg : gN (sA s 14 (upd (s.2.1 14) (hN s x) (s.2.1 14 (hN s x) + tm))) x = gN s x := rfl
  rw [eg] at g2
  rw [g2.2]
  have e40 : ((Int32.ofNat 40) - (1 : Int32)).toInt = 39 := by decide
  rw [e40]
  by_cases c : gN s x < 40
  · rw [if_pos c, nI_toInt (by omega)]
    refine br_f (fun z => z (by omega)) ⟨pin_nI c (by omega), ?_⟩
    rw [w119 (by omega), nI_clamp (by omega)]
    exact ⟨pin_nI c (by omega), k1 c⟩
  · rw [if_neg c, l_m1]
    exact br_t (by omega) (k2 c)
def seg (L : List Nat) (a p : Nat) : List Nat := (L.drop a).take (p - a)
theorem seg_self {L : List Nat} {a : Nat} : seg L a a = [] := by
  unfold seg
  rw [Nat.sub_self, List.take_zero]
theorem seg_snoc {L : List Nat} {a p : Nat} (h : a ≤ p) (hp : p < L.length) : seg L a (p + 1) = seg L a p ++ [L[p]] := by
  unfold seg
  have e : p + 1 - a = (p - a) + 1 := by omega
  have hl : p - a < (L.drop a).length := by rw [List.length_drop]; omega
  rw [e, List.take_succ_eq_append_getElem hl, List.getElem_drop]
  have e2 : a + (p - a) = p := by omega
  simp only [e2]
theorem seg_cons {L : List Nat} {p b : Nat} (hp : p < L.length) (hb : p < b) : seg L p b = L[p] :: seg L (p + 1) b := by
  unfold seg
  have e : b - p = (b - (p + 1)) + 1 := by omega
  rw [e, List.drop_eq_getElem_cons hp, List.take_succ_cons]
abbrev fqB : FS := ([], [12, 13, 14, 15], [], false, false)
/-- the view stands: its list, and its sums -/
def PV (D : ST) (t : Int32) (s : ST) : Prop := Fr fsS D s ∧ s.1 801 = nI (kL D t).length ∧ AL (s.2.1 11) (kL D t) ∧ (∀ j, j < nR D → s.2.1 9 j = smI D t j)
theorem PV_B {D S s : ST} {t : Int32} (h : PV D t S) (f : Fr fqB S s) : PV D t s := by
  refine ⟨fr_tr (F := fqB) rfl h.1 f, ?_, ?_, ?_⟩
  · rw [f.1 801 rfl]; exact h.2.1
  · rw [f.2.1 11 rfl]; exact h.2.2.1
  · rw [f.2.1 9 rfl]; exact h.2.2.2
theorem kL_lt {D : ST} (h : Bk D) {t : Int32} {k : Nat} (hk : k < (kL D t).length) : (kL D t)[k] < nR D ∧ kp D t (kL D t)[k] = true := kLn_mem.mp (List.getElem_mem hk)
theorem kL_150 {D : ST} (h : Bk D) {t : Int32} : (kL D t).length ≤ 150 := by
  have h1 := kLn_len D t (nR D)
  have h2 := (bkR h).2.2
  unfold kL
  omega
theorem hN_S {D s : ST} (f : Fr fsS D s) : hN s = hN D := by
  funext x
  unfold hN
  rw [f.2.1 63 rfl]
theorem gN_S {D s : ST} (f : Fr fsS D s) : gN s = gN D := by
  funext x
  unfold gN
  rw [f.2.1 57 rfl, f.2.1 59 rfl]
theorem smI_N {D : ST} (h : Bk D) {t : Int32} {x : Nat} (hx : x < nR D) : smI D t x = nI (smN D t x) := nI_nat (smI_rng h hx).1
theorem l_115a {D S : ST} {t : Int32} {a b : Nat} {X : Int32 → Int32 → ST → Prop} {K : ST → Prop} (h : Bk D) (hS : PV D t S) (hab : a ≤ b) (hb : b ≤ (kL D t).length) (hX : ∀ s, Fr fqB S s → (∀ k, k < 16 → s.2.1 14 k = nI (cntH D (seg (kL D t) a b) k)) → (∀ g, g < 40 → s.2.1 15 g = nI (sumG D t (seg (kL D t) a b) g)) → s.2.1 12 = S.2.1 12 → s.2.1 13 = S.2.1 13 → X (nI a) (nI b) s) : ∀ n p s, a ≤ p → p ≤ b → b - p < n → Fr fqB S s → (∀ k, k < 16 → s.2.1 14 k = nI (cntH D (seg (kL D t) a p) k)) → (∀ g, g < 40 → s.2.1 15 g = nI (sumG D t (seg (kL D t) a p) g)) → s.2.1 12 = S.2.1 12 → s.2.1 13 = S.2.1 13 → w_115_L2 n (nI a) (nI b) (nI p) s X K := by
  have h150 := kL_150 h (t := t)
  intro n
  induction n with
  | zero => intro p s _ _ z; omega
  | succ n ih =>
    intro p s hap hp hn f i14 i15 i12 i13
    have pv := PV_B hS f
    have hB := Bk_S pv.1 h
    rw [w_115_L2, nI_leI (by omega) (by omega)]
    by_cases c : b ≤ p
    · have e : p = b := by omega
      subst e
      exact br_t c (hX s f i14 i15 i12 i13)
    refine br_f c ?_
    have hpl : p < (kL D t).length := by omega
    rw [w123 pv.2.1 pv.2.2.1 h150 hpl]
    obtain ⟨hxR, _⟩ := kL_lt h hpl
    have sn := seg_snoc (L := kL D t) hap hpl
    generalize (kL D t)[p] = x at hxR sn
    have ehN : hN s x = hN D x := by rw [hN_S pv.1]
    have egN : gN s x = gN D x := by rw [gN_S pv.1]
    have e9 : s.2.1 9 x = nI (smN D t x) := by rw [pv.2.2.2 x hxR, smI_N h hxR]
    have j14 : ∀ k, k < 16 → upd (s.2.1 14) (hN D x) (s.2.1 14 (hN D x) + 1) k = nI (cntH D (seg (kL D t) a (p + 1)) k) := by
      intro k hk
      rw [sn, cntH_snoc, upd_ap]
      by_cases e : k = hN D x
      · subst e
        rw [if_pos rfl, if_pos rfl, i14 _ hk, nI_1]
      · rw [if_neg e, if_neg (fun z => e z.symm), i14 _ hk, Nat.add_zero]
    refine mp_116 hB (by rw [nR_S pv.1]; exact hxR) (fun g => ?_) (fun g => ?_)
    · rw [ehN, egN, nI_1]
      rw [egN] at g
      refine ih (p + 1) _ (by omega) (by omega) (by omega) (fr_sA 15 (fr_sA 14 f)) j14 ?_ i12 i13
      intro k hk
      show upd (s.2.1 15) (gN D x) (s.2.1 15 (gN D x) + 1 * s.2.1 9 x) k = _
      rw [sn, sumG_snoc, upd_ap]
      by_cases e : k = gN D x
      · subst e
        rw [if_pos rfl, if_pos rfl, i15 _ hk, e9, Int32.one_mul, nI_add]
      · rw [if_neg e, if_neg (fun z => e z.symm), i15 _ hk, Nat.add_zero]
    · rw [ehN, nI_1]
      rw [egN] at g
      refine ih (p + 1) _ (by omega) (by omega) (by omega) (fr_sA 14 f) j14 ?_ i12 i13
      intro k hk
      show s.2.1 15 k = _
      rw [sn, sumG_snoc, if_neg (fun z => g (by omega)), Nat.add_zero]
      exact i15 k hk
def tvI (D : ST) (t : Int32) (S : List Nat) (x : Nat) : Int32 := if gN D x < 40 then nI (sumG D t S (gN D x)) else 0
theorem l_115b {D S : ST} {t : Int32} {a b : Nat} {X : Int32 → Int32 → ST → Prop} {K : ST → Prop} (h : Bk D) (hS : PV D t S) (hab : a ≤ b) (hb : b ≤ (kL D t).length) (s14 : ∀ k, k < 16 → S.2.1 14 k = nI (cntH D (seg (kL D t) a b) k)) (s15 : ∀ g, g < 40 → S.2.1 15 g = nI (sumG D t (seg (kL D t) a b) g)) (hX : ∀ s, Fr fqB S s → s.2.1 14 = S.2.1 14 → s.2.1 15 = S.2.1 15 → (∀ k (hk : k < (kL D t).length), a ≤ k → k < b → s.2.1 12 (kL D t)[k] = nI (cntH D (seg (kL D t) a b) (hN D (kL D t)[k])) ∧ s.2.1 13 (kL D t)[k] = tvI D t (seg (kL D t) a b) (kL D t)[k]) → (∀ k (hk : k < (kL D t).length), k < a → s.2.1 12 (kL D t)[k] = S.2.1 12 (kL D t)[k] ∧ s.2.1 13 (kL D t)[k] = S.2.1 13 (kL D t)[k]) → X (nI a) (nI b) s) : ∀ n p s, a ≤ p → p ≤ b → b - p < n → Fr fqB S s → s.2.1 14 = S.2.1 14 → s.2.1 15 = S.2.1 15 → (∀ k (hk : k < (kL D t).length), a ≤ k → k < p → s.2.1 12 (kL D t)[k] = nI (cntH D (seg (kL D t) a b) (hN D (kL D t)[k])) ∧ s.2.1 13 (kL D t)[k] = tvI D t (seg (kL D t) a b) (kL D t)[k]) → (∀ k (hk : k < (kL D t).length), k < a → s.2.1 12 (kL D t)[k] = S.2.1 12 (kL D t)[k] ∧ s.2.1 13 (kL D t)[k] = S.2.1 13 (kL D t)[k]) → w_115_L15 n (nI a) (nI b) (nI p) s X K := by
  have h150 := kL_150 h (t := t)
  have hR := (bkR h).2.2
  intro n
  induction n with
  | zero => intro p s _ _ z; omega
  | succ n ih =>
    intro p s hap hp hn f i14 i15 i12 i13
    have pv := PV_B hS f
    have hB := Bk_S pv.1 h
    rw [w_115_L15, nI_leI (by omega) (by omega)]
    by_cases c : b ≤ p
    · have e : p = b := by omega
      subst e
      exact br_t c (hX s f i14 i15 i12 i13)
    refine br_f c ?_
    have hpl : p < (kL D t).length := by omega
    rw [w123 pv.2.1 pv.2.2.1 h150 hpl]
    obtain ⟨hxR, hxk⟩ := kL_lt h hpl
    have inj : ∀ k (hk : k < (kL D t).length), k ≠ p → (kL D t)[k] ≠ (kL D t)[p] := fun k hk ne z => ne (nd_inj (kLn_nd D t _) hk hpl z)
    have i12p : ∀ y1 y2 : Int32, y1 = nI (cntH D (seg (kL D t) a b) (hN D (kL D t)[p])) → y2 = tvI D t (seg (kL D t) a b) (kL D t)[p] → ∀ k (hk : k < (kL D t).length), a ≤ k → k < p + 1 → upd (s.2.1 12) (kL D t)[p] y1 (kL D t)[k] = nI (cntH D (seg (kL D t) a b) (hN D (kL D t)[k])) ∧ upd (s.2.1 13) (kL D t)[p] y2 (kL D t)[k] = tvI D t (seg (kL D t) a b) (kL D t)[k] := by
      intro y1 y2 h1 h2 k hk hak hkp
      by_cases e : k = p
      · subst e
        rw [pk_us, pk_us]
        exact ⟨h1, h2⟩
      · rw [pk_un (inj k hk e), pk_un (inj k hk e)]
        exact i12 k hk hak (by omega)
    have i13p : ∀ y1 y2 : Int32, ∀ k (hk : k < (kL D t).length), k < a → upd (s.2.1 12) (kL D t)[p] y1 (kL D t)[k] = S.2.1 12 (kL D t)[k] ∧ upd (s.2.1 13) (kL D t)[p] y2 (kL D t)[k] = S.2.1 13 (kL D t)[k] := by
      intro y1 y2 k hk hka
      rw [pk_un (inj k hk (by omega)), pk_un (inj k hk (by omega))]
      exact i13 k hk hka
    have hxs : (kL D t)[p] < nR s := by rw [nR_S pv.1]; exact hxR
    obtain ⟨e1, e2⟩ := hN_ok hB hxs
    have q6 : s.2.1 3 (11 * (kL D t)[p] + 6) = s.2.1 63 (kL D t)[p] := (hB.2.2.1.2.2.2 _ hxs).1.2.2.2.2.2.2.1
    have g2 := gN_ok hB hxs
    have ehN : hN s (kL D t)[p] = hN D (kL D t)[p] := by rw [hN_S pv.1]
    have egN : gN s (kL D t)[p] = gN D (kL D t)[p] := by rw [gN_S pv.1]
    rw [c9 (c := 6) (x := 6) hB hxs (by omega) rfl, q6, e1, g2.2, w118 (by omega)]
    have e9 : s.2.1 9 (kL D t)[p] = smI D t (kL D t)[p] := pv.2.2.2 _ hxR
    rw [e9, if_neg (fun z => (kp_le h hxR).mp z hxk)]
    refine br_f (by decide) ?_
    simp only [e_181, t_181, Int32.reduceToInt]
    rw [nI_toInt (show hN s (kL D t)[p] < 2 ^ 31 by omega)]
    have e40 : ((Int32.ofNat 40) - (1 : Int32)).toInt = 39 := by decide
    rw [e40, nI_clamp (show hN s (kL D t)[p] < 2 ^ 31 by omega), nI_clamp (show (kL D t)[p] < 2 ^ 31 by omega)]
    have px : pin (nI (kL D t)[p]) 150 = true := pin_nI (by omega) (by omega)
    refine br_f (fun z => z (by omega)) ⟨pin_nI e2 (by omega), px, ?_⟩
    have y1 : s.2.1 14 (hN s (kL D t)[p]) = nI (cntH D (seg (kL D t) a b) (hN D (kL D t)[p])) := by
      rw [i14, ehN]
      rw [ehN] at e2
      exact s14 _ e2
    by_cases g : gN s (kL D t)[p] < 40
    · rw [if_pos g, nI_toInt (by omega), nI_clamp (show gN s (kL D t)[p] < 2 ^ 31 by omega), nI_1]
      refine br_f (fun z => z (by omega)) ⟨pin_nI g (by omega), px, ?_⟩
      refine ih (p + 1) _ (by omega) (by omega) (by omega) (fr_sA 13 (fr_sA 12 f)) i14 i15 (i12p _ _ y1 ?_) (i13p _ _)
      show s.2.1 15 (gN s (kL D t)[p]) = _
      rw [i15, egN]
      rw [egN] at g
      unfold tvI
      rw [if_pos g]
      exact s15 _ g
    · rw [if_neg g, l_m1, nI_1]
      refine br_t (by omega) ⟨px, ?_⟩
      refine ih (p + 1) _ (by omega) (by omega) (by omega) (fr_sA 13 (fr_sA 12 f)) i14 i15 (i12p _ _ y1 ?_) (i13p _ _)
      rw [egN] at g
      unfold tvI
      rw [if_neg g]
theorem m1_mul (y : Int32) : (-1 : Int32) * y = -y := by
  have e : (-1 : Int32) = -(1 : Int32) := by decide
  rw [e, Int32.neg_mul, Int32.one_mul]
theorem nI_sb (a b : Nat) : nI (a + b) + -(nI b) = nI a := by
  rw [← nI_add, Int32.add_assoc, Int32.add_right_neg, Int32.add_zero]
theorem l_115c {D S : ST} {t : Int32} {b : Nat} {X : ST → Prop} {K : ST → Prop} (h : Bk D) (hS : PV D t S) (hb : b ≤ (kL D t).length) (hX : ∀ s, Fr fqB S s → (∀ k, k < 16 → s.2.1 14 k = 0) → (∀ g, g < 40 → s.2.1 15 g = 0) → s.2.1 12 = S.2.1 12 → s.2.1 13 = S.2.1 13 → X s) : ∀ n p s, p ≤ b → b - p < n → Fr fqB S s → (∀ k, k < 16 → s.2.1 14 k = nI (cntH D (seg (kL D t) p b) k)) → (∀ g, g < 40 → s.2.1 15 g = nI (sumG D t (seg (kL D t) p b) g)) → s.2.1 12 = S.2.1 12 → s.2.1 13 = S.2.1 13 → w_115_L74 n (nI b) (nI p) s X K := by
  have h150 := kL_150 h (t := t)
  intro n
  induction n with
  | zero => intro p s _ z; omega
  | succ n ih =>
    intro p s hp hn f i14 i15 i12 i13
    have pv := PV_B hS f
    have hB := Bk_S pv.1 h
    rw [w_115_L74, nI_leI (by omega) (by omega)]
    by_cases c : b ≤ p
    · have e : p = b := by omega
      subst e
      rw [seg_self] at i14 i15
      exact br_t c (hX s f i14 i15 i12 i13)
    refine br_f c ?_
    have hpl : p < (kL D t).length := by omega
    rw [w123 pv.2.1 pv.2.2.1 h150 hpl]
    obtain ⟨hxR, _⟩ := kL_lt h hpl
    have sn := seg_cons (L := kL D t) (b := b) hpl (by omega)
    generalize (kL D t)[p] = x at hxR sn
    rw [sn] at i14 i15
    have ehN : hN s x = hN D x := by rw [hN_S pv.1]
    have egN : gN s x = gN D x := by rw [gN_S pv.1]
    have e9 : s.2.1 9 x = nI (smN D t x) := by rw [pv.2.2.2 x hxR, smI_N h hxR]
    have j14 : ∀ k, k < 16 → upd (s.2.1 14) (hN D x) (s.2.1 14 (hN D x) + (-1)) k = nI (cntH D (seg (kL D t) (p + 1) b) k) := by
      intro k hk
      rw [upd_ap]
      have z := i14 k hk
      rw [cntH_cons] at z
      by_cases e : k = hN D x
      · subst e
        rw [if_pos rfl] at z
        rw [if_pos rfl, z, pk_m1]
      · rw [if_neg (fun y => e y.symm), Nat.add_zero] at z
        rw [if_neg e, z]
    refine mp_116 hB (by rw [nR_S pv.1]; exact hxR) (fun g => ?_) (fun g => ?_)
    · rw [ehN, egN, nI_1]
      rw [egN] at g
      refine ih (p + 1) _ (by omega) (by omega) (fr_sA 15 (fr_sA 14 f)) j14 ?_ i12 i13
      intro k hk
      show upd (s.2.1 15) (gN D x) (s.2.1 15 (gN D x) + (-1) * s.2.1 9 x) k = _
      rw [upd_ap]
      have z := i15 k hk
      rw [sumG_cons] at z
      by_cases e : k = gN D x
      · subst e
        rw [if_pos rfl] at z
        rw [if_pos rfl, z, e9, m1_mul, nI_sb]
      · rw [if_neg (fun y => e y.symm), Nat.add_zero] at z
        rw [if_neg e, z]
    · rw [ehN, nI_1]
      rw [egN] at g
      refine ih (p + 1) _ (by omega) (by omega) (fr_sA 14 f) j14 ?_ i12 i13
      intro k hk
      show s.2.1 15 k = _
      have z := i15 k hk
      rw [sumG_cons, if_neg (fun y => g (by omega)), Nat.add_zero] at z
      exact z
theorem mp_115 {D S : ST} {t : Int32} {a b : Nat} {K : ST → Prop} (h : Bk D) (hS : PV D t S) (hab : a ≤ b) (hb : b ≤ (kL D t).length) (z14 : ∀ k, k < 16 → S.2.1 14 k = 0) (z15 : ∀ g, g < 40 → S.2.1 15 g = 0) (k : ∀ s, Fr fqB S s → (∀ k, k < 16 → s.2.1 14 k = 0) → (∀ g, g < 40 → s.2.1 15 g = 0) → (∀ k (hk : k < (kL D t).length), a ≤ k → k < b → s.2.1 12 (kL D t)[k] = nI (cntH D (seg (kL D t) a b) (hN D (kL D t)[k])) ∧ s.2.1 13 (kL D t)[k] = tvI D t (seg (kL D t) a b) (kL D t)[k]) → (∀ k (hk : k < (kL D t).length), k < a → s.2.1 12 (kL D t)[k] = S.2.1 12 (kL D t)[k] ∧ s.2.1 13 (kL D t)[k] = S.2.1 13 (kL D t)[k]) → K s) : w_115 (nI a) (nI b) S K := by
  have h150 := kL_150 h (t := t)
  unfold w_115
  refine ⟨151, l_115a h hS hab hb ?_ 151 a S (Nat.le_refl _) hab (by omega) (fr_rfl _ _) (fun k hk => by rw [seg_self]; exact z14 k hk) (fun g hg => by rw [seg_self]; exact z15 g hg) rfl rfl⟩
  intro s1 f1 b14 b15 b12 b13
  have pv1 := PV_B hS f1
  refine ⟨151, l_115b h pv1 hab hb b14 b15 ?_ 151 a s1 (Nat.le_refl _) hab (by omega) (fr_rfl _ _) rfl rfl (fun k _ h1 h2 => absurd h2 (by omega)) (fun k _ _ => ⟨rfl, rfl⟩)⟩
  intro s2 f2 c14 c15 c12 c13
  have pv2 := PV_B pv1 f2
  refine ⟨151, l_115c h pv2 hb ?_ 151 a s2 hab (by omega) (fr_rfl _ _) (by rw [c14]; exact b14) (by rw [c15]; exact b15) rfl rfl⟩
  intro s3 f3 d14 d15 d12 d13
  refine k s3 (fr_tr (F := fqB) rfl (fr_tr (F := fqB) rfl f1 f2) f3) d14 d15 ?_ ?_
  · rw [d12, d13]; exact c12
  · intro k hk hka
    rw [d12, d13, ← b12, ← b13]
    exact c13 k hk hka
