/-! ===== the class's net: a row, all rows ===== -/
def rwD (D : ST) (t : Int32) (x : Nat) : Rw := ((D.2.1 57 x).toNatClampNeg, (D.2.1 58 x).toNatClampNeg, (D.2.1 59 x).toNatClampNeg, (smI D t x).toInt)
theorem rwD_ok {D : ST} {t : Int32} {x : Nat} (h : Bk D) (hx : x < nR D) (hk : kp D t x = true) : Rv (nH D) (rwD D t x) := by
  have ok := (h.2.2.1.2.2.2 x hx).2
  unfold Rok at ok
  have sr := smI_rng h (t := t) hx
  have hne : ¬ smI D t x = 0 := by
    unfold kp at hk
    rw [Bool.not_eq_true', decide_eq_false_iff_not] at hk
    exact hk
  have h1 : 1 ≤ (smI D t x).toInt := by
    rw [i_eq, l_0] at hne
    omega
  show (D.2.1 57 x).toInt.toNat ≤ 3 ∧ ((D.2.1 58 x).toInt.toNat < (D.1 5501).toInt.toNat ∧ ((D.2.1 57 x).toInt.toNat = 2 → (D.2.1 59 x).toInt.toNat < (D.1 5501).toInt.toNat ∧ ¬ (D.2.1 59 x).toInt.toNat = (D.2.1 58 x).toInt.toNat) ∧ 1 ≤ (smI D t x).toInt ∧ (smI D t x).toInt ≤ 1000000)
  refine ⟨by omega, by omega, fun z => ?_, h1, sr.2⟩
  have := ok.2.2.2.2.1 (by omega)
  omega
def AgE (m : Nat) (F T : Nat → Nat) (C : Nat → Int) (F1 T1 : Nat → Nat) (C1 : Nat → Int) : Prop := ∀ k, k < m → F1 k = F k ∧ T1 k = T k ∧ C1 k = C k
theorem AgE_tr {m m1 : Nat} {F T F1 T1 F2 T2 : Nat → Nat} {C C1 C2 : Nat → Int} (h : m ≤ m1) (a : AgE m F T C F1 T1 C1) (b : AgE m1 F1 T1 C1 F2 T2 C2) : AgE m F T C F2 T2 C2 := by
  intro k hk
  obtain ⟨a1, a2, a3⟩ := a k hk
  obtain ⟨b1, b2, b3⟩ := b k (by omega)
  exact ⟨b1.trans a1, b2.trans a2, b3.trans a3⟩
theorem AgE_up {m f t : Nat} {F T : Nat → Nat} {C : Nat → Int} {x : Int} : AgE m F T C (uf F m f) (uf T m t) (uf C m x) := fun k hk => ⟨uf_n (by omega), uf_n (by omega), uf_n (by omega)⟩
theorem PV_g {F : FS} {D S s : ST} {t : Int32} (f : Fr F S s) (h : PV D t S) (hs : fsub F fsS = true := by rfl) (d : dis F [801] [9, 11] = true := by rfl) : PV D t s := by
  obtain ⟨h1, h2, h3, h4⟩ := h
  refine ⟨fr_tr hs h1 f, ?_, ?_, ?_⟩
  · rw [f.1 801 (dis_I d 801)]; exact h2
  · rw [f.2.1 11 (dis_A d 11)]; exact h3
  · rw [f.2.1 9 (dis_A d 9)]; exact h4
theorem mp_42 {D s : ST} {t : Int32} {x n m : Nat} {nd F T : Nat → Nat} {hs C : Nat → Int} {B : Int} {K : ST → Prop} (hB : Bk D) (pv : PV D t s) (hx : x < nR D) (hk : kp D t x = true) (h : NA s (nH D) nd hs n m F T C) (hn3 : 3 ≤ n) (hn : n < 163) (hm : 2 * m + 4 ≤ 624) (hd : ∀ g, g < nH D → nd g < n) (hb : ∀ g, g < nH D → 0 ≤ hs g ∧ hs g ≤ B) (hBB : B ≤ 900000000) (k : ∀ s1 nd1 hs1 n1 m1 F1 T1 C1, Fr fqFl s s1 → NA s1 (nH D) nd1 hs1 n1 m1 F1 T1 C1 → n ≤ n1 → n1 ≤ n + 1 → m ≤ m1 → m1 ≤ m + 2 → (∀ g, g < nH D → nd1 g < n1) → (∀ g, g < nH D → 0 ≤ hs1 g ∧ hs1 g ≤ B + 1000000) → AgE m F T C F1 T1 C1 → (∀ (F' T' : Nat → Nat) (C' : Nat → Int) Q R, AgE m1 F1 T1 C1 F' T' C' → BA F' T' C' Q R nd1 hs1 n1 m1 → BA F' T' C' Q (rwD D t x :: R) nd hs n m) → K s1) : w_42 (nI x) s K := by
  have hR := (bkR hB).2.2
  have ok := (hB.2.2.1.2.2.2 x hx).2
  unfold Rok at ok
  obtain ⟨o1, o2, o3, o4, o5, _, _⟩ := ok
  have hH : nH D = (D.1 5501).toInt.toNat := rfl
  have hH10 : (D.1 5501).toInt ≤ 10 := hB.2.1.2.2.1
  have rv := rwD_ok hB hx hk
  have e9 : (9 : Int32).toInt = 9 := rfl
  have e2 : (2 : Int32).toInt = 2 := rfl
  have e1 : (1 : Int32).toInt = 1 := rfl
  obtain ⟨g, hg, eg⟩ := of_rng (n := nH D) o3 (by omega)
  have hrw : rwD D t x = ((D.2.1 57 x).toNatClampNeg, g, (D.2.1 59 x).toNatClampNeg, (smI D t x).toInt) := by
    unfold rwD; rw [eg, nI_clamp (show g < 2 ^ 31 by omega)]
  rw [hrw] at rv
  obtain ⟨_, _, rvo, sm1, sm2⟩ := rv
  have sm1 : 1 ≤ (smI D t x).toInt := sm1
  have sm2 : (smI D t x).toInt ≤ 1000000 := sm2
  obtain ⟨n1, n2⟩ := h.2.1 g hg
  have bg := hb g hg
  unfold w_42
  rw [cc0 hB pv.1 hx, cc1 hB pv.1 hx, w16v hB pv.1 hx]
  simp only [e_181, t_181, l_0, e9]
  rw [eg, nI_toInt (show g < 2 ^ 31 by omega)]
  refine br_t (fun z => z ⟨by omega, by omega⟩) ?_
  have pg : pin (nI g) 10 = true := pin_nI (by omega) (by omega)
  have w1 : s.2.1 9 x = smI D t x := pv.2.2.2 x hx
  by_cases k0 : D.2.1 57 x = 0
  · refine br_f (fun z => z k0) ⟨pg, ?_⟩
    rw [w119 (by omega), w1, nI_clamp (show g < 2 ^ 31 by omega)]
    refine ⟨pg, ?_⟩
    have ex : (s.2.1 39 g + smI D t x).toInt = hs g + (smI D t x).toInt := by rw [t_add] <;> rw [n2] <;> omega
    have h2 := NA_set (g := g) (x := s.2.1 39 g + smI D t x) h
    rw [ex] at h2
    refine k _ nd _ n m F T C (fr_sA 39 (fr_rfl _ _)) h2 (by omega) (by omega) (by omega) (by omega) hd ?_ (fun k hk => ⟨rfl, rfl, rfl⟩) ?_
    · intro f hf
      have := hb f hf
      by_cases z : f = g
      · rw [z, uf_s]; omega
      · rw [uf_n z]; omega
    · intro F' T' C' Q R ag hb2
      rw [hrw, k0]
      exact hb2
  refine br_t k0 ?_
  by_cases k1 : D.2.1 57 x = 1
  · refine br_f (fun z => z k1) ?_
    rw [w119 (by omega), w1]
    refine mp_43 h (by omega) hn hm hg (hd g hg) (t := 2) (by omega) (by omega) (by omega) ?_
    intro s1 f1 h1
    refine k s1 _ _ _ _ _ _ _ f1 h1 (by omega) (by omega) (by omega) (by omega) ?_ ?_ (AgE_tr (by omega) AgE_up AgE_up) ?_
    · intro f hf
      have := hd f hf
      by_cases z : f = g
      · rw [z, uf_s]; omega
      · rw [uf_n z]; omega
    · intro f hf
      have := hb f hf
      have r1 := rs_c (a := hs g) (s := (smI D t x).toInt)
      by_cases z : f = g
      · rw [z, uf_s]; omega
      · rw [uf_n z]; omega
    · intro F' T' C' Q R ag hb2
      obtain ⟨q1, q2, q3⟩ := ag m (by omega)
      obtain ⟨q4, q5, q6⟩ := ag (m + 1) (by omega)
      rw [uf_n (by omega), uf_s] at q1 q2 q3
      rw [uf_s] at q4 q5 q6
      rw [hrw, k1]
      exact ⟨q1, q2, q3, q4, q5, q6, hb2⟩
  refine br_t k1 ?_
  by_cases k2 : D.2.1 57 x = 2
  · refine br_f (fun z => z k2) ?_
    have ef : fcI D x = D.2.1 59 x := if_pos k2
    have oo := o5 (by rw [k2]; rfl)
    obtain ⟨o, ho, eo⟩ := of_rng (n := nH D) oo.1 (by omega)
    have hog : ¬ o = g := by
      intro z
      have := oo.2.2
      rw [eo, eg, z] at this
      exact this rfl
    rw [ef, eo, nI_toInt (show o < 2 ^ 31 by omega), nI_clamp (show o < 2 ^ 31 by omega)]
    have po : pin (nI o) 10 = true := pin_nI (by omega) (by omega)
    refine br_f (fun z => z ⟨by omega, by omega⟩) ⟨po, ?_⟩
    rw [w119 (by omega), w1, (h.2.1 o ho).1]
    refine mp_43 h (by omega) hn hm hg (hd g hg) (hd o ho) (by omega) (by omega) ?_
    intro s1 f1 h1
    refine ⟨po, ?_⟩
    rw [w119 (by omega), f1.2.1 9 rfl, w1]
    refine ⟨po, ?_⟩
    have bo := hb o ho
    have c1 : (s1.2.1 39 o).toInt = hs o := by
      have := (h1.2.1 o ho).2
      rw [uf_n hog] at this
      exact this
    have ex : (s1.2.1 39 o + smI D t x).toInt = hs o + (smI D t x).toInt := by rw [t_add] <;> rw [c1] <;> omega
    have h2 := NA_set (g := o) (x := s1.2.1 39 o + smI D t x) h1
    rw [ex] at h2
    refine k _ _ _ _ _ _ _ _ (fr_sA 39 f1) h2 (by omega) (by omega) (by omega) (by omega) ?_ ?_ (AgE_tr (by omega) AgE_up AgE_up) ?_
    · intro f hf
      have := hd f hf
      by_cases z : f = g
      · rw [z, uf_s]; omega
      · rw [uf_n z]; omega
    · intro f hf
      have := hb f hf
      have r1 := rs_c (a := hs g) (s := (smI D t x).toInt)
      by_cases y : f = o
      · rw [y, uf_s]; omega
      · rw [uf_n y]
        by_cases z : f = g
        · rw [z, uf_s]; omega
        · rw [uf_n z]; omega
    · intro F' T' C' Q R ag hb2
      obtain ⟨q1, q2, q3⟩ := ag m (by omega)
      obtain ⟨q4, q5, q6⟩ := ag (m + 1) (by omega)
      rw [uf_n (by omega), uf_s] at q1 q2 q3
      rw [uf_s] at q4 q5 q6
      rw [hrw, k2, eo, nI_clamp (show o < 2 ^ 31 by omega)]
      exact ⟨q1, q2, q3, q4, q5, q6, hb2⟩
  · refine br_t k2 ?_
    refine k s nd hs n m F T C (fr_rfl _ _) h (by omega) (by omega) (by omega) (by omega) hd (fun f hf => by have := hb f hf; omega) (fun k hk => ⟨rfl, rfl, rfl⟩) ?_
    intro F' T' C' Q R ag hb2
    have k3 : (D.2.1 57 x).toNatClampNeg = 3 := by
      rw [cl_e]
      have l2 : (2 : Int32).toInt = 2 := rfl
      rw [i_eq, l_0] at k0
      rw [i_eq, l_1] at k1
      rw [i_eq, l2] at k2
      omega
    rw [hrw, k3]
    exact hb2
theorem l_40 {D S0 : ST} {t x1 x2 x3 : Int32} {X : Int32 → Int32 → Int32 → ST → Prop} {K : Int32 → ST → Prop} (hB : Bk D) : ∀ (N k : Nat) (s : ST) (nd : Nat → Nat) (hs : Nat → Int) (n m : Nat) (F T : Nat → Nat) (C : Nat → Int) (B : Int), k ≤ (kL D t).length → (kL D t).length - k < N → Fr fqFl S0 s → PV D t s → NA s (nH D) nd hs n m F T C → 3 ≤ n → n + ((kL D t).length - k) ≤ 163 → 2 * m + 4 * ((kL D t).length - k) ≤ 624 → (∀ g, g < nH D → nd g < n) → (∀ g, g < nH D → 0 ≤ hs g ∧ hs g ≤ B) → B + 1000000 * (((kL D t).length - k : Nat) : Int) ≤ 800000000 → (∀ s1 nd1 hs1 n1 m1 F1 T1 C1, Fr fqFl S0 s1 → PV D t s1 → NA s1 (nH D) nd1 hs1 n1 m1 F1 T1 C1 → n ≤ n1 → n1 ≤ n + ((kL D t).length - k) → m1 ≤ m + 2 * ((kL D t).length - k) → (∀ g, g < nH D → nd1 g < n1) → m ≤ m1 → AgE m F T C F1 T1 C1 → (∀ (F' T' : Nat → Nat) (C' : Nat → Int) Q, AgE m1 F1 T1 C1 F' T' C' → Q nd1 hs1 n1 m1 → BA F' T' C' Q (((kL D t).drop k).map (rwD D t)) nd hs n m) → X x1 x2 x3 s1) → w_40_L5 N x1 x2 x3 (nI k) s X K := by
  have h150 := kL_150 hB (t := t)
  intro N
  induction N with
  | zero => intro k s nd hs n m F T C B _ z; omega
  | succ N ih =>
    intro k s nd hs n m F T C B hk hN f0 pv h hn3 hn hm hd hb hBB hX
    rw [w_40_L5, pv.2.1, nI_leI (by omega) (by omega)]
    by_cases c : (kL D t).length ≤ k
    · refine br_t c (hX s nd hs n m F T C f0 pv h (by omega) (by omega) (by omega) hd (by omega) (fun k hk => ⟨rfl, rfl, rfl⟩) ?_)
      intro F' T' C' Q ag q
      rw [List.drop_of_length_le c]
      exact q
    refine br_f c ?_
    have hkl : k < (kL D t).length := by omega
    obtain ⟨hx, hkp⟩ := kL_lt hB hkl
    rw [w_at hB pv hkl]
    refine mp_42 hB pv hx hkp h hn3 (by omega) (by omega) hd hb (by omega) ?_
    intro s1 nd1 hs1 n1 m1 F1 T1 C1 f1 h1 a1 a2 a3 a4 d1 b1 ag1 bb1
    rw [nI_1]
    refine ih (k + 1) s1 nd1 hs1 n1 m1 F1 T1 C1 (B + 1000000) (by omega) (by omega) (fr_tr (F := fqFl) rfl f0 f1) (PV_g f1 pv) h1 (by omega) (by omega) (by omega) d1 b1 (by omega) ?_
    intro s2 nd2 hs2 n2 m2 F2 T2 C2 f2 pv2 h2 z1 z2 z3 d2 z4 ag2 bb2
    refine hX s2 nd2 hs2 n2 m2 F2 T2 C2 f2 pv2 h2 (by omega) (by omega) (by omega) d2 (by omega) (AgE_tr a3 ag1 ag2) ?_
    intro F' T' C' Q ag q
    rw [List.drop_eq_getElem_cons hkl, List.map_cons]
    exact bb1 F' T' C' Q _ (AgE_tr z4 ag2 ag) (bb2 F' T' C' Q ag q)
