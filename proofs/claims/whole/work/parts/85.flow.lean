/-! ===== the class's net: half edges, a node, an edge, a gift ===== -/
abbrev fqFl : FS := ([3710, 3711], [38, 39, 40, 41, 42, 43, 44, 45], [], false, false)
/-- the last half edge out of v before e -/
def lsh (S : Nat → Nat) : Nat → Nat → Int32
  | 0, _ => -1
  | e + 1, v => if S e = v then nI e else lsh S e v
theorem lsh_ext {S S1 : Nat → Nat} {v : Nat} : ∀ e, (∀ j, j < e → S1 j = S j) → lsh S1 e v = lsh S e v
  | 0, _ => rfl
  | e + 1, h => by
    show (if S1 e = v then nI e else lsh S1 e v) = (if S e = v then nI e else lsh S e v)
    rw [h e (by omega), lsh_ext e (fun j hj => h j (by omega))]
theorem lsh_no {S : Nat → Nat} {v : Nat} : ∀ e, (∀ j, j < e → ¬ S j = v) → lsh S e v = -1
  | 0, _ => rfl
  | e + 1, h => by
    show (if S e = v then nI e else lsh S e v) = -1
    rw [if_neg (h e (by omega)), lsh_no e (fun j hj => h j (by omega))]
def HA (s : ST) (n e : Nat) (S G : Nat → Nat) (W : Nat → Int) : Prop := s.1 3710 = nI n ∧ s.1 3711 = nI e ∧ (∀ j, j < e → s.2.1 42 j = nI (G j) ∧ (s.2.1 43 j).toInt = W j ∧ s.2.1 41 j = lsh S j (S j)) ∧ (∀ v, v < n → s.2.1 40 v = lsh S e v)
theorem HA_ext {s : ST} {n e : Nat} {S G S1 G1 : Nat → Nat} {W W1 : Nat → Int} (h : HA s n e S G W) (x : ∀ j, j < e → S1 j = S j ∧ G1 j = G j ∧ W1 j = W j) : HA s n e S1 G1 W1 := by
  obtain ⟨h1, h2, h3, h4⟩ := h
  refine ⟨h1, h2, fun j hj => ?_, fun v hv => ?_⟩
  · obtain ⟨x1, x2, x3⟩ := x j hj
    rw [x1, x2, x3, lsh_ext j (fun i hi => (x i (by omega)).1)]
    exact h3 j hj
  · rw [lsh_ext e (fun i hi => (x i hi).1)]
    exact h4 v hv
theorem HA_fr {F : FS} {s s1 : ST} {n e : Nat} {S G : Nat → Nat} {W : Nat → Int} (f : Fr F s s1) (h : HA s n e S G W) (d : dis F [3710, 3711] [40, 41, 42, 43] = true := by rfl) : HA s1 n e S G W := by
  unfold HA at h ⊢
  rw [f.1 3710 (dis_I d 3710), f.1 3711 (dis_I d 3711), f.2.1 40 (dis_A d 40), f.2.1 41 (dis_A d 41), f.2.1 42 (dis_A d 42), f.2.1 43 (dis_A d 43)]
  exact h
theorem mp_46 {s : ST} {n e f t : Nat} {S G : Nat → Nat} {W : Nat → Int} {c : Int32} {K : ST → Prop} (h : HA s n e S G W) (hn : n ≤ 163) (he : e < 624) (hf : f < n) (k : ∀ s1, Fr fqFl s s1 → Fr ([3711], [40, 41, 42, 43], [], false, false) s s1 → HA s1 n (e + 1) (uf S e f) (uf G e t) (uf W e c.toInt) → K s1) : w_46 (nI f) (nI t) c s K := by
  obtain ⟨h1, h2, h3, h4⟩ := h
  unfold w_46
  rw [h2, nI_clamp (show e < 2 ^ 31 by omega), nI_clamp (show f < 2 ^ 31 by omega), nI_1]
  have pe : pin (nI e) 624 = true := pin_nI he (by omega)
  have pf : pin (nI f) 163 = true := pin_nI (by omega) (by omega)
  refine ⟨pe, pe, pf, pe, pf, k _ (fr_sA 40 (fr_sA 41 (fr_sA 43 (fr_sA 42 (fr_sI 3711 (fr_rfl _ _)))))) (fr_sA 40 (fr_sA 41 (fr_sA 43 (fr_sA 42 (fr_sI 3711 (fr_rfl _ _)))))) ⟨h1, rfl, fun j hj => ?_, fun v hv => ?_⟩⟩
  · show upd (s.2.1 42) e (nI t) j = nI (uf G e t j) ∧ (upd (s.2.1 43) e c j).toInt = uf W e c.toInt j ∧ upd (s.2.1 41) e (s.2.1 40 f) j = lsh (uf S e f) j (uf S e f j)
    have le : lsh (uf S e f) j (uf S e f j) = lsh S j (uf S e f j) := lsh_ext j (fun i hi => uf_n (by omega))
    rw [le]
    by_cases z : j = e
    · subst z
      rw [pk_us, pk_us, pk_us, uf_s, uf_s, uf_s, h4 f hf]
      exact ⟨rfl, rfl, rfl⟩
    · rw [pk_un z, pk_un z, pk_un z, uf_n z, uf_n z, uf_n z]
      exact h3 j (by omega)
  · show upd (s.2.1 40) f (nI e) v = (if uf S e f e = v then nI e else lsh (uf S e f) e v)
    rw [uf_s, lsh_ext e (fun i hi => uf_n (by omega))]
    by_cases z : v = f
    · rw [z, pk_us, if_pos rfl]
    · rw [pk_un z, if_neg (fun y => z y.symm)]
      exact h4 v hv
/-- the two half edges of an edge -/
def sE (F T : Nat → Nat) (j : Nat) : Nat := if j % 2 = 0 then F (j / 2) else T (j / 2)
def wE (C p : Nat → Int) (j : Nat) : Int := if j % 2 = 0 then C (j / 2) - p (j / 2) else p (j / 2)
def NA (s : ST) (H : Nat) (nd : Nat → Nat) (hs : Nat → Int) (n m : Nat) (F T : Nat → Nat) (C : Nat → Int) : Prop := HA s n (2 * m) (sE F T) (sE T F) (wE C (fun _ => 0)) ∧ (∀ h, h < H → s.2.1 38 h = nI (nd h) ∧ (s.2.1 39 h).toInt = hs h) ∧ (∀ k, k < m → F k < n ∧ T k < n ∧ 0 ≤ C k ∧ C k ≤ 1000000000)
theorem sE_lt {F T : Nat → Nat} {n m : Nat} (h : ∀ k, k < m → F k < n ∧ T k < n) (j : Nat) (hj : j < 2 * m) : sE F T j < n := by
  unfold sE
  have := h (j / 2) (by omega)
  split <;> omega
theorem sE_up {F T : Nat → Nat} {m f t j : Nat} (hj : j < 2 * m + 2) : sE (uf F m f) (uf T m t) j = uf (uf (sE F T) (2 * m) f) (2 * m + 1) t j := by
  unfold sE
  by_cases a : j = 2 * m + 1
  · rw [a, uf_s, show (2 * m + 1) % 2 = 1 by omega, show (2 * m + 1) / 2 = m by omega, if_neg (by omega), uf_s]
  · rw [uf_n a]
    by_cases b : j = 2 * m
    · rw [b, uf_s, show 2 * m % 2 = 0 by omega, show 2 * m / 2 = m by omega, if_pos rfl, uf_s]
    · rw [uf_n b, uf_n (by omega), uf_n (by omega)]
theorem wE_up {C : Nat → Int} {m j : Nat} {x : Int} (hj : j < 2 * m + 2) : wE (uf C m x) (fun _ => 0) j = uf (uf (wE C (fun _ => 0)) (2 * m) x) (2 * m + 1) 0 j := by
  unfold wE
  by_cases a : j = 2 * m + 1
  · rw [a, uf_s, show (2 * m + 1) % 2 = 1 by omega, if_neg (by omega)]
  · rw [uf_n a]
    by_cases b : j = 2 * m
    · rw [b, uf_s, show 2 * m % 2 = 0 by omega, show 2 * m / 2 = m by omega, if_pos rfl, uf_s]
      exact Int.sub_zero x
    · rw [uf_n b, uf_n (by omega)]
abbrev fqL : FS := ([3711], [40, 41, 42, 43], [], false, false)
theorem mp_45 {s : ST} {H n m f t : Nat} {nd F T : Nat → Nat} {hs C : Nat → Int} {c : Int32} {K : ST → Prop} (h : NA s H nd hs n m F T C) (hn : n ≤ 163) (hm : 2 * m + 2 ≤ 624) (hf : f < n) (ht : t < n) (hc : 0 ≤ c.toInt ∧ c.toInt ≤ 1000000000) (k : ∀ s1, Fr fqL s s1 → NA s1 H nd hs n (m + 1) (uf F m f) (uf T m t) (uf C m c.toInt) → K s1) : w_45 (nI f) (nI t) c s K := by
  obtain ⟨hA, hN, hE⟩ := h
  have e1 : s.1 3710 = nI n := hA.1
  have e2 : s.1 3711 = nI (2 * m) := hA.2.1
  have en : (s.1 3710 - 1).toInt = (n : Int) - 1 := by rw [e1]; exact nI_s1t (by omega)
  unfold w_45
  simp only [e_181, t_181, l_0, en]
  rw [nI_toInt (show f < 2 ^ 31 by omega), nI_toInt (show t < 2 ^ 31 by omega)]
  refine br_f ?_ (br_f (fun z => z ⟨by omega, by omega⟩) (br_f (fun z => z ⟨by omega, by omega⟩) ?_))
  · rw [e2, show (2 : Int32) = nI 2 from rfl, nI_add, show (624 : Int32) = nI 624 from rfl]
    exact nI_nlt (by omega) (by omega)
  refine mp_46 hA hn (by omega) hf ?_
  intro s1 _ f1 h1
  refine mp_46 h1 hn (by omega) ht ?_
  intro s2 _ f2 h2
  have g2 : Fr fqL s s2 := fr_tr (F := fqL) rfl f1 f2
  refine k s2 g2 ⟨HA_ext h2 ?_, ?_, ?_⟩
  · intro j hj
    have l0 : (0 : Int32).toInt = 0 := rfl
    rw [sE_up (by omega), sE_up (by omega), wE_up (by omega), l0]
    exact ⟨rfl, rfl, rfl⟩
  · rw [g2.2.1 38 rfl, g2.2.1 39 rfl]
    exact hN
  · intro j hj
    by_cases z : j = m
    · rw [z, uf_s, uf_s, uf_s]; exact ⟨hf, ht, hc⟩
    · rw [uf_n z, uf_n z, uf_n z]; exact hE j (by omega)
abbrev fqN : FS := ([3710], [40], [], false, false)
theorem mp_44 {s : ST} {H n m : Nat} {nd F T : Nat → Nat} {hs C : Nat → Int} {K : Int32 → ST → Prop} (h : NA s H nd hs n m F T C) (hn : n < 163) (k : ∀ s1, Fr fqN s s1 → NA s1 H nd hs (n + 1) m F T C → K (nI n) s1) : w_44 s K := by
  obtain ⟨hA, hN, hE⟩ := h
  have e1 : s.1 3710 = nI n := hA.1
  unfold w_44
  rw [e1, show (163 : Int32) = nI 163 from rfl, t_a1s, nI_1, nI_clamp (by omega)]
  refine br_t (nI_lt hn (by omega)) ⟨pin_nI hn (by omega), ?_⟩
  refine k _ (fr_sA 40 (fr_sI 3710 (fr_rfl _ _))) ⟨⟨rfl, hA.2.1, hA.2.2.1, fun v hv => ?_⟩, hN, fun j hj => by have := hE j hj; omega⟩
  show upd (s.2.1 40) n (-1) v = lsh (sE F T) (2 * m) v
  by_cases z : v = n
  · rw [z, pk_us, lsh_no]
    intro j hj y
    have := sE_lt (fun k hk => ⟨(hE k hk).1, (hE k hk).2.1⟩) j hj
    omega
  · rw [pk_un z]
    exact hA.2.2.2 v (by omega)
theorem NA_set {s : ST} {H n m g : Nat} {nd F T : Nat → Nat} {hs C : Nat → Int} {x : Int32} (h : NA s H nd hs n m F T C) : NA (sA s 39 (upd (s.2.1 39) g x)) H nd (uf hs g x.toInt) n m F T C := by
  obtain ⟨hA, hN, hE⟩ := h
  refine ⟨HA_fr (F := ([], [39], [], false, false)) (fr_sA 39 (fr_rfl _ _)) hA, fun f hf => ⟨(hN f hf).1, ?_⟩, hE⟩
  show (upd (s.2.1 39) g x f).toInt = _
  by_cases z : f = g
  · rw [z, pk_us, uf_s]
  · rw [pk_un z, uf_n z]; exact (hN f hf).2
theorem NA_nd {s : ST} {H n m g y : Nat} {nd F T : Nat → Nat} {hs C : Nat → Int} (h : NA s H nd hs n m F T C) : NA (sA s 38 (upd (s.2.1 38) g (nI y))) H (uf nd g y) hs n m F T C := by
  obtain ⟨hA, hN, hE⟩ := h
  refine ⟨HA_fr (F := ([], [38], [], false, false)) (fr_sA 38 (fr_rfl _ _)) hA, fun f hf => ⟨?_, (hN f hf).2⟩, hE⟩
  show upd (s.2.1 38) g (nI y) f = _
  by_cases z : f = g
  · rw [z, pk_us, uf_s]
  · rw [pk_un z, uf_n z]; exact (hN f hf).1
theorem mp_43 {s : ST} {H n m g t : Nat} {nd F T : Nat → Nat} {hs C : Nat → Int} {a : Int32} {K : ST → Prop} (h : NA s H nd hs n m F T C) (hH : H ≤ 10) (hn : n < 163) (hm : 2 * m + 4 ≤ 624) (hg : g < H) (hd : nd g < n) (ht : t < n) (hc : 0 ≤ hs g ∧ hs g ≤ 1000000000) (ha : 0 ≤ a.toInt) (k : ∀ s1, Fr fqFl s s1 → NA s1 H (uf nd g n) (uf hs g (rs (hs g) a.toInt)) (n + 1) (m + 2) (uf (uf F m (nd g)) (m + 1) (nd g)) (uf (uf T m t) (m + 1) n) (uf (uf C m (hs g - rs (hs g) a.toInt)) (m + 1) (rs (hs g) a.toInt)) → K s1) : w_43 (nI g) (nI t) a s K := by
  obtain ⟨n1, n2⟩ := h.2.1 g hg
  have rc := rs_c (a := hs g) (s := a.toInt)
  have ra := i_lo a
  have rh := i_hi a
  have pg : pin (nI g) 10 = true := pin_nI (by omega) (by omega)
  have own : (if s.2.1 39 g < a then s.2.1 39 g else a).toInt = hs g - rs (hs g) a.toInt := by
    by_cases c : s.2.1 39 g < a
    · rw [if_pos c]; rw [i_lt] at c; omega
    · rw [if_neg c]; rw [i_lt] at c; omega
  unfold w_43
  rw [nI_clamp (show g < 2 ^ 31 by omega), n1]
  refine ⟨pg, pg, mp_45 h (by omega) (by omega) hd ht (by rw [own]; omega) ?_⟩
  intro s1 f1 h1
  rw [own] at h1
  refine ⟨pg, pg, ?_⟩
  have e39 : s1.2.1 39 = s.2.1 39 := f1.2.1 39 rfl
  have left : (s1.2.1 39 g - (if s.2.1 39 g < a then s.2.1 39 g else a)).toInt = rs (hs g) a.toInt := by
    rw [t_sub] <;> rw [e39, own, n2] <;> omega
  have h2 := NA_set (g := g) (x := s1.2.1 39 g - (if s.2.1 39 g < a then s.2.1 39 g else a)) h1
  rw [left] at h2
  refine mp_44 h2 hn ?_
  intro s3 f3 h3
  refine ⟨pg, pg, pg, ?_⟩
  have h4 := NA_nd (g := g) (y := n) h3
  rw [pk_us]
  have c3 : (s3.2.1 39 g).toInt = rs (hs g) a.toInt := by
    have := (h3.2.1 g hg).2
    rw [uf_s] at this
    exact this
  refine mp_45 h4 (by omega) (by omega) (by omega) (by omega) (by rw [c3]; omega) ?_
  intro s5 f5 h5
  rw [c3] at h5
  exact k s5 (fr_tr (F := fqL) rfl (fr_sA 38 (fr_tr (F := fqN) rfl (fr_sA 39 (fr_weak rfl f1)) f3)) f5) h5
