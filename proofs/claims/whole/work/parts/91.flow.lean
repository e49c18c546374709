/-! ===== the class's path is filled; its greatest flow ===== -/
theorem pth_mem {pa : Nat → Nat} {L : Nat} (hp : ∀ i, 0 < i → i < L → pa i < i) : ∀ (f i j : Nat), i < L → j ∈ pth pa f i → 0 < j ∧ j ≤ i := by
  intro f
  induction f with
  | zero => intro i j _ h; exact absurd h List.not_mem_nil
  | succ f ih =>
    intro i j hi h
    by_cases c : i = 0
    · rw [c, pth_0] at h; exact absurd h List.not_mem_nil
    · have ep : pth pa (f + 1) i = i :: pth pa f (pa i) := if_neg c
      rw [ep, List.mem_cons] at h
      rcases h with h | h
      · omega
      · have h1 := hp i (by omega) hi
        have h2 := ih (pa i) j (by omega) h
        omega
theorem wE_xr {C p : Nat → Int} {e : Nat} : wE C p (xr e) = C (e / 2) - wE C p e := by
  unfold wE
  by_cases c : e % 2 = 0
  · rw [xr_e c, if_neg (show ¬ (e + 1) % 2 = 0 by omega), if_pos c, show (e + 1) / 2 = e / 2 by omega]
    omega
  · rw [xr_o c, if_pos (show (e - 1) % 2 = 0 by omega), if_neg c, show (e - 1) / 2 = e / 2 by omega]
theorem wE_b {m : Nat} {C p : Nat → Int} (h : ∀ j, j < 2 * m → 0 ≤ wE C p j) (k : Nat) (hk : k < m) : 0 ≤ p k ∧ p k ≤ C k := by
  have h1 := h (2 * k) (by omega)
  have h2 := h (2 * k + 1) (by omega)
  unfold wE at h1 h2
  rw [if_pos (show 2 * k % 2 = 0 by omega), show 2 * k / 2 = k by omega] at h1
  rw [if_neg (show ¬ (2 * k + 1) % 2 = 0 by omega), show (2 * k + 1) / 2 = k by omega] at h2
  omega
abbrev fqFi : FS := ([], [43], [], false, false)
theorem HA_fill {s : ST} {n m e : Nat} {F T : Nat → Nat} {C p : Nat → Int} {d : Int32} (hA : HA s n (2 * m) (sE F T) (sE T F) (wE C p)) (he : e < 2 * m) (hd : 0 < d.toInt) (hde : d.toInt ≤ wE C p e) (h0 : ∀ j, j < 2 * m → 0 ≤ wE C p j) (hC : ∀ k, k < m → C k ≤ 1000000000) : HA (sA s 43 (upd (upd (s.2.1 43) e (s.2.1 43 e - d)) (xr e) (upd (s.2.1 43) e (s.2.1 43 e - d) (xr e) + d))) n (2 * m) (sE F T) (sE T F) (wE C (pfl p e d.toInt)) := by
  obtain ⟨h1, h2, h3, h4⟩ := hA
  refine ⟨h1, h2, fun j hj => ⟨(h3 j hj).1, ?_, (h3 j hj).2.2⟩, h4⟩
  show (upd (upd (s.2.1 43) e (s.2.1 43 e - d)) (xr e) (upd (s.2.1 43) e (s.2.1 43 e - d) (xr e) + d) j).toInt = _
  rw [wE_pfl]
  have w1 := h0 e he
  have w2 := h0 (xr e) (xr_lt he)
  have w3 := wE_xr (C := C) (p := p) (e := e)
  have w4 := hC (e / 2) (by omega)
  have r1 : (s.2.1 43 e - d).toInt = wE C p e - d.toInt := by
    have := (h3 e he).2.1
    rw [t_sub] <;> rw [this] <;> omega
  have r2 : (upd (s.2.1 43) e (s.2.1 43 e - d) (xr e) + d).toInt = wE C p (xr e) + d.toInt := by
    rw [pk_un xr_ne]
    have := (h3 (xr e) (xr_lt he)).2.1
    rw [t_add] <;> rw [this] <;> omega
  rw [uf_n (f := wE C p) xr_ne]
  by_cases a : j = xr e
  · rw [a, pk_us, uf_s]; exact r2
  · rw [pk_un a, uf_n a]
    by_cases b : j = e
    · rw [b, pk_us, uf_s]; exact r1
    · rw [pk_un b, uf_n b]; exact (h3 j hj).2.1
theorem l_49b {S0 : ST} {n m L : Nat} {F T : Nat → Nat} {C W0 : Nat → Int} {q ed pa : Nat → Nat} {d : Int32} {X : Int32 → ST → Prop} {K : Int32 → ST → Prop} (hn : n ≤ 163) (hE : 2 * m ≤ 624) (b : BI S0 n (2 * m) (sE F T) (sE T F) W0 q ed pa L) (hF : ∀ k, k < m → F k < n ∧ T k < n) (hC : ∀ k, k < m → C k ≤ 1000000000) (hd : 0 < d.toInt) : ∀ (N f i k : Nat) (s : ST) (p : Nat → Int), i ≤ f → i < L → i < N → k + i ≤ 162 → Fr fqFi S0 s → HA s n (2 * m) (sE F T) (sE T F) (wE C p) → (∀ j, j < 2 * m → 0 ≤ wE C p j) → (∀ j, j ∈ pth pa f i → d.toInt ≤ wE C p (ed j)) → (∀ s1 p1, Fr fqFi S0 s1 → HA s1 n (2 * m) (sE F T) (sE T F) (wE C p1) → (∀ j, j < 2 * m → 0 ≤ wE C p1 j) → (∀ t : Nat → Int, pot m F T p1 t = pot m F T p t + d.toInt * (t (q i) - t 0)) → X d s1) → w_49_L36 N d (S0.2.1 44 (q i)) (nI k) s X K := by
  have hx : ∀ e, e < 2 * m → xr e < 2 * m ∧ sE T F (xr e) = sE F T e ∧ sE F T e < n := fun e he => ⟨xr_lt he, sE_xr, sE_lt hF e he⟩
  intro N
  induction N with
  | zero => intro f i k s p _ _ z; omega
  | succ N ih =>
    intro f i k s p hf hi hN hk fr hA h0 hp hX
    have e3 : s.1 3711 = nI (2 * m) := hA.2.1
    have e3s : (s.1 3711 - 1).toInt = ((2 * m : Nat) : Int) - 1 := by rw [e3]; exact nI_s1t (by omega)
    rw [w_49_L36, show (163 : Int32) = nI 163 from rfl, nI_leI (by omega) (by omega)]
    unfold w_51
    simp only [e_181, t_181, l_0, e3s]
    refine br_f (by omega) ?_
    by_cases c : i = 0
    · rw [c, b.2.1, b.2.2.2.2.1]
      refine br_t (fun z => absurd z.1 (by decide)) (hX s p fr hA h0 (fun t => ?_))
      rw [c, b.2.1, Int.sub_self, Int.mul_zero, Int.add_zero]
    · obtain ⟨b1, b2, b3, b4, b5, b6⟩ := b.2.2.2.2.2.2 i (by omega) hi
      obtain ⟨f, rfl⟩ : ∃ g, f = g + 1 := ⟨f - 1, by omega⟩
      have ep : pth pa (f + 1) i = i :: pth pa f (pa i) := if_neg c
      rw [ep] at hp
      have hde := hp i List.mem_cons_self
      have hxl := xr_lt b1
      rw [b3, nI_toInt (show ed i < 2 ^ 31 by omega), xr_I (show ed i < 624 by omega), nI_clamp (show ed i < 2 ^ 31 by omega), nI_clamp (show xr (ed i) < 2 ^ 31 by omega)]
      have hA2 := HA_fill hA b1 hd hde h0 hC
      rw [w50v hA2 hn hE b1 (hx _ b1), b5, nI_1]
      have pe : pin (nI (ed i)) 624 = true := pin_nI (by omega) (by omega)
      have px : pin (nI (xr (ed i))) 624 = true := pin_nI (by omega) (by omega)
      refine br_f (fun z => z ⟨by omega, by omega⟩) ⟨pe, pe, px, px, ?_⟩
      show w_49_L36 N d (s.2.1 44 (q (pa i))) (nI (k + 1)) _ X K
      rw [fr.2.1 44 rfl]
      refine ih f (pa i) (k + 1) _ (pfl p (ed i) d.toInt) (by omega) (by omega) (by omega) (by omega) (fr_sA 43 fr) hA2 ?_ ?_ ?_
      · intro j hj
        have w1 := h0 j hj
        have w2 := h0 _ hxl
        rw [wE_pfl, uf_n (f := wE C p) xr_ne]
        by_cases a : j = xr (ed i)
        · rw [a, uf_s]; omega
        · rw [uf_n a]
          by_cases y : j = ed i
          · rw [y, uf_s]; omega
          · rw [uf_n y]; exact w1
      · intro j hj
        obtain ⟨j0, j1⟩ := pth_mem (fun i h1 h2 => (b.2.2.2.2.2.2 i h1 h2).2.1) f (pa i) j (by omega) hj
        obtain ⟨d1, d2, d3, d4, d5, d6⟩ := b.2.2.2.2.2.2 j j0 (by omega)
        have inj := b.2.2.2.1
        have n1 : ¬ ed j = ed i := fun z => by
          rw [z, b4] at d4
          have := inj i j hi (by omega) d4
          omega
        have n2 : ¬ ed j = xr (ed i) := fun z => by
          rw [z, sE_xr, b4] at d5
          have := inj i (pa j) hi (by omega) d5
          omega
        rw [wE_pfl, uf_n n2, uf_n n1]
        exact hp j (List.mem_cons_of_mem _ hj)
      · intro s1 p1 f1 g1 g2 g3
        refine hX s1 p1 f1 g1 g2 (fun t => ?_)
        rw [g3 t, pot_pfl b1, b4, b5]
        simp only [Int.mul_sub]
        omega
theorem mp_49 {s : ST} {n m L i : Nat} {F T : Nat → Nat} {C p : Nat → Int} {q ed pa : Nat → Nat} {K : Int32 → ST → Prop} (hA : HA s n (2 * m) (sE F T) (sE T F) (wE C p)) (hn : n ≤ 163) (hE : 2 * m ≤ 624) (b : BI s n (2 * m) (sE F T) (sE T F) (wE C p) q ed pa L) (hF : ∀ k, k < m → F k < n ∧ T k < n) (hC : ∀ k, k < m → C k ≤ 1000000000) (h0 : ∀ j, j < 2 * m → 0 ≤ wE C p j) (hi : i < L) (hq : q i = 1) (k : ∀ (d : Int32) s1 p1, Fr fqFi s s1 → HA s1 n (2 * m) (sE F T) (sE T F) (wE C p1) → (∀ j, j < 2 * m → 0 ≤ wE C p1 j) → 0 < d.toInt → d.toInt ≤ 1000000000 → (∀ t : Nat → Int, pot m F T p1 t = pot m F T p t + d.toInt * (t 1 - t 0)) → K d s1) : w_49 s K := by
  have hL : L ≤ n := pigeon b.2.2.2.1 (fun i hi => (b.2.2.1 i hi).1)
  have e1 : (1 : Int32).toNatClampNeg = q i := by rw [hq]; rfl
  unfold w_49
  rw [e1]
  refine ⟨rfl, L + 1, l_49a hA hn hE b (fun e he => ⟨xr_lt he, sE_xr, sE_lt hF e he⟩) (L + 1) L i 0 1000000000 (by omega) hi (by omega) (by omega) (by decide) ?_⟩
  intro a1 h1 h2 h3
  refine ⟨rfl, L + 1, l_49b (S0 := s) (W0 := wE C p) hn hE b hF hC h1 (L + 1) L i 0 s p (by omega) hi (by omega) (by omega) (fr_rfl _ _) hA h0 h3 ?_⟩
  intro s1 p1 f1 g1 g2 g3
  exact k a1 s1 p1 f1 g1 g2 h1 (Int.le_trans h2 (by decide)) (fun t => by have := g3 t; rw [hq] at this; exact this)
abbrev fqGr : FS := ([], [43, 44, 45], [], false, false)
theorem l_47 {S0 : ST} {n m : Nat} {F T : Nat → Nat} {C : Nat → Int} {V : Int} {X K : Int32 → ST → Prop} (hn2 : 2 ≤ n) (hn : n ≤ 163) (hE : 2 * m ≤ 624) (hF : ∀ k, k < m → F k < n ∧ T k < n) (hC : ∀ k, k < m → C k ≤ 1000000000) (hV : V ≤ 1000000) (hm : ∀ p v, (∀ k, k < m → 0 ≤ p k ∧ p k ≤ C k) → QF m F T p v 0 1 → v ≤ V) (hX : ∀ s v, Fr fqGr S0 s → Gf m F T C 0 1 V v.toInt → 0 ≤ v.toInt → X v s) : ∀ (N k : Nat) (v : Int32) (s : ST) (p : Nat → Int), k ≤ 1000000 → (k : Int) ≤ v.toInt → V - v.toInt < (N : Int) → Fr fqGr S0 s → HA s n (2 * m) (sE F T) (sE T F) (wE C p) → (∀ j, j < 2 * m → 0 ≤ wE C p j) → QF m F T p v.toInt 0 1 → w_47_L4 N v (nI k) s X K := by
  intro N
  induction N with
  | zero =>
    intro k v s p h1 h2 h3 _ _ h0 qf
    have := hm p _ (wE_b h0) qf
    omega
  | succ N ih =>
    intro k v s p h1 h2 h3 f hA h0 qf
    have hv := hm p _ (wE_b h0) qf
    rw [w_47_L4, show (1000000 : Int32) = nI 1000000 from rfl, nI_leI (by omega) (by omega)]
    by_cases c : 1000000 ≤ k
    · exact br_t c (hX s v f ⟨p, wE_b h0, qf, Or.inl (by omega)⟩ (by omega))
    refine br_f c ?_
    have hb : ∀ e, e < 2 * m → sE F T e < n ∧ sE T F e < n := fun e he => ⟨sE_lt hF e he, sE_lt (fun k hk => ⟨(hF k hk).2, (hF k hk).1⟩) e he⟩
    refine mp_48 hA hn2 hn hE hb ?_ ?_
    · intro s1 q ed pa L f1 hA1 b1 cl no1
      refine br_t rfl (hX s1 v (fr_tr (F := fqVi) rfl f f1) ⟨p, wE_b h0, qf, Or.inr ⟨fun u => decide (u ∈ qlL q L), ?_, ?_, ?_, ?_⟩⟩ (by omega))
      · exact decide_eq_true ((qlL_mem L).mpr ⟨0, b1.1, b1.2.1⟩)
      · refine decide_eq_false (fun z => ?_)
        obtain ⟨i, i1, i2⟩ := (qlL_mem L).mp z
        exact no1 i i1 i2
      · intro k hk u1 u2
        obtain ⟨i, i1, i2⟩ := (qlL_mem L).mp (of_decide_eq_true u1)
        have u2 := of_decide_eq_false u2
        have bk := wE_b h0 k hk
        have s1 : sE F T (2 * k) = F k := by unfold sE; rw [if_pos (by omega), show 2 * k / 2 = k by omega]
        have s2 : sE T F (2 * k) = T k := by unfold sE; rw [if_pos (by omega), show 2 * k / 2 = k by omega]
        have s3 : wE C p (2 * k) = C k - p k := by unfold wE; rw [if_pos (by omega), show 2 * k / 2 = k by omega]
        by_cases z : 0 < C k - p k
        · obtain ⟨j, j1, j2⟩ := cl i i1 (2 * k) (by omega) (by rw [s1, i2]) (by rw [s3]; exact z)
          rw [s2] at j2
          exact absurd ((qlL_mem L).mpr ⟨j, j1, j2⟩) u2
        · omega
      · intro k hk u2 u1
        obtain ⟨i, i1, i2⟩ := (qlL_mem L).mp (of_decide_eq_true u1)
        have u2 := of_decide_eq_false u2
        have bk := wE_b h0 k hk
        have s1 : sE F T (2 * k + 1) = T k := by unfold sE; rw [if_neg (by omega), show (2 * k + 1) / 2 = k by omega]
        have s2 : sE T F (2 * k + 1) = F k := by unfold sE; rw [if_neg (by omega), show (2 * k + 1) / 2 = k by omega]
        have s3 : wE C p (2 * k + 1) = p k := by unfold wE; rw [if_neg (by omega), show (2 * k + 1) / 2 = k by omega]
        by_cases z : 0 < p k
        · obtain ⟨j, j1, j2⟩ := cl i i1 (2 * k + 1) (by omega) (by rw [s1, i2]) (by rw [s3]; exact z)
          rw [s2] at j2
          exact absurd ((qlL_mem L).mpr ⟨j, j1, j2⟩) u2
        · omega
    · intro s1 q ed pa L i f1 hA1 b1 hi hq
      refine br_f (by decide) (mp_49 hA1 hn hE b1 hF hC h0 hi hq ?_)
      intro d s2 p2 f2 hA2 h02 d1 d2 ep
      have qf2 : QF m F T p2 (v.toInt + d.toInt) 0 1 := fun t => by rw [ep t, qf t, Int.add_mul]
      have hv2 := hm p2 _ (wE_b h02) qf2
      have ev : (v + d).toInt = v.toInt + d.toInt := t_add (by omega) (by omega)
      rw [nI_1]
      refine ih (k + 1) (v + d) s2 p2 (by omega) (by omega) (by omega) (fr_tr (F := fqFi) rfl (fr_tr (F := fqVi) rfl f f1) f2) hA2 h02 ?_
      rw [ev]
      exact qf2
theorem mp_47 {s : ST} {n m : Nat} {F T : Nat → Nat} {C : Nat → Int} {V : Int} {K : Int32 → ST → Prop} (hA : HA s n (2 * m) (sE F T) (sE T F) (wE C (fun _ => 0))) (hn2 : 2 ≤ n) (hn : n ≤ 163) (hE : 2 * m ≤ 624) (hF : ∀ k, k < m → F k < n ∧ T k < n) (hC : ∀ k, k < m → 0 ≤ C k ∧ C k ≤ 1000000000) (hV : V ≤ 1000000) (hm : ∀ p v, (∀ k, k < m → 0 ≤ p k ∧ p k ≤ C k) → QF m F T p v 0 1 → v ≤ V) (k : ∀ s1 v, Fr fqGr s s1 → Gf m F T C 0 1 V v.toInt → 0 ≤ v.toInt → K v s1) : w_47 s K := by
  unfold w_47
  refine ⟨V.toNat + 1, l_47 (S0 := s) hn2 hn hE hF (fun k hk => (hC k hk).2) hV hm k (V.toNat + 1) 0 0 s (fun _ => 0) (by omega) (by decide) (by rw [l_0]; omega) (fr_rfl _ _) hA ?_ ?_⟩
  · intro j hj
    have := (hC (j / 2) (by omega)).1
    show 0 ≤ (if j % 2 = 0 then C (j / 2) - 0 else 0)
    split <;> omega
  · intro t
    unfold pot
    rw [l_0, Int.zero_mul]
    exact zs_z m (fun k _ => Int.zero_mul _)
