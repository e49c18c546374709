/-! ===== followed ===== -/
theorem l_250w {S0 : ST} {n m a tt : Nat} {F T : Nat → Nat} {C : Nat → Int} {h0 : Int} {x3 : Int32} {X : Int32 → Int32 → Int32 → ST → Prop} {K : Int32 → ST → Prop} (hn : n ≤ 400) (hm : m ≤ 600) (hF : ∀ k, k < m → F k < n ∧ T k < n) (hC : ∀ k, k < m → C k ≤ 1000000000) (hs : 1 + a < n) (ht : tt < n) (hX : ∀ s (left : Int32), Fr fqLd S0 s → 0 ≤ left.toInt → left.toInt ≤ h0 → Gf m F T C (1 + a) tt h0 (h0 - left.toInt) → X (nI a) x3 left s) : ∀ (N : Nat) (left last : Int32) (s : ST) (p : Nat → Int), Fr fqLd S0 s → EB s n m F T C p → (∀ k, k < m → 0 ≤ p k ∧ p k ≤ C k) → 0 ≤ left.toInt → left.toInt ≤ h0 → QF m F T p (h0 - left.toInt) (1 + a) tt → ((0 < last.toInt ∧ left.toInt + 1 < (N : Int)) ∨ (last.toInt ≤ 0 ∧ 0 < N ∧ CutB m F T C p (1 + a) tt)) → w_250_L60 N (nI a) x3 (nI tt) left last s X K := by
  intro N
  induction N with
  | zero =>
    intro left last s p _ _ _ h1 _ _ h
    rcases h with ⟨_, h⟩ | ⟨_, h, _⟩ <;> omega
  | succ N ih =>
    intro left last s p f e hp h1 h2 qf h
    rw [w_250_L60]
    by_cases c : left ≤ 0
    · have c2 := c
      rw [i_le, l_0] at c2
      exact br_t c (hX s left f h1 h2 ⟨p, hp, qf, Or.inl (by omega)⟩)
    · refine br_f c ?_
      rw [i_le, l_0] at c
      rcases h with ⟨z1, z2⟩ | ⟨z1, z2, z3⟩
      · refine br_f (by rw [i_le, l_0]; omega) ?_
        rw [show (1 : Int32) = nI 1 from rfl, nI_add]
        have r1 := i_lo left
        have r2 := i_hi left
        refine mp_249 e hn hm hF hC hp hs ht (by omega) ?_ ?_
        · intro s1 f1 e1 cut
          have e0 : left - 0 = left := by rw [i_eq, t_sub] <;> rw [l_0] <;> omega
          rw [e0]
          exact ih left 0 s1 p (fr_tr (F := fqLd) rfl f f1) e1 hp h1 h2 qf (Or.inr ⟨by decide, by omega, cut⟩)
        · intro d s1 p1 f1 e1 hp1 d1 d2 ep
          have ed : (left - d).toInt = left.toInt - d.toInt := t_sub (by omega) (by omega)
          refine ih (left - d) d s1 p1 (fr_tr (F := fqLd) rfl f f1) e1 hp1 (by omega) (by omega) ?_ (Or.inl ⟨d1, by omega⟩)
          intro t
          rw [ep t, qf t, ed, ← Int.add_mul, show h0 - left.toInt + d.toInt = h0 - (left.toInt - d.toInt) by omega]
      · exact br_t (by rw [i_le, l_0]; exact z1) (hX s left f h1 h2 ⟨p, hp, qf, Or.inr z3⟩)
abbrev fqRf : FS := ([5520, 5557, 5558], [72, 73, 74, 96, 97, 98, 99, 100, 101, 102], [], false, false)
def FB1 (D : ST) (t : Int32) (a b : Nat) (mo : Bool) (v : Int) : Prop := ∃ (F T : Nat → Nat) (C : Nat → Int) (M tt : Nat), BB F T C (fun nd hs n m => tt = n ∧ SK (nH D) (skB b mo) (!mo) nd hs 0 tt F T C M (nH D) m) ((kL D t).map (rwD D t)) (fun h => 1 + h) (h0D D) (1 + nH D) 0 ∧ Gf M F T C (1 + a) tt (h0D D a) v ∧ 0 ≤ v ∧ v ≤ h0D D a
theorem mp_250e {D S0 s : ST} {n m a tt : Nat} {mo : Bool} {nd F T : Nat → Nat} {hs C : Nat → Int} {K : Int32 → ST → Prop} (hB : Bk D) (fD : Fr fsS D s) (ha : a < nH D) (f0 : Fr fqRf S0 s) (h : NB s (nH D) nd hs n m F T C) (hn : n ≤ 400) (hm : m ≤ 600) (ha1 : 1 + a < n) (ht : tt < n) (k : ∀ s1 (r : Int32) (v : Int), Fr fqRf S0 s1 → Gf m F T C (1 + a) tt (h0D D a) v → 0 ≤ v → v ≤ h0D D a → r.toInt = (if mo = true then v else h0D D a - v) → K r s1) : ∃ N, w_250_L60 N (nI a) (moI mo) (nI tt) (s.2.1 56 a) (1 : Int32) s (fun y1 y3 y5 s18 => ((y3 = 0 → K y5 s18) ∧ (¬ (y3 = 0) → (pin y1 10 = true ∧ K (((s18.2.1 56) (y1).toNatClampNeg) - y5) s18)))) K := by
  obtain ⟨e1, e2, e3, e4⟩ := bkH10 hB
  have hha := (e4 a ha).2
  have eh : (D.2.1 56 a).toInt = h0D D a := rfl
  rw [fD.2.1 56 rfl]
  refine ⟨(h0D D a).toNat + 3, l_250w (S0 := s) (h0 := h0D D a) hn hm (fun k hk => ⟨(h.2.2 k hk).1, (h.2.2 k hk).2.1⟩) (fun k hk => (h.2.2 k hk).2.2.2) ha1 ht ?_ ((h0D D a).toNat + 3) (D.2.1 56 a) 1 s (fun _ => 0) (fr_rfl _ _) h.1 (fun k hk => ⟨by omega, (h.2.2 k hk).2.2.1⟩) hha.1 (by omega) ?_ (Or.inl ⟨by decide, by omega⟩)⟩
  · intro s1 left f1 l1 l2 gf
    have g1 : Fr fqRf S0 s1 := fr_tr (F := fqLd) rfl f0 f1
    cases mo with
    | true =>
      refine br_f (by decide) ⟨pin_nI (by omega) (by omega), ?_⟩
      rw [nI_clamp (show a < 2 ^ 31 by omega), f1.2.1 56 rfl, fD.2.1 56 rfl]
      refine k s1 _ _ g1 gf (by omega) (by omega) ?_
      rw [if_pos rfl, t_sub] <;> rw [eh] <;> omega
    | false =>
      refine br_t rfl (k s1 _ _ g1 gf (by omega) (by omega) ?_)
      rw [if_neg (by decide)]
      omega
  · intro t
    rw [eh, Int.sub_self, Int.zero_mul]
    exact zs_z m (fun k _ => Int.zero_mul _)
theorem mp_250 {D s : ST} {a b : Nat} {mo : Bool} {K : Int32 → ST → Prop} (hB : Bk D) (fD : Fr fsS D s) (ha : a < nH D) (hb : b < nH D) (k : ∀ s1 (r : Int32) (v : Int), Fr fqRf s s1 → FB1 D (D.1 5500) a b mo v → r.toInt = (if mo = true then v else h0D D a - v) → K r s1) : w_250 (nI a) (nI b) (moI mo) s K := by
  obtain ⟨e1, e2, e3, e4⟩ := bkH10 hB
  have hha := (e4 a ha).2
  have es : s.1 5501 = nI (nH D) := by rw [fD.1 5501 rfl, e2]
  have pa : pin (nI a) 10 = true := pin_nI (by omega) (by omega)
  unfold w_250
  simp only [e_189, t_189, es]
  rw [nI_toInt (show a < 2 ^ 31 by omega), nI_toInt (show b < 2 ^ 31 by omega), nI_toInt (show nH D < 2 ^ 31 by omega)]
  refine br_f (fun z => z ⟨by omega, by omega⟩) (br_t (fun z => z ⟨by omega, by omega⟩) ?_)
  rw [fD.1 5500 rfl]
  refine mp_197 hB fD ?_
  intro s1 f1 r1
  have F1 : Fr fqRf s s1 := fr_weak rfl f1
  refine mp_248 hB (fr_tr (F := fq197) rfl fD f1) r1 ?_
  intro s2 nd hs n m F T C f2 h2 z1 z2 z3 d2 b2 bb2
  have F2 : Fr fqRf s s2 := fr_tr (F := fqRB) rfl F1 f2
  refine mp_247 h2 ?_
  intro s3 f3 h3
  have F3 : Fr fqRf s s3 := fr_tr (F := fqRN) rfl F2 f3
  have G3 : Fr fsS D s3 := fr_tr (F := fqRf) rfl fD F3
  refine ⟨nH D + 1, l_250s (S0 := s3) (mo := mo) (tt := n) hB G3 hb (fun g hg => by have := d2 g hg; omega) (by omega) b2 (nH D + 1) 0 s3 m F T C (by omega) (by omega) (fr_rfl _ _) h3 (by omega) ?_⟩
  intro s4 m4 F4 T4 C4 f4 h4 y1 y2 ag4 sk4
  have F4' : Fr fqRf s s4 := fr_tr (F := fqRE) rfl F3 f4
  rw [nI_clamp (show a < 2 ^ 31 by omega)]
  cases mo with
  | true =>
    refine br_t (by decide) ⟨pa, ?_⟩
    have g4 := bb2 F4 T4 C4 (fun nd hs n' m => n = n' ∧ SK (nH D) (skB b true) (!true) nd hs 0 n F4 T4 C4 m4 (nH D) m) ag4 ⟨rfl, sk4 F4 T4 C4 m4 AgE_rf ⟨fun z => absurd z (by decide), fun _ => rfl⟩⟩
    refine mp_250e (S0 := s) (mo := true) hB (fr_tr (F := fqRE) rfl G3 f4) ha F4' h4 (by omega) (by omega) (by omega) (by omega) ?_
    intro s5 r v f5 gf v0 v1 er
    exact k s5 r v f5 ⟨F4, T4, C4, m4, n, g4, gf, v0, v1⟩ er
  | false =>
    refine br_f (fun z => z rfl) ?_
    have eM : (1000000000 : Int32).toInt = 1000000000 := rfl
    refine mp_246 h4 (by omega) (f := 0) (t := n) (by omega) (by omega) (by rw [eM]; omega) ?_
    intro s5 f5 h5
    rw [eM] at h5
    have agU : AgE m4 F4 T4 C4 (uf F4 m4 0) (uf T4 m4 n) (uf C4 m4 1000000000) := AgE_up
    have g4 := bb2 (uf F4 m4 0) (uf T4 m4 n) (uf C4 m4 1000000000) (fun nd hs n' m => n = n' ∧ SK (nH D) (skB b false) (!false) nd hs 0 n (uf F4 m4 0) (uf T4 m4 n) (uf C4 m4 1000000000) (m4 + 1) (nH D) m) (AgE_tr y1 ag4 agU) ⟨rfl, sk4 _ _ _ (m4 + 1) agU ⟨fun _ => ⟨uf_s, uf_s, uf_s, rfl⟩, fun z => absurd z (by decide)⟩⟩
    refine ⟨pa, ?_⟩
    refine mp_250e (S0 := s) (mo := false) hB (fr_tr (F := fqRE) rfl (fr_tr (F := fqRE) rfl G3 f4) f5) ha (fr_tr (F := fqRE) rfl F4' f5) h5 (by omega) (by omega) (by omega) (by omega) ?_
    intro s6 r v f6 gf v0 v1 er
    exact k s6 r v f6 ⟨_, _, _, m4 + 1, n, g4, gf, v0, v1⟩ er
theorem fl_one {D : ST} {t : Int32} {a b : Nat} {mo : Bool} {va vb : Int} (hB : Bk D) (ha : a < nH D) (hA : FA1 D t a b mo va) (hC : FB1 D t a b mo vb) : va = vb := by
  obtain ⟨e1, e2, e3, e4⟩ := bkH10 hB
  have h150 := kL_150 hB (t := t)
  obtain ⟨F, T, C, M, g1, g2, g3, g4, g5⟩ := hA
  obtain ⟨F', T', C', M', tt, k1, k2, k3, k4⟩ := hC
  exact fl_eq (rwD_all hB) (by rw [List.length_map]; exact h150) ha (fun h hh => (e4 h hh).2) g1 g2 g3 g4 k1 g5 k2 k3 k4
theorem sp_13m {t : Nat} {s : ST} {mo : Bool} {X F : ST → Prop} {K : Int32 → ST → Prop} (a1 a2 : Int32) (h : J t s) (hX : ∀ s1, J (t + 1) s1 → X s1) (hK : ∀ r s1, w_250 a1 a2 (moI mo) s1 (fun r4 s3 => ((r = r4 → X s3) ∧ (¬ (r = r4) → F s3))) → K r s1) : w_147 a1 a2 (moI mo) s K := by
  have hB := J_Bk h
  obtain ⟨e1, e2, e3, e4⟩ := bkH10 hB
  have et : (nI (nH s)).toInt = (nH s : Int) := nI_toInt (by omega)
  unfold w_147
  simp only [e_1, t_1, e1, et]
  by_cases c1 : 0 ≤ a1.toInt ∧ a1.toInt < (nH s : Int)
  · refine br_f (fun z => z c1) ?_
    by_cases c2 : 0 ≤ a2.toInt ∧ a2.toInt < (nH s : Int)
    · refine br_t (fun z => z c2) ?_
      have ha : s.1 100 = s.1 5500 := h.1.1
      rw [ha]
      refine mp_111 hB (fr_rfl _ _) (J_vie h) ?_
      intro s1 f1 v1 jv
      obtain ⟨a, la, ea⟩ := of_rng c1.1 c1.2
      obtain ⟨b, lb, eb⟩ := of_rng c2.1 c2.2
      rw [ea, eb]
      rw [ea, eb] at hK
      refine mp_40 hB v1.2.1 la lb ?_
      intro s2 r v f2 fa er
      refine hK r s2 ?_
      have g2 : Fr fsQ s s2 := fr_tr (F := fqFl) rfl (fr_weak rfl f1) f2
      refine mp_250 hB (fr_weak rfl g2) la lb ?_
      intro s3 r3 v3 f3 fb er3
      have ev := fl_one hB la fa fb
      refine br_t (by rw [i_eq, er, er3, ev]) (hX _ (J_Q (fr_tr (F := fqRf) rfl g2 f3) h ?_))
      exact Jvie_G f3 (Jvie_G f2 jv)
    · refine br_f (fun z => z c2) (hK _ _ ?_)
      unfold w_250
      simp only [e_189, t_189, e2, et]
      exact br_f (fun z => z c1) (br_f (fun z => z c2) (br_t (by trivial) (hX _ (J_s h))))
  · refine br_t c1 (hK _ _ ?_)
    unfold w_250
    simp only [e_189, t_189, e2, et]
    exact br_t c1 (br_t (by trivial) (hX _ (J_s h)))
theorem sp_13 {t : Nat} {s : ST} {X F : ST → Prop} (a1 : Int32) (a2 : Int32) (a3 : Int32) (h : J t s) (hX : ∀ s1, J (t + 1) s1 → X s1) : st_13 a1 a2 a3 s X F := by
  unfold st_13
  by_cases c : a3 = 0
  · exact br_t c (sp_13m (mo := false) a1 a2 h hX (fun r s1 w => br_t c w))
  · exact br_f c (sp_13m (mo := true) a1 a2 h hX (fun r s1 w => br_f c w))
