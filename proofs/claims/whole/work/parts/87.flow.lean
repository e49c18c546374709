/-! ===== the class's net: its beginning, its end ===== -/
def h0D (D : ST) (h : Nat) : Int := (D.2.1 56 h).toInt
theorem l_41a {S0 : ST} {x1 : Int32} {nd F T : Nat → Nat} {hs C : Nat → Int} {X : Int32 → ST → Prop} {K : ST → Prop} (hX : ∀ s, Fr fqFl S0 s → NA s 0 nd hs 3 0 F T C → X x1 s) : ∀ (N j : Nat) (s : ST), j ≤ 3 → 3 - j < N → Fr fqFl S0 s → NA s 0 nd hs j 0 F T C → w_41_L8 N x1 (nI j) s X K := by
  intro N
  induction N with
  | zero => intro j s _ z; omega
  | succ N ih =>
    intro j s hj hN f h
    rw [w_41_L8, show (2 : Int32) = nI 2 from rfl]
    by_cases c : j = 3
    · rw [c] at h ⊢
      exact br_t (nI_lt (by omega) (by omega)) (hX s f h)
    · refine br_f (nI_nlt (by omega) (by omega)) (mp_44 h (by omega) ?_)
      intro s1 f1 h1
      rw [nI_1]
      exact ih (j + 1) s1 (by omega) (by omega) (fr_tr (F := fqN) rfl f f1) h1
theorem NA_more {s : ST} {j n m y : Nat} {nd F T : Nat → Nat} {hs C : Nat → Int} {x : Int32} (h : NA s j nd hs n m F T C) (ey : nd j = y) (ex : hs j = x.toInt) : NA (sA (sA s 38 (upd (s.2.1 38) j (nI y))) 39 (upd (s.2.1 39) j x)) (j + 1) nd hs n m F T C := by
  obtain ⟨hA, hN, hE⟩ := h
  refine ⟨HA_fr (F := ([], [38, 39], [], false, false)) (fr_sA 39 (fr_sA 38 (fr_rfl _ _))) hA, fun f hf => ?_, hE⟩
  show upd (s.2.1 38) j (nI y) f = _ ∧ (upd (s.2.1 39) j x f).toInt = _
  by_cases z : f = j
  · rw [z, pk_us, pk_us, ey, ex]; exact ⟨rfl, rfl⟩
  · rw [pk_un z, pk_un z]; exact hN f (by omega)
theorem bkH10 {D : ST} (h : Bk D) : D.1 101 = nI (nH D) ∧ D.1 5501 = nI (nH D) ∧ nH D ≤ 10 ∧ ∀ k, k < nH D → D.2.1 2 k = D.2.1 56 k ∧ 0 ≤ h0D D k ∧ h0D D k ≤ 1000000 := by
  obtain ⟨_, ⟨h1, h2, h3, h4⟩, _⟩ := h
  have e : D.1 5501 = nI (nH D) := nI_nat h2
  refine ⟨h1.trans e, e, ?_, h4⟩
  have : nH D = (D.1 5501).toInt.toNat := rfl
  omega
theorem w4v {D s : ST} {j : Nat} {K : Int32 → ST → Prop} (hB : Bk D) (f : Fr fsS D s) (hj : j < nH D) : w_4 (nI j) s K = K (D.2.1 56 j) s := by
  obtain ⟨e1, e2, e3, e4⟩ := bkH10 hB
  rw [e_4 _ _ (fun _ _ => pin_nI (by omega) (by omega))]
  unfold v_4
  rw [f.1 101 rfl, e1, f.2.1 2 rfl, if_neg (nI_pos (by omega)), if_neg (by rw [nI_leI (by omega) (by omega)]; omega), nI_clamp (by omega), (e4 j hj).1]
theorem l_41b {D S0 : ST} {x1 : Int32} {F T : Nat → Nat} {C : Nat → Int} {X : Int32 → ST → Prop} {K : ST → Prop} (hB : Bk D) (f0 : Fr fsS D S0) (hX : ∀ s, Fr fqFl S0 s → NA s (nH D) (fun h => 3 + h) (h0D D) (3 + nH D) 0 F T C → X x1 s) : ∀ (N j : Nat) (s : ST), j ≤ nH D → nH D - j < N → Fr fqFl S0 s → NA s j (fun h => 3 + h) (h0D D) (3 + j) 0 F T C → w_41_L18 N x1 (nI j) s X K := by
  obtain ⟨e1, e2, e3, e4⟩ := bkH10 hB
  intro N
  induction N with
  | zero => intro j s _ z; omega
  | succ N ih =>
    intro j s hj hN f h
    rw [w_41_L18, f.1 101 rfl, f0.1 101 rfl, e1, show (10 : Int32) = nI 10 from rfl, nI_leI (by omega) (by omega), nI_leI (by omega) (by omega)]
    by_cases c : nH D ≤ j
    · have : j = nH D := by omega
      rw [this] at h
      exact br_t c (hX s f h)
    refine br_f c (br_f (by omega) (mp_44 h (by omega) ?_))
    intro s1 f1 h1
    rw [nI_clamp (show j < 2 ^ 31 by omega)]
    have g1 : Fr fqFl S0 s1 := fr_tr (F := fqN) rfl f f1
    have g2 : Fr fqFl S0 (sA s1 38 (upd (s1.2.1 38) j (nI (3 + j)))) := fr_sA 38 g1
    refine ⟨pin_nI (by omega) (by omega), ?_⟩
    rw [w4v hB (fr_tr (F := fqFl) rfl f0 g2) (by omega), nI_1]
    exact ⟨pin_nI (by omega) (by omega), ih (j + 1) _ (by omega) (by omega) (fr_sA 39 g2) (NA_more h1 rfl rfl)⟩
theorem mp_41 {D s : ST} {a : Nat} {K : ST → Prop} (hB : Bk D) (f0 : Fr fsS D s) (ha : a < nH D) (k : ∀ s1, Fr fqFl s s1 → NA s1 (nH D) (fun h => 3 + h) (h0D D) (3 + nH D) 1 (uf (fun _ => 0) 0 0) (uf (fun _ => 0) 0 (3 + a)) (uf (fun _ => 0) 0 (h0D D a)) → K s1) : w_41 (nI a) s K := by
  obtain ⟨e1, e2, e3, e4⟩ := bkH10 hB
  unfold w_41
  refine ⟨4, l_41a (S0 := s) (nd := fun h => 3 + h) (hs := h0D D) (F := fun _ => 0) (T := fun _ => 0) (C := fun _ => 0) ?_ 4 0 _ (by omega) (by omega) (fr_sI 3711 (fr_sI 3710 (fr_rfl _ _))) ⟨⟨rfl, rfl, fun j hj => absurd hj (by omega), fun v hv => absurd hv (by omega)⟩, fun h hh => absurd hh (by omega), fun k hk => absurd hk (by omega)⟩⟩
  intro s1 f1 h1
  refine ⟨nH D + 1, l_41b (S0 := s) hB f0 ?_ (nH D + 1) 0 s1 (by omega) (by omega) f1 h1⟩
  intro s2 f2 h2
  have e9 : (9 : Int32).toInt = 9 := rfl
  simp only [e_181, t_181, l_0, e9]
  rw [nI_toInt (show a < 2 ^ 31 by omega), nI_clamp (show a < 2 ^ 31 by omega)]
  have pa : pin (nI a) 10 = true := pin_nI (by omega) (by omega)
  refine br_f (fun z => z ⟨by omega, by omega⟩) ⟨pa, pa, ?_⟩
  have na := h2.2.1 a ha
  rw [na.1]
  have hb := (e4 a ha).2
  refine mp_45 h2 (by omega) (by omega) (f := 0) (by omega) (by show 3 + a < 3 + nH D; omega) (by rw [na.2]; omega) ?_
  intro s3 f3 h3
  rw [na.2] at h3
  exact k s3 (fr_tr (F := fqL) rfl f2 f3) h3
def skB (b : Nat) (mo : Bool) (h : Nat) : Bool := decide (h = b) == mo
def moI (mo : Bool) : Int32 := if mo = true then 1 else 0
theorem l_40s {D S0 : ST} {x1 : Int32} {b n : Nat} {mo : Bool} {nd : Nat → Nat} {hs : Nat → Int} {X : Int32 → Int32 → ST → Prop} {K : Int32 → ST → Prop} (hB : Bk D) (f0 : Fr fsS D S0) (hb : b < nH D) (hd : ∀ g, g < nH D → nd g < n) (hn3 : 3 ≤ n) (hn : n ≤ 163) : ∀ (N j : Nat) (s : ST) (m : Nat) (F T : Nat → Nat) (C : Nat → Int), j ≤ nH D → nH D - j < N → Fr fqFl S0 s → NA s (nH D) nd hs n m F T C → 2 * m + 2 * (nH D - j) ≤ 624 → (∀ s1 m1 F1 T1 C1, Fr fqFl S0 s1 → NA s1 (nH D) nd hs n m1 F1 T1 C1 → m ≤ m1 → m1 ≤ m + (nH D - j) → AgE m F T C F1 T1 C1 → (∀ (F' T' : Nat → Nat) (C' : Nat → Int) M, AgE m1 F1 T1 C1 F' T' C' → SK (nH D) (skB b mo) (!mo) nd (fun _ => 1000000000) 2 1 F' T' C' M 0 m1 → SK (nH D) (skB b mo) (!mo) nd (fun _ => 1000000000) 2 1 F' T' C' M (nH D - j) m) → X x1 (moI mo) s1) → w_40_L20 N x1 (nI b) (moI mo) (nI j) s X K := by
  obtain ⟨e1, e2, e3, e4⟩ := bkH10 hB
  intro N
  induction N with
  | zero => intro j s m F T C _ z; omega
  | succ N ih =>
    intro j s m F T C hj hN f h hm hX
    rw [w_40_L20, f.1 101 rfl, f0.1 101 rfl, e1, show (10 : Int32) = nI 10 from rfl, nI_leI (by omega) (by omega), nI_leI (by omega) (by omega), nI_eq (by omega) (by omega), nI_1, nI_clamp (by omega)]
    by_cases c : nH D ≤ j
    · refine br_t c (hX s m F T C f h (by omega) (by omega) (fun k hk => ⟨rfl, rfl, rfl⟩) ?_)
      intro F' T' C' M ag sk
      rw [show nH D - j = 0 by omega]
      exact sk
    refine br_f c (br_f (by omega) ?_)
    have hj1 : nH D - j = (nH D - (j + 1)) + 1 := by omega
    have hj2 : nH D - (nH D - (j + 1) + 1) = j := by omega
    have skip : skB b mo j = false → w_40_L20 N x1 (nI b) (moI mo) (nI (j + 1)) s X K := by
      intro z
      refine ih (j + 1) s m F T C (by omega) (by omega) f h (by omega) ?_
      intro s1 m1 F1 T1 C1 f1 h1 a1 a2 ag1 sk1
      refine hX s1 m1 F1 T1 C1 f1 h1 a1 (by omega) ag1 ?_
      intro F' T' C' M ag sk
      rw [hj1]
      refine ⟨fun y => ?_, fun _ => sk1 F' T' C' M ag sk⟩
      rw [hj2, z] at y
      cases y
    have nj := (h.2.1 j (by omega)).1
    have take : skB b mo j = true → w_45 (s.2.1 38 j) (1 : Int32) (1000000000 : Int32) s (fun s8 => w_40_L20 N x1 (nI b) (moI mo) (nI (j + 1)) s8 X K) := by
      intro z
      rw [nj]
      have eM : (1000000000 : Int32).toInt = 1000000000 := rfl
      refine mp_45 h hn (by omega) (hd j (by omega)) (t := 1) (by omega) (by rw [eM]; omega) ?_
      intro s1 f1 h1
      rw [eM] at h1
      refine ih (j + 1) s1 _ _ _ _ (by omega) (by omega) (fr_tr (F := fqL) rfl f f1) h1 (by omega) ?_
      intro s2 m2 F2 T2 C2 f2 h2 a1 a2 ag2 sk2
      refine hX s2 m2 F2 T2 C2 f2 h2 (by omega) (by omega) (AgE_tr (by omega) AgE_up ag2) ?_
      intro F' T' C' M ag sk
      rw [hj1]
      refine ⟨fun _ => ?_, fun y => ?_⟩
      · obtain ⟨q1, q2, q3⟩ := ag2 m (by omega)
        obtain ⟨q4, q5, q6⟩ := ag m (by omega)
        rw [uf_s] at q1 q2 q3
        rw [hj2]
        exact ⟨q4.trans q1, q5.trans q2, q6.trans q3, sk2 F' T' C' M ag sk⟩
      · rw [hj2, z] at y
        cases y
    have pj : pin (nI j) 10 = true := pin_nI (by omega) (by omega)
    have m1 : moI true = 1 := rfl
    have m0 : moI false = 0 := rfl
    by_cases d : j = b
    · refine br_f (fun z => z d) ?_
      cases em : mo with
      | true =>
        rw [em] at take
        exact br_f (fun z => z m1.symm) ⟨pj, take (by unfold skB; rw [decide_eq_true d]; rfl)⟩
      | false =>
        rw [em] at skip
        exact br_t (by rw [m0]; decide) (skip (by unfold skB; rw [decide_eq_true d]; rfl))
    · refine br_t d ?_
      cases em : mo with
      | true =>
        rw [em] at skip
        exact br_t (by rw [m1]; decide) (skip (by unfold skB; rw [decide_eq_false d]; rfl))
      | false =>
        rw [em] at take
        exact br_f (fun z => z m0.symm) ⟨pj, take (by unfold skB; rw [decide_eq_false d]; rfl)⟩
