/-! ===== fits, fitted ===== -/
abbrev fqRR : FS := ([5520], [72, 73, 74, 103, 104, 105, 106], [92, 93], false, false)
theorem mp_255 {D s : ST} {c : Nat} {days x x4 : Int32} {K : Int32 → ST → Prop} (hB : Bk D) (hj : Jrul D) (hc : c < nC D) (f0 : Fr fsS D s) (hu : s.1 5552 = -2) (hds : 0 ≤ days.toInt ∧ days.toInt ≤ 3999) (hx : 0 ≤ x.toInt ∧ x.toInt ≤ 4000000) (k : ∀ s1, Fr fqRR s s1 → (¬ x4 = 0 → FB D (nK D (20 + c)) (EE (gQ D (20 + c) days.toInt) (wP D) (nK D (20 + c)) (nP D) [] 0 x.toInt) s1) → K (nI (min 100000 (EE (gQ D (20 + c) days.toInt) (wP D) (nK D (20 + c)) (nP D) [] 0 x.toInt).length)) s1) : w_255 (nI c) days x x4 s K := by
  obtain ⟨h4, h1, h86, hcod⟩ := chn hj hc
  have hc6 : c < 6 := by have := hj.2.2.2.2.2.2.1; omega
  unfold w_255
  rw [f0.1 5500 rfl]
  refine mp_197 hB f0 ?_
  intro s1 f1 r1
  have e20 : (20 : Int32) + nI c = nI (20 + c) := nI_add 20 c
  have fD1 : Fr fsS D s1 := fr_tr (F := fq197) rfl f0 f1
  rw [e20, nI_clamp (by omega), fD1.2.1 86 rfl, h86]
  refine ⟨pin_nI (by omega) (by omega), nP D + 1, ?_⟩
  refine l_255t hB hj hc fD1 r1 (by rw [f1.1 5552 rfl]; exact hu) ?_ (nP D) 0 s1 (by omega) (fr_rfl _ _) (fun a ha => absurd ha (by omega))
  intro s2 f2 hi2
  refine ⟨rfl, MS D (nK D (20 + c)) [] 0 + 1, ?_⟩
  have f02 : Fr fqRR s s2 := fr_tr (F := fq105) rfl (fr_weak rfl f1) f2
  have fD2 : Fr fsS D (sA s2 104 (upd (s2.2.1 104) 0 0)) := fr_sA 104 (fr_tr (F := fq105) rfl fD1 f2)
  refine l_255 (S0 := sA s2 104 (upd (s2.2.1 104) 0 0)) hB hj hc fD2 (RW_g (fr_sA (F := fqG) 104 (fr_rfl _ _)) (RW_g f2 r1)) hi2 hds hx ?_ (MS D (nK D (20 + c)) [] 0 + 1) [] 0 [] _ (Nat.lt_succ_self _) (by show 0 < _; omega) (Nat.zero_le _) (fr_rfl _ _) trivial (by show upd (s2.2.1 104) 0 0 0 = 0; exact pk_us) ?_ (fun z => absurd rfl z)
  · intro s3 f3 hb
    exact k s3 (fr_tr (F := fqG) rfl (fr_sA 104 f02) f3) hb
  · show [] ++ (EE (gQ D (20 + c) days.toInt) (wP D) (nK D (20 + c)) (nP D) [] 0 (x.toInt - (0 : Nat)) ++ []) = _
    rw [List.nil_append, List.append_nil, show x.toInt - ((0 : Nat) : Int) = x.toInt by omega]
/-- the call's numbers are good -/
def okCh (D : ST) (a1 a2 a3 : Int32) : Prop := (0 ≤ a1.toInt ∧ a1.toInt < nC D) ∧ (0 ≤ a2.toInt ∧ a2.toInt ≤ 3999) ∧ (0 ≤ a3.toInt ∧ a3.toInt ≤ 4000000)
abbrev fqY : FS := ([800, 801, 5007, 5008], [9, 10, 11, 12, 13, 14, 15, 51, 54], [17, 18], false, false)
theorem mp_152 {t : Nat} {s : ST} {a1 a2 a3 : Int32} {K : Bool → ST → Prop} (h : J t s) (k0 : ¬ okCh s a1 a2 a3 → K false s) (k1 : okCh s a1 a2 a3 → ∀ s1, Fr fqY s s1 → Jvie s1 → FI s (20 + a1.toNatClampNeg) (nK s (20 + a1.toNatClampNeg)) a2 s1 → K true s1) : w_152 a1 a2 a3 s K := by
  have hB := J_Bk h
  have hrul := J_rul h
  have hsca := J_sca h
  have hC6 := hrul.2.2.2.2.2.2.1
  have e22 : (s.1 2202 - 1).toInt = (nC s : Int) - 1 := by rw [hrul.2.2.2.2.1]; exact nI_s1t (by omega)
  have e4 : (4000000 : Int32).toInt = 4000000 := rfl
  unfold w_152 w_297_R22
  simp only [e_181, t_181, e_182, t_182, l_0, e22, e4]
  unfold okCh at k0 k1
  by_cases c1 : 0 ≤ a1.toInt ∧ a1.toInt ≤ (nC s : Int) - 1
  · refine br_f (fun z => z c1) ?_
    by_cases c2 : 0 ≤ a2.toInt ∧ a2.toInt ≤ 3999
    · refine br_f (fun z => z c2) ?_
      by_cases c3 : 0 ≤ a3.toInt ∧ a3.toInt ≤ 4000000
      · refine br_t (fun z => z c3) ?_
        obtain ⟨j, hj, e⟩ := of_rng (n := nC s) c1.1 (by omega)
        subst e
        rw [nI_clamp (by omega)] at k1
        have ha : s.1 100 = s.1 5500 := h.1.1
        rw [ha]
        refine mp_111 hB (fr_rfl _ _) (J_vie h) ?_
        intro s1 f1 v1 jv
        refine mp_R22 hrul (f1.1 2202 rfl) (by
          have e1 := f1.2.2.2.1 rfl
          have e2 := f1.2.2.2.2 rfl
          exact Prod.ext e1 e2) hj ?_
        intro y ty
        have tyZ := ty
        obtain ⟨t1, t2, t3, v, mc, b, cap, g, p1, _⟩ := tyZ
        refine ⟨_, by rw [f1.2.2.2.2 rfl]; exact p1, ?_⟩
        obtain ⟨h4, _⟩ := chn hrul hj
        refine mp_26 (I := 20 + j) hB ty (by omega) h4 v1 (by rw [f1.1 1600 rfl]; exact hsca.1) ?_
        intro s2 f2 hI
        exact k1 ⟨⟨c1.1, by omega⟩, c2, c3⟩ s2 (fr_tr (F := fqPr) rfl (fr_weak rfl f1) f2) (Jvie_G f2 jv) hI
      · exact br_f (fun z => z c3) (k0 (fun z => c3 z.2.2))
    · exact br_t c2 (k0 (fun z => c2 z.2.1))
  · exact br_t c1 (k0 (fun z => c1 ⟨z.1.1, by omega⟩))
theorem mp_256 {D s : ST} {a1 a2 a3 : Int32} {K : Int32 → ST → Prop} (h : Jrul D) (e : s.1 5542 = D.1 5542) (k0 : ¬ okCh D a1 a2 a3 → K 0 s) (k1 : okCh D a1 a2 a3 → K 1 s) : w_256 a1 a2 a3 s K := by
  have hC6 := h.2.2.2.2.2.2.1
  have e4 : (4000000 : Int32).toInt = 4000000 := rfl
  have e9 : (3999 : Int32).toInt = 3999 := rfl
  have e5 : (s.1 5542).toInt = nC D := by rw [e, h.2.2.2.2.2.1]; exact nI_toInt (by omega)
  unfold okCh at k0 k1
  unfold w_256
  simp only [e_186, t_186, l_0, e4, e9]
  rw [i_lt, i_le, l_0, e5]
  by_cases c1 : a1.toInt < 0
  · exact br_t c1 (k0 (fun z => by omega))
  · refine br_f c1 ?_
    by_cases c2 : (nC D : Int) ≤ a1.toInt
    · exact br_t c2 (k0 (fun z => by omega))
    · refine br_f c2 ?_
      by_cases c3 : 0 ≤ a2.toInt ∧ a2.toInt ≤ 3999
      · refine br_f (fun z => z c3) ?_
        by_cases c4 : 0 ≤ a3.toInt ∧ a3.toInt ≤ 4000000
        · exact br_f (fun z => z c4) (k1 ⟨⟨by omega, by omega⟩, c3, c4⟩)
        · exact br_t c4 (k0 (fun z => c4 z.2.2))
      · exact br_t c3 (k0 (fun z => c3 z.2.1))
theorem sp_16 {t : Nat} {s : ST} {X F : ST → Prop} (a1 : Int32) (a2 : Int32) (a3 : Int32) (h : J t s) (hX : ∀ s1, J (t + 1) s1 → X s1) : st_16 a1 a2 a3 s X F := by
  have hB := J_Bk h
  have hrul := J_rul h
  have hsca := J_sca h
  have hC6 := hrul.2.2.2.2.2.2.1
  unfold st_16 w_150
  refine mp_152 h ?_ ?_
  · intro hn
    refine ⟨fun z => absurd z (by decide), fun _ => ?_⟩
    unfold w_257
    refine mp_256 hrul rfl (fun _ => br_t rfl (br_t rfl (hX _ (J_s h)))) (fun z => absurd z hn)
  · intro hok s1 f1 jv hI
    refine ⟨fun _ => ?_, fun z => absurd z (by decide)⟩
    obtain ⟨j, hj, e⟩ := of_rng (n := nC s) hok.1.1 hok.1.2
    obtain ⟨h4, h1, _⟩ := chn hrul hj
    subst e
    rw [nI_clamp (by omega)] at hI
    refine mp_27 hB hI h4 h1 hok.2.1 hok.2.2 ?_
    intro s2 f2
    have fQ2 : Fr fsQ s s2 := fr_tr (F := fqF2) rfl (fr_weak rfl f1) f2
    unfold w_257
    refine mp_256 (D := s) hrul (fQ2.1 5542 rfl) (fun z => absurd hok z) (fun _ => br_f (by decide) ?_)
    refine mp_255 hB hrul hj (fr_weak rfl fQ2) (by rw [fQ2.1 5552 rfl]; exact hsca.2) hok.2.1 hok.2.2 ?_
    intro s3 f3 _
    exact br_t rfl (hX _ (J_Q (fr_tr (F := fqRR) rfl fQ2 f3) h (Jvie_G f3 (Jvie_G f2 jv))))
theorem lex_eq : ∀ a b : List Nat, a.length = b.length → lex a b = false → lex b a = false → a = b
  | [], [], _, _, _ => rfl
  | [], _ :: _, h, _, _ => by cases h
  | _ :: _, [], h, _, _ => by cases h
  | x :: a, y :: b, h, h1, h2 => by
    rw [lex] at h1 h2
    by_cases c : x = y
    · subst c
      rw [if_pos rfl] at h1 h2
      rw [lex_eq a b (Nat.succ.inj h) h1 h2]
    · rw [if_neg c] at h1
      rw [if_neg (fun z => c z.symm)] at h2
      have q1 := of_decide_eq_false h1
      have q2 := of_decide_eq_false h2
      omega
theorem VAL_len {g : List Nat → Nat → Bool} {w : Nat → Nat} {n : Nat} : ∀ l pre k x u, VAL g w n l pre k x u → u.length = l
  | 0, _, _, _, u, h => by rw [h.1]; rfl
  | l + 1, pre, k, x, u, h => by
    obtain ⟨p, v, e, _, _, _, h2⟩ := h
    rw [e, List.length_cons, VAL_len l _ _ _ v h2]
theorem sp_17 {t : Nat} {s : ST} {X F : ST → Prop} (a1 : Int32) (a2 : Int32) (a3 : Int32) (a4 : Int32) (h : J t s) (hX : ∀ s1, J (t + 1) s1 → X s1) : st_17 a1 a2 a3 a4 s X F := by
  have hB := J_Bk h
  have hrul := J_rul h
  have hsca := J_sca h
  have hC6 := hrul.2.2.2.2.2.2.1
  unfold st_17 w_151
  refine mp_152 h ?_ ?_
  · intro hn
    refine ⟨fun z => absurd z (by decide), fun _ => ?_⟩
    unfold w_258
    refine mp_256 hrul rfl (fun _ => br_t rfl (br_t rfl (hX _ (J_s h)))) (fun z => absurd z hn)
  · intro hok s1 f1 jv hI
    refine ⟨fun _ => ?_, fun z => absurd z (by decide)⟩
    obtain ⟨j, hj, e⟩ := of_rng (n := nC s) hok.1.1 hok.1.2
    obtain ⟨h4, h1, h86, _⟩ := chn hrul hj
    subst e
    rw [nI_clamp (by omega)] at hI
    have e20 : (20 : Int32) + nI j = nI (20 + j) := nI_add 20 j
    have ref : ∀ (r : Int32) s2, Fr fqF2 s1 s2 → (¬ (0 ≤ a4.toInt ∧ a4.toInt < nK s (20 + j)) → r = -1) → (0 ≤ a4.toInt ∧ a4.toInt < nK s (20 + j) → ∀ s3, (EE (gQ s (20 + j) a2.toInt) (wP s) (nK s (20 + j)) (nP s) [] 0 a3.toInt = [] → r = -1) ∧ (EE (gQ s (20 + j) a2.toInt) (wP s) (nK s (20 + j)) (nP s) [] 0 a3.toInt ≠ [] → FB s (nK s (20 + j)) (EE (gQ s (20 + j) a2.toInt) (wP s) (nK s (20 + j)) (nP s) [] 0 a3.toInt) s3 → r = s3.2.1 106 a4.toNatClampNeg)) → w_258 (nI j) a2 a3 a4 s2 (fun r4 s3 => ((r = r4 → X s3) ∧ (¬ (r = r4) → F s3))) := by
      intro r s2 f2 hr1 hr2
      have fQ2 : Fr fsQ s s2 := fr_tr (F := fqF2) rfl (fr_weak rfl f1) f2
      have jv2 := Jvie_G f2 jv
      unfold w_258
      refine mp_256 (D := s) hrul (fQ2.1 5542 rfl) (fun z => absurd hok z) (fun _ => br_f (by decide) ?_)
      rw [e20, nI_clamp (by omega), fQ2.2.1 86 rfl, h86]
      refine ⟨pin_nI (by omega) (by omega), ?_⟩
      have e7 : (nI (nK s (20 + j)) - 1).toInt = (nK s (20 + j) : Int) - 1 := nI_s1t (by omega)
      simp only [e_186, t_186, l_0, e7]
      by_cases c : 0 ≤ a4.toInt ∧ a4.toInt ≤ (nK s (20 + j) : Int) - 1
      · refine br_f (fun z => z c) ?_
        refine mp_255 hB hrul hj (fr_weak rfl fQ2) (by rw [fQ2.1 5552 rfl]; exact hsca.2) hok.2.1 hok.2.2 ?_
        intro s3 f3 hfb
        have x3 := hX _ (J_Q (fr_tr (F := fqRR) rfl fQ2 f3) h (Jvie_G f3 jv2))
        have hh := hr2 ⟨c.1, by omega⟩ s3
        have e0 : (0 : Int32) = nI 0 := rfl
        by_cases z : EE (gQ s (20 + j) a2.toInt) (wP s) (nK s (20 + j)) (nP s) [] 0 a3.toInt = []
        · rw [z]
          exact br_f (fun y => y rfl) (br_t (hh.1 z) x3)
        · have hl : 0 < (EE (gQ s (20 + j) a2.toInt) (wP s) (nK s (20 + j)) (nP s) [] 0 a3.toInt).length := List.length_pos_iff.mpr z
          refine br_t (fun y => ?_) ⟨pin_of c.1 (by omega), br_t (hh.2 z (hfb (by decide))) x3⟩
          rw [e0, nI_eq (by omega) (by omega)] at y
          omega
      · refine br_t c (br_t (hr1 (fun z => c ⟨z.1, by omega⟩)) (hX _ (J_Q fQ2 h jv2)))
    refine mp_29 hB hI h4 h1 hok.2.1 hok.2.2 ?_ ?_ ?_
    · intro hn
      exact ref (-1) s1 (fr_rfl _ _) (fun _ => rfl) (fun z => absurd z hn)
    · intro hz s2 f2
      exact ref (-1) s2 f2 (fun _ => rfl) (fun _ s3 => ⟨fun _ => rfl, fun z => absurd hz z⟩)
    · intro u s2 hw hu f2
      refine ref _ s2 f2 (fun z => absurd hw z) (fun _ s3 => ⟨fun z => ?_, fun _ hfb => ?_⟩)
      · rw [z] at hu
        have := hu.1
        cases this
      · obtain ⟨b, b1, b2, b3⟩ := hfb (fun z => by rw [z] at hu; have := hu.1; cases this)
        have lu : u.length = nK s (20 + j) := VAL_len _ _ _ _ _ (LST_MIN hu).1
        have em : u.map (ro s) = b.map (ro s) := lex_eq _ _ (by rw [List.length_map, List.length_map, lu, b2]) (b1.2 u hu.1) (hu.2 b b1.1)
        obtain ⟨i, hi, ei⟩ := of_rng (n := nK s (20 + j)) hw.1 hw.2
        rw [ei, nI_clamp (by omega)]
        have q1 : u[i]? = some (u.getD i 0) := by rw [List.getD_eq_getElem?_getD, List.getElem?_eq_getElem (by omega)]; rfl
        have q2 : b[i]? = some (b[i]'(by omega)) := List.getElem?_eq_getElem (by omega)
        have q3 : (u.map (ro s))[i]? = (b.map (ro s))[i]? := by rw [em]
        rw [List.getElem?_map, List.getElem?_map, q1, q2] at q3
        have q4 : ro s (u.getD i 0) = ro s (b[i]'(by omega)) := by injection q3
        rw [q4, (b3 i _ q2).1]
