/-! ===== the reference's search for rows that fit ===== -/
/-- the chain that both keep -/
theorem chn {D : ST} {c : Nat} (hj : Jrul D) (hc : c < nC D) : nK D (20 + c) ≤ 4 ∧ 1 ≤ nK D (20 + c) ∧ D.2.1 86 (20 + c) = nI (nK D (20 + c)) ∧ ∀ j, j < nK D (20 + c) → CodR D (20 + c) j ∧ 0 ≤ (D.2.1 90 (10 * (20 + c) + j)).toInt ∧ (D.2.1 90 (10 * (20 + c) + j)).toInt ≤ 7 := by
  obtain ⟨_, _, _, _, _, _, _, h8⟩ := hj
  rcases h8 with z | ⟨b, cap, g, q1, q2, q3, q4, q5⟩
  · omega
  · obtain ⟨r0, y, r1, r2⟩ := q5 c hc
    obtain ⟨t1, t2, t3, v, mc, b2, cap2, g2, k1, k2, k3, k4, k5⟩ := r2
    refine ⟨r0, t2, t1, fun j hj => ?_⟩
    obtain ⟨c2, e1, kd, m, tg, tc, o1, o2, o3, o4, o5⟩ := k5 j hj
    obtain ⟨p1, p2, p3, p4⟩ := o3 (by omega)
    rw [← p2]
    exact ⟨(o5 (by rw [p1]; decide)).1, p3, p4⟩
abbrev fq105 : FS := ([], [105], [92, 93], false, false)
def IS (D : ST) (I q : Nat) (s : ST) : Prop := ∀ p, p < nP D → ∀ k, k < q → s.2.1 105 (4 * p + k) = if fH D I k p = true then 1 else 0
theorem l_255s {D S0 : ST} {c p : Nat} {x2 x3 x4 : Int32} {X : Int32 → Int32 → Int32 → Int32 → Int32 → Int32 → ST → Prop} {K : Int32 → ST → Prop} (hB : Bk D) (hj : Jrul D) (hc : c < nC D) (hp : p < nP D) (hX : ∀ s, Fr fq105 S0 s → (∀ k, k < nK D (20 + c) → s.2.1 105 (4 * p + k) = if fH D (20 + c) k p = true then 1 else 0) → (∀ i, i < 4 * p → s.2.1 105 i = S0.2.1 105 i) → X (nI c) x2 x3 x4 (nI (nK D (20 + c))) (nI p) s) : ∀ m k s, k + m = nK D (20 + c) → Fr fsS D s → Fr fq105 S0 s → (∀ j, j < 13 → s.2.2.1 93 j = fxv D (D.1 5500) (ro D p) (-1) j) → (∀ i, i < k → s.2.1 105 (4 * p + i) = if fH D (20 + c) i p = true then 1 else 0) → (∀ i, i < 4 * p → s.2.1 105 i = S0.2.1 105 i) → w_255_L25 (m + 1) (nI c) x2 x3 x4 (nI (nK D (20 + c))) (nI p) (nI k) s X K := by
  have h150 := nP_150 hB
  obtain ⟨h4, h1, h86, hcod⟩ := chn hj hc
  have hc6 : c < 6 := by have := hj.2.2.2.2.2.2.1; omega
  intro m
  induction m with
  | zero =>
    intro k s hk fD fr hfx hs ho
    have : k = nK D (20 + c) := by omega
    subst this
    rw [w_255_L25, nI_leI (by omega) (by omega)]
    exact br_t (Nat.le_refl _) (hX s fr hs ho)
  | succ m ih =>
    intro k s hk fD fr hfx hs ho
    obtain ⟨⟨⟨st, hw⟩, g1, g2, g3, g4, g5⟩, _⟩ := hcod k (by omega)
    rw [w_255_L25, nI_leI (by omega) (by omega)]
    refine br_f (by omega) ?_
    have ex : (10 : Int32) * ((20 : Int32) + nI c) + nI k = nI (10 * (20 + c) + k) := by
      show nI 10 * (nI 20 + nI c) + nI k = _
      rw [nI_add, pk_mul, nI_add]
    have e4 : (4 : Int32) * nI p + nI k = nI (4 * p + k) := by
      show nI 4 * nI p + nI k = _
      rw [pk_mul, nI_add]
    rw [ex, e4, nI_1]
    refine mp_232 (I := 20 + c) (j := k) (cf := cfN D (20 + c) k) (L := Ln D (20 + c) k) (off := ofN D (20 + c) k) (G := Gd D (20 + c) k) (fx := fxv D (D.1 5500) (ro D p) (-1)) (by omega) (by omega) (by rw [fD.2.1 88 rfl]; exact g1) (by rw [fD.2.1 89 rfl]; exact g2) (by omega) (by unfold ofN; omega) (by unfold ofN; omega) (by rw [fD.2.1 83 rfl]; exact g5) hw hfx ?_
    intro s2 f2
    refine ⟨pin_nI (by omega) (by omega), ?_⟩
    rw [nI_clamp (by omega)]
    have et : evT (Gd D (20 + c) k) (Ln D (20 + c) k) (fxv D (D.1 5500) (ro D p) (-1)) = fH D (20 + c) k p := rfl
    rw [et]
    have en : vp_nar .boolean (if fH D (20 + c) k p = true then 1 else 0) = if fH D (20 + c) k p = true then 1 else 0 := by
      cases fH D (20 + c) k p <;> rfl
    rw [en]
    have e105 : s2.2.1 105 = s.2.1 105 := f2.2.1 105 rfl
    refine ih (k + 1) _ (by omega) (fr_sA 105 (fr_tr (F := fq92) rfl fD f2)) (fr_sA 105 (fr_tr (F := fq92) rfl fr f2)) ?_ ?_ ?_
    · intro j hj2
      show s2.2.2.1 93 j = _
      rw [f2.2.2.1 93 rfl]
      exact hfx j hj2
    · intro i hi
      show upd (s2.2.1 105) (4 * p + k) _ (4 * p + i) = _
      by_cases e : i = k
      · subst e; rw [pk_us]
      · rw [pk_un (by omega), e105]; exact hs i (by omega)
    · intro i hi
      show upd (s2.2.1 105) (4 * p + k) _ i = _
      rw [pk_un (by omega), e105]
      exact ho i hi
theorem l_255t {D S0 : ST} {c : Nat} {x2 x3 x4 : Int32} {X : Int32 → Int32 → Int32 → Int32 → Int32 → ST → Prop} {K : Int32 → ST → Prop} (hB : Bk D) (hj : Jrul D) (hc : c < nC D) (f0 : Fr fsS D S0) (r0 : RW D (D.1 5500) S0) (hu : S0.1 5552 = -2) (hX : ∀ s, Fr fq105 S0 s → IS D (20 + c) (nK D (20 + c)) s → X (nI c) x2 x3 x4 (nI (nK D (20 + c))) s) : ∀ m p s, p + m = nP D → Fr fq105 S0 s → (∀ a, a < p → ∀ k, k < nK D (20 + c) → s.2.1 105 (4 * a + k) = if fH D (20 + c) k a = true then 1 else 0) → w_255_L13 (m + 1) (nI c) x2 x3 x4 (nI (nK D (20 + c))) (nI p) s X K := by
  have h150 := nP_150 hB
  obtain ⟨h4, h1, h86, hcod⟩ := chn hj hc
  intro m
  induction m with
  | zero =>
    intro p s hp fr hs
    have rr := RW_g fr r0
    have e20 : s.1 5520 = nI (nP D) := rr.1
    rw [w_255_L13, e20, nI_leI (by omega) (by omega)]
    refine br_t (by omega) (hX s fr ?_)
    intro a ha k hk
    exact hs a (by omega) k hk
  | succ m ih =>
    intro p s hp fr hs
    have rr := RW_g fr r0
    have fD : Fr fsS D s := fr_tr (F := fq105) rfl f0 fr
    have e20 : s.1 5520 = nI (nP D) := rr.1
    have hpn : p < nP D := by omega
    obtain ⟨r1, r2, r3, hx, r5, r6⟩ := rp hB rr hpn
    rw [← ro_e hpn] at r1 hx
    rw [w_255_L13, e20, nI_leI (by omega) (by omega)]
    refine br_f (by omega) ⟨r2, ?_⟩
    rw [nI_clamp (by omega), r1]
    refine mp_230 (u := -1) hB fD rr (by rw [fr.1 5552 rfl, hu]; exact hu_n hB hx) hx (fun s1 f1 hfx => ?_)
    refine ⟨nK D (20 + c) + 1, ?_⟩
    refine l_255s (S0 := s1) (c := c) (p := p) hB hj hc hpn ?_ (nK D (20 + c)) 0 s1 (by omega) (fr_tr (F := fq93) rfl fD f1) (fr_rfl _ _) hfx (fun i hi => absurd hi (by omega)) (fun i hi => rfl)
    intro s2 f2 h2 h3
    rw [nI_1]
    refine ih (p + 1) s2 (by omega) (fr_tr (F := fq105) rfl (fr_tr (F := fq93) rfl fr f1) f2) ?_
    intro a ha k hk
    by_cases e : a = p
    · subst e; exact h2 k hk
    · rw [h3 _ (by omega), f1.2.1 105 rfl]
      exact hs a (by omega) k hk
/-! what is alike -/
def alB (x : Int32) (b1 b2 b3 : Bool) : Bool := decide ((x &&& (((((0 : Int32) ||| (if b1 = true then 1 else 0)) ||| (if b2 = true then 2 else 0)) ||| (if b3 = true then 4 else 0)) ^^^ (-1 : Int32))) = 0)
theorem alB_all : (List.range 8).all (fun j => [true, false].all (fun b1 => [true, false].all (fun b2 => [true, false].all (fun b3 => alB (nI j) b1 b2 b3 == ((!decide (nI j &&& 1 = 1) || b1) && (!decide (nI j &&& 2 = 2) || b2) && (decide (nI j &&& 4 = 0) || b3)))))) = true := by decide +kernel
theorem alB_ok {x : Int32} (h0 : 0 ≤ x.toInt) (h7 : x.toInt ≤ 7) (b1 b2 b3 : Bool) : alB x b1 b2 b3 = ((!decide (x &&& 1 = 1) || b1) && (!decide (x &&& 2 = 2) || b2) && (decide (x &&& 4 = 0) || b3)) := by
  obtain ⟨j, hj, e⟩ := of_rng (n := 8) h0 (by omega)
  subst e
  have h := List.all_eq_true.mp alB_all j (List.mem_range.mpr hj)
  have m : ∀ b : Bool, b ∈ [true, false] := by intro b; cases b <;> simp
  have h1 := List.all_eq_true.mp (List.all_eq_true.mp (List.all_eq_true.mp h b1 (m b1)) b2 (m b2)) b3 (m b3)
  exact eq_of_beq h1
theorem fA_iff {D : ST} {I f s p : Nat} (h0 : 0 ≤ (D.2.1 90 (10 * I + s)).toInt) (h7 : (D.2.1 90 (10 * I + s)).toInt ≤ 7) : fA D I f s p = true ↔ ((D.2.1 90 (10 * I + s) &&& 1 = 1 → pyI D (ro D p) = pyI D (ro D f)) ∧ (D.2.1 90 (10 * I + s) &&& 2 = 2 → D.2.1 63 (ro D p) = D.2.1 63 (ro D f)) ∧ (D.2.1 90 (10 * I + s) &&& 4 = 0 ∨ D.2.1 58 (ro D p) = D.2.1 58 (ro D f))) := by
  have e : fA D I f s p = alB (D.2.1 90 (10 * I + s)) (decide (pyI D (ro D p) = pyI D (ro D f))) (decide (D.2.1 63 (ro D p) = D.2.1 63 (ro D f))) (decide (D.2.1 58 (ro D p) = D.2.1 58 (ro D f))) := by
    unfold fA aN alB
    simp only [decide_eq_true_eq]
  rw [e, alB_ok h0 h7]
  simp only [Bool.and_eq_true, Bool.or_eq_true, Bool.not_eq_true', decide_eq_false_iff_not, decide_eq_true_eq]
  constructor
  · intro ⟨⟨a, b⟩, c⟩
    exact ⟨fun z => a.resolve_left (fun y => y z), fun z => b.resolve_left (fun y => y z), c⟩
  · intro ⟨a, b, c⟩
    exact ⟨⟨(Classical.em _).elim (fun z => Or.inr (a z)) Or.inl, (Classical.em _).elim (fun z => Or.inr (b z)) Or.inl⟩, c⟩
theorem mp_253 {D s : ST} {c st f p : Nat} {K : Int32 → ST → Prop} (hB : Bk D) (hj : Jrul D) (hc : c < nC D) (hst : st < nK D (20 + c)) (fD : Fr fsS D s) (hf : f < nP D) (hp : p < nP D) (h103 : s.2.1 103 0 = nI (ro D f)) (k1 : fA D (20 + c) f st p = true → K 1 s) (k0 : ¬ fA D (20 + c) f st p = true → K 0 s) : w_253 (nI c) (nI st) (nI (ro D p)) s K := by
  obtain ⟨h4, h1, h86, hcod⟩ := chn hj hc
  have hc6 : c < 6 := by have := hj.2.2.2.2.2.2.1; omega
  have hR := (bkR hB).2.2
  have hxf := ro_lt hB hf
  have hxp := ro_lt hB hp
  obtain ⟨_, l0, l7⟩ := hcod st hst
  rw [fA_iff l0 l7] at k1 k0
  have ex : (10 : Int32) * ((20 : Int32) + nI c) + nI st = nI (10 * (20 + c) + st) := by
    show nI 10 * (nI 20 + nI c) + nI st = _
    rw [nI_add, pk_mul, nI_add]
  have z0 : (0 : Int32).toNatClampNeg = 0 := rfl
  have cl1 : (nI (10 * (20 + c) + st)).toNatClampNeg = 10 * (20 + c) + st := nI_clamp (by omega)
  have cl2 : (nI (ro D f)).toNatClampNeg = ro D f := nI_clamp (by omega)
  have cl3 : (nI (ro D p)).toNatClampNeg = ro D p := nI_clamp (by omega)
  have pf : pin (nI (ro D f)) 150 = true := pin_nI (by omega) (by omega)
  have pp : pin (nI (ro D p)) 150 = true := pin_nI (by omega) (by omega)
  unfold w_253
  simp only [ex, cl1, z0, h103, cl2, cl3, w229v fD (show ro D p < 150 by omega), w229v fD (show ro D f < 150 by omega), fD.2.1 90 rfl, fD.2.1 63 rfl, fD.2.1 58 rfl]
  refine ⟨pin_nI (by omega) (by omega), rfl, ?_⟩
  have b3 : (D.2.1 90 (10 * (20 + c) + st) &&& 1 = 1 → pyI D (ro D p) = pyI D (ro D f)) → (D.2.1 90 (10 * (20 + c) + st) &&& 2 = 2 → D.2.1 63 (ro D p) = D.2.1 63 (ro D f)) → ((D.2.1 90 (10 * (20 + c) + st) &&& 4 = 0 → K 1 s) ∧ (¬ D.2.1 90 (10 * (20 + c) + st) &&& 4 = 0 → pin (nI (ro D p)) 150 = true ∧ pin (nI (ro D f)) 150 = true ∧ (¬ D.2.1 58 (ro D p) = D.2.1 58 (ro D f) → K 0 s) ∧ (¬ ¬ D.2.1 58 (ro D p) = D.2.1 58 (ro D f) → K 1 s))) := by
    intro q1 q2
    by_cases c3 : D.2.1 90 (10 * (20 + c) + st) &&& 4 = 0
    · exact br_t c3 (k1 ⟨q1, q2, Or.inl c3⟩)
    · refine br_f c3 ⟨pp, pf, ?_⟩
      by_cases d3 : D.2.1 58 (ro D p) = D.2.1 58 (ro D f)
      · exact br_f (fun z => z d3) (k1 ⟨q1, q2, Or.inr d3⟩)
      · exact br_t d3 (k0 (fun z => z.2.2.elim c3 d3))
  by_cases c1 : D.2.1 90 (10 * (20 + c) + st) &&& 1 = 1
  · refine br_f (fun z => z c1) ?_
    by_cases d1 : pyI D (ro D p) = pyI D (ro D f)
    · refine br_t d1 ?_
      by_cases c2 : D.2.1 90 (10 * (20 + c) + st) &&& 2 = 2
      · refine br_f (fun z => z c2) ⟨pp, pf, ?_⟩
        by_cases d2 : D.2.1 63 (ro D p) = D.2.1 63 (ro D f)
        · exact br_t d2 (b3 (fun _ => d1) (fun _ => d2))
        · exact br_f d2 (k0 (fun z => d2 (z.2.1 c2)))
      · exact br_t c2 (b3 (fun _ => d1) (fun z => absurd z c2))
    · exact br_f d1 (k0 (fun z => d1 (z.1 c1)))
  · refine br_t c1 ?_
    by_cases c2 : D.2.1 90 (10 * (20 + c) + st) &&& 2 = 2
    · refine br_f (fun z => z c2) ⟨pp, pf, ?_⟩
      by_cases d2 : D.2.1 63 (ro D p) = D.2.1 63 (ro D f)
      · exact br_t d2 (b3 (fun z => absurd z c1) (fun _ => d2))
      · exact br_f d2 (k0 (fun z => d2 (z.2.1 c2)))
    · exact br_t c2 (b3 (fun z => absurd z c1) (fun z => absurd z c2))
