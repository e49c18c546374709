/-! ===== the reference's search: the loop ===== -/
theorem gQ_step {D : ST} {I k : Nat} {ds : Int} {r : List Nat} (hk : k < nP D) : gQ D I ds r.reverse k = true ↔ (fH D I r.length k = true ∧ ∀ f, r.reverse.head? = some f → fA D I f r.length k = true ∧ dP D k - dP D f ≤ ds) := by
  cases r with
  | nil =>
    rw [List.reverse_nil, gQ_0 hk]
    constructor
    · intro h; exact ⟨h, fun f z => by cases z⟩
    · intro h; exact h.1
  | cons p r =>
    have hne : (p :: r).reverse ≠ [] := by rw [List.reverse_cons]; exact List.append_ne_nil_of_right_ne_nil _ (List.cons_ne_nil _ _)
    cases e : (p :: r).reverse with
    | nil => exact absurd e hne
    | cons f t =>
      have hl : (p :: r).length = t.length + 1 := by rw [← List.length_reverse, e]; rfl
      rw [hl]
      show gT D I ds f (t.length + 1) k = true ↔ _
      unfold gT fT
      simp only [Bool.and_eq_true, decide_eq_true_eq]
      constructor
      · intro ⟨⟨⟨a, b⟩, c⟩, d⟩
        refine ⟨a, fun f2 z => ?_⟩
        have : f = f2 := by injection z
        subst this
        exact ⟨b, c⟩
      · intro ⟨a, b⟩
        have := b f rfl
        exact ⟨⟨⟨a, this.1⟩, this.2⟩, hk⟩
theorem l_255 {D S0 : ST} {c : Nat} {days x x4 : Int32} {X K : Int32 → ST → Prop} (hB : Bk D) (hj : Jrul D) (hc : c < nC D) (f0 : Fr fsS D S0) (r0 : RW D (D.1 5500) S0) (hi0 : IS D (20 + c) (nK D (20 + c)) S0) (hds : 0 ≤ days.toInt ∧ days.toInt ≤ 3999) (hx : 0 ≤ x.toInt ∧ x.toInt ≤ 4000000) (hX : ∀ s, Fr fqG S0 s → (¬ x4 = 0 → FB D (nK D (20 + c)) (EE (gQ D (20 + c) days.toInt) (wP D) (nK D (20 + c)) (nP D) [] 0 x.toInt) s) → X (nI (min 100000 (EE (gQ D (20 + c) days.toInt) (wP D) (nK D (20 + c)) (nP D) [] 0 x.toInt).length)) s) : ∀ n r k done s, MS D (nK D (20 + c)) r k < n → r.length < nK D (20 + c) → k ≤ nP D → Fr fqG S0 s → CH D s r → s.2.1 104 r.length = nI k → done ++ RS D (20 + c) (nK D (20 + c)) days.toInt x.toInt r k = EE (gQ D (20 + c) days.toInt) (wP D) (nK D (20 + c)) (nP D) [] 0 x.toInt → FB D (nK D (20 + c)) done s → w_255_L58 n (nI c) days x x4 (nI (nK D (20 + c))) (nI (min 100000 done.length)) (nI r.length) s X K := by
  have h150 := nP_150 hB
  obtain ⟨h4, h1, h86, hcod⟩ := chn hj hc
  have hc6 : c < 6 := by have := hj.2.2.2.2.2.2.1; omega
  have hR := (bkR hB).2.2
  have eM : (100000 : Int32) = nI 100000 := rfl
  generalize hq : nK D (20 + c) = q at *
  intro n
  induction n with
  | zero => intro r k done s hn; omega
  | succ n ih =>
    intro r k done s hn hr hk fr hch h104 htot hfb
    have rr := RW_g fr r0
    have fD : Fr fsS D s := fr_tr (F := fqG) rfl f0 fr
    have e20 : s.1 5520 = nI (nP D) := rr.1
    rw [w_255_L58]
    refine br_f (nI_pos (by omega)) (br_two ?_ ?_)
    · refine ⟨pin_nI (by omega) (by omega), pin_nI (by omega) (by omega), ?_⟩
      rw [nI_clamp (show r.length < 2 ^ 31 by omega), h104, e20, nI_ltI (by omega) (by omega)]
      by_cases ck : k < nP D
      · refine br_t ck ?_
        have hch2 : ∀ s7 : ST, s7.2.1 103 = upd (s.2.1 103) r.length (nI (ro D k)) → s7.2.1 104 = upd (s.2.1 104) r.length (nI (k + 1)) → CH D s7 (k :: r) := by
          intro s7 e1 e2
          refine ⟨by rw [e1, pk_us], by rw [e2, pk_us], ck, CH_c r ?_ hch⟩
          intro j hj2
          rw [e1, e2, pk_un (by omega), pk_un (by omega)]
          exact ⟨rfl, rfl⟩
        have hch1 : ∀ s7 : ST, s7.2.1 103 = s.2.1 103 → s7.2.1 104 = upd (s.2.1 104) r.length (nI (k + 1)) → CH D s7 r := by
          intro s7 e1 e2
          refine CH_c r ?_ hch
          intro j hj2
          rw [e1, e2, pk_un (by omega)]
          exact ⟨rfl, rfl⟩
        have hro := ro_lt hB ck
        obtain ⟨r1, r2, r3, _, r5, r6⟩ := rp hB rr ck
        rw [← ro_e ck] at r1
        have e4 : (4 : Int32) * nI k + nI r.length = nI (4 * k + r.length) := by
          show nI 4 * nI k + nI r.length = _
          rw [pk_mul, nI_add]
        have e105 : s.2.1 105 (4 * k + r.length) = if fH D (20 + c) r.length k = true then 1 else 0 := by
          rw [fr.2.1 105 rfl]; exact hi0 k ck r.length hr
        rw [e4, nI_clamp (show k < 2 ^ 31 by omega), r1, nI_clamp (show 4 * k + r.length < 2 ^ 31 by omega), e105, nI_1, nI_1, nI_clamp (show ro D k < 2 ^ 31 by omega)]
        refine ⟨pin_nI (by omega) (by omega), pin_nI (by omega) (by omega), ?_⟩
        have ms := MS_s (D := D) (q := q) (r := r) ck hr
        have rs := RS_s (D := D) (I := 20 + c) (ds := days.toInt) (x := x.toInt) (r := r) ck hr
        -- not taken
        have skip : ¬ gQ D (20 + c) days.toInt r.reverse k = true → ∀ s7 : ST, Fr fqG S0 s7 → s7.2.1 103 = s.2.1 103 → s7.2.1 104 = upd (s.2.1 104) r.length (nI (k + 1)) → s7.2.1 106 = s.2.1 106 → w_255_L58 n (nI c) days x x4 (nI q) (nI (min 100000 done.length)) (nI r.length) s7 X K := by
          intro hg s7 f7 e1 e2 e3
          refine ih r (k + 1) done s7 (by omega) hr (by omega) f7 (hch1 s7 e1 e2) (by rw [e2, pk_us]) ?_ ?_
          · rw [rs, if_neg hg, List.nil_append] at htot
            exact htot
          · intro hd
            obtain ⟨b, b1, b2, b3⟩ := hfb hd
            exact ⟨b, b1, b2, by rw [e3]; exact b3⟩
        -- taken, and steps are left
        have push : gQ D (20 + c) days.toInt r.reverse k = true → r.length + 1 < q → ∀ s7 : ST, Fr fqG S0 s7 → s7.2.1 103 = upd (s.2.1 103) r.length (nI (ro D k)) → s7.2.1 104 = upd (upd (s.2.1 104) r.length (nI (k + 1))) (r.length + 1) (nI (k + 1)) → s7.2.1 106 = s.2.1 106 → w_255_L58 n (nI c) days x x4 (nI q) (nI (min 100000 done.length)) (nI (r.length + 1)) s7 X K := by
          intro hg hl s7 f7 e1 e2 e3
          have hc7 : CH D s7 (k :: r) := by
            refine ⟨by rw [e1, pk_us], by rw [e2, pk_un (by omega), pk_us], ck, CH_c r ?_ hch⟩
            intro j hj2
            rw [e1, e2, pk_un (by omega), pk_un (by omega), pk_un (by omega)]
            exact ⟨rfl, rfl⟩
          refine ih (k :: r) (k + 1) done s7 ?_ hl (by omega) f7 hc7 (by rw [e2]; exact pk_us) ?_ ?_
          · have : MS D q (k :: r) (k + 1) = CST (q - (r.length + 1)) (nP D - (k + 1)) + MS D q r (k + 1) := rfl
            omega
          · rw [rs, if_pos hg] at htot
            exact htot
          · intro hd
            obtain ⟨b, b1, b2, b3⟩ := hfb hd
            exact ⟨b, b1, b2, by rw [e3]; exact b3⟩
        -- taken, and that was the last step
        have leaf : gQ D (20 + c) days.toInt r.reverse k = true → q = r.length + 1 → ∀ s7 : ST, Fr fqG S0 s7 → s7.2.1 103 = upd (s.2.1 103) r.length (nI (ro D k)) → s7.2.1 104 = upd (s.2.1 104) r.length (nI (k + 1)) → s7.2.1 106 = s.2.1 106 → ∃ m, w_255_L149 m (nI c) days x x4 (nI q) (nI (min 100000 done.length)) (nI r.length) (0 : Int32) (0 : Int32) s7 (fun y1 y2 y3 y4 y5 y6 y7 y10 s7 => ((y3 ≤ y10 → ((y6 = 0 → (∃ m, w_255_L176 m y1 y2 y3 y4 y5 y6 y7 (0 : Int32) s7 (fun y1 y2 y3 y4 y5 y6 y7 s8 => (((100000 : Int32) ≤ y6 → w_255_L58 n y1 y2 y3 y4 y5 y6 y7 s8 X K) ∧ (¬ ((100000 : Int32) ≤ y6) → w_255_L58 n y1 y2 y3 y4 y5 (y6 + (1 : Int32)) y7 s8 X K))) K)) ∧ (¬ (y6 = 0) → w_254 y5 s7 (fun r10 s9 => ((r10 = 0 → (((100000 : Int32) ≤ y6 → w_255_L58 n y1 y2 y3 y4 y5 y6 y7 s9 X K) ∧ (¬ ((100000 : Int32) ≤ y6) → w_255_L58 n y1 y2 y3 y4 y5 (y6 + (1 : Int32)) y7 s9 X K))) ∧ (¬ (r10 = 0) → (∃ m, w_255_L176 m y1 y2 y3 y4 y5 y6 y7 (0 : Int32) s9 (fun y1 y2 y3 y4 y5 y6 y7 s11 => (((100000 : Int32) ≤ y6 → w_255_L58 n y1 y2 y3 y4 y5 y6 y7 s11 X K) ∧ (¬ ((100000 : Int32) ≤ y6) → w_255_L58 n y1 y2 y3 y4 y5 (y6 + (1 : Int32)) y7 s11 X K))) K))))))) ∧ (¬ (y3 ≤ y10) → w_255_L58 n y1 y2 y3 y4 y5 y6 y7 s7 X K))) K := by
          intro hg hl s7 f7 e1 e2 e3
          have hc7 := hch2 s7 e1 e2
          have rr7 := RW_g f7 r0
          have hU := CH_at (k :: r) hc7
          have lU : (k :: r).reverse.length = q := by rw [List.length_reverse]; exact hl.symm
          have hsw := swN_le hB (k :: r)
          have hsl : (k :: r).length = q := hl.symm
          rw [rs, if_pos hg, show q - (r.length + 1) = 0 by omega, EE_0] at htot
          refine ⟨q + 1, l_149 (U := (k :: r).reverse) hB rr7 h4 lU hU ?_ q 0 0 (by omega) (by rw [List.drop_zero, Nat.zero_add])⟩
          rw [i_le, nI_toInt (by rw [swN_rev]; omega), swN_rev]
          by_cases d : x.toInt ≤ (swN D (k :: r) : Int)
          · refine br_t d ?_
            rw [if_pos (by omega)] at htot
            have htot2 : (done ++ [(k :: r).reverse]) ++ RS D (20 + c) q days.toInt x.toInt r (k + 1) = EE (gQ D (20 + c) days.toInt) (wP D) q (nP D) [] 0 x.toInt := by
              rw [List.append_assoc]; exact htot
            have ld : (done ++ [(k :: r).reverse]).length = done.length + 1 := by rw [List.length_append, List.length_singleton]
            have go : ∀ s8 : ST, Fr fqG S0 s8 → s8.2.1 103 = s7.2.1 103 → s8.2.1 104 = s7.2.1 104 → FB D q (done ++ [(k :: r).reverse]) s8 → (((100000 : Int32) ≤ nI (min 100000 done.length) → w_255_L58 n (nI c) days x x4 (nI q) (nI (min 100000 done.length)) (nI r.length) s8 X K) ∧ (¬ ((100000 : Int32) ≤ nI (min 100000 done.length)) → w_255_L58 n (nI c) days x x4 (nI q) (nI (min 100000 done.length) + (1 : Int32)) (nI r.length) s8 X K)) := by
              intro s8 f8 a1 a2 a3
              have go2 := ih r (k + 1) (done ++ [(k :: r).reverse]) s8 (by omega) hr (by omega) f8 (by exact (CH_c (k :: r) (fun j _ => by rw [a1, a2]; exact ⟨rfl, rfl⟩) hc7).2.2.2) (by rw [a2, e2, pk_us]) htot2 a3
              rw [ld] at go2
              rw [eM, nI_leI (by omega) (by omega), nI_1]
              by_cases z : 100000 ≤ min 100000 done.length
              · rw [show min 100000 (done.length + 1) = min 100000 done.length by omega] at go2
                exact br_t z go2
              · rw [show min 100000 (done.length + 1) = min 100000 done.length + 1 by omega] at go2
                exact br_f z go2
            have copy : ∀ b, b = (k :: r).reverse → LST (ro D) (done ++ [(k :: r).reverse]) b → ∃ m, w_255_L176 m (nI c) days x x4 (nI q) (nI (min 100000 done.length)) (nI r.length) (0 : Int32) s7 (fun y1 y2 y3 y4 y5 y6 y7 s8 => (((100000 : Int32) ≤ y6 → w_255_L58 n y1 y2 y3 y4 y5 y6 y7 s8 X K) ∧ (¬ ((100000 : Int32) ≤ y6) → w_255_L58 n y1 y2 y3 y4 y5 (y6 + (1 : Int32)) y7 s8 X K))) K := by
              intro b hb hL
              refine ⟨q + 1, l_176 (S0 := s7) h4 ?_ q 0 s7 (by omega) (fr_rfl _ _) (fun i hi => absurd hi (by omega))⟩
              intro s8 f8 h8
              refine go s8 (fr_tr (F := fq106) rfl f7 f8) (f8.2.1 103 rfl) (f8.2.1 104 rfl) (fun _ => ⟨b, hL, by rw [hb]; exact lU, ?_⟩)
              intro j p hp
              rw [hb] at hp
              have hjl := (List.getElem?_eq_some_iff.mp hp).1
              rw [h8 j (by omega)]
              exact hU j p hp
            by_cases z : done = []
            · subst z
              exact br_t rfl (copy _ rfl LST_1)
            · have hlen : 0 < done.length := by
                cases done with
                | nil => exact absurd rfl z
                | cons a t => exact Nat.succ_pos _
              refine br_f (fun y => ?_) ?_
              · have e0 : (0 : Int32) = nI 0 := rfl
                rw [e0, nI_eq (by omega) (by omega)] at y
                omega
              · obtain ⟨b, b1, b2, b3⟩ := hfb z
                have b37 : ∀ j p, b[j]? = some p → s7.2.1 106 j = nI (ro D p) ∧ p < nP D := by rw [e3]; exact b3
                refine mp_254 (A := (k :: r).reverse.map (ro D)) (C := b.map (ro D)) h4 (by rw [List.length_map]; exact lU) (by rw [List.length_map]; exact b2) (map_at (q := q) hB hU) (map_at (q := q) hB b37) ?_ ?_
                · intro hlx
                  exact br_f (by decide) (copy _ rfl (LST_n b1 hlx))
                · intro hlx
                  exact br_t rfl (go s7 f7 rfl rfl (fun _ => ⟨b, LST_k b1 hlx, b2, b37⟩))
          · refine br_f d ?_
            rw [if_neg (by omega), List.nil_append] at htot
            refine ih r (k + 1) done s7 (by omega) hr (by omega) f7 hc7.2.2.2 (by rw [e2, pk_us]) htot ?_
            intro hd
            obtain ⟨b, b1, b2, b3⟩ := hfb hd
            exact ⟨b, b1, b2, by rw [e3]; exact b3⟩
        have gs := gQ_step (D := D) (I := 20 + c) (ds := days.toInt) (r := r) ck
        by_cases hh : fH D (20 + c) r.length k = true
        · rw [if_pos hh]
          refine br_f (by decide) ?_
          have e0 : (0 : Int32) = nI 0 := rfl
          have z0 : (0 : Int32).toNatClampNeg = 0 := rfl
          by_cases d0 : r.length = 0
          · have hr0 : r = [] := List.eq_nil_of_length_eq_zero d0
            have hg : gQ D (20 + c) days.toInt r.reverse k = true := gs.mpr ⟨hh, fun f z => by rw [hr0] at z; cases z⟩
            refine br_t (by rw [i_le, l_0, nI_toInt (by omega)]; omega) ⟨pin_nI (by omega) (by omega), ?_⟩
            rw [nI_leI (by omega) (by omega)]
            by_cases dq : q ≤ r.length + 1
            · exact br_t dq (leaf hg (by omega) _ (fr_sA 103 (fr_sA 104 fr)) rfl rfl rfl)
            · refine br_f dq ⟨pin_nI (by omega) (by omega), ?_⟩
              rw [nI_clamp (by omega)]
              exact push hg (by omega) _ (fr_sA 104 (fr_sA 103 fr)) rfl rfl rfl
          · refine br_f (by rw [i_le, l_0, nI_toInt (by omega)]; omega) ⟨pin_nI (by omega) (by omega), rfl, ?_⟩
            obtain ⟨f, hf⟩ : ∃ f, r.reverse.head? = some f := by
              cases e : r.reverse with
              | nil => rw [← List.length_reverse, e] at d0; exact absurd rfl d0
              | cons f t => exact ⟨f, rfl⟩
            obtain ⟨c1, c2⟩ := CH_0 hch hf
            have hrf := ro_lt hB c2
            rw [z0, c1, nI_clamp (show ro D f < 2 ^ 31 by omega), fD.2.1 60 rfl]
            refine ⟨pin_nI (by omega) (by omega), ?_⟩
            have dk := day_rng hB ck
            have df := day_rng hB c2
            have ed : (D.2.1 60 (ro D k) - D.2.1 60 (ro D f)).toInt = dP D k - dP D f := by
              have q1 : (D.2.1 60 (ro D k)).toInt = dP D k := rfl
              have q2 : (D.2.1 60 (ro D f)).toInt = dP D f := rfl
              rw [t_sub (by omega) (by omega)]
              rfl
            rw [i_lt, ed]
            by_cases dd : days.toInt < dP D k - dP D f
            · refine br_t dd (skip (fun z => ?_) _ (fr_sA 104 fr) rfl rfl rfl)
              have := ((gs.mp z).2 f hf).2
              omega
            · refine br_f dd ?_
              have f12 : Fr fqG S0 (sA s 104 (upd (s.2.1 104) r.length (nI (k + 1)))) := fr_sA 104 fr
              refine mp_253 (f := f) (p := k) hB hj hc (by rw [hq]; exact hr) (fr_tr (F := fqG) rfl f0 f12) c2 ck c1 ?_ ?_
              · intro ha
                have hg : gQ D (20 + c) days.toInt r.reverse k = true := gs.mpr ⟨hh, fun f2 z => by
                  rw [hf] at z
                  have : f = f2 := by injection z
                  subst this
                  exact ⟨ha, by omega⟩⟩
                refine br_t (by decide) ⟨pin_nI (by omega) (by omega), ?_⟩
                rw [nI_leI (by omega) (by omega)]
                by_cases dq : q ≤ r.length + 1
                · exact br_t dq (leaf hg (by omega) _ (fr_sA 103 f12) rfl rfl rfl)
                · refine br_f dq ⟨pin_nI (by omega) (by omega), ?_⟩
                  rw [nI_clamp (by omega)]
                  exact push hg (by omega) _ (fr_sA 104 (fr_sA 103 f12)) rfl rfl rfl
              · intro ha
                refine br_f (fun z => z rfl) (skip (fun z => ha ((gs.mp z).2 f hf).1) _ f12 rfl rfl rfl)
        · rw [if_neg hh]
          exact br_t rfl (skip (fun z => hh (gs.mp z).1) _ (fr_sA 104 fr) rfl rfl rfl)
      · refine br_f ck ?_
        have hkn : k = nP D := by omega
        subst hkn
        have eC : CST (q - r.length) (nP D - nP D) = 1 := by
          rw [Nat.sub_self, show q - r.length = (q - r.length - 1) + 1 by omega]
          rfl
        have eE : EE (gQ D (20 + c) days.toInt) (wP D) (q - r.length) (nP D - nP D) r.reverse (nP D) (x.toInt - swN D r) = [] := by
          rw [Nat.sub_self, show q - r.length = (q - r.length - 1) + 1 by omega]
          rfl
        unfold RS at htot
        rw [eE, List.nil_append] at htot
        unfold MS at hn
        rw [eC] at hn
        cases r with
        | nil =>
          have hn1 : 1 ≤ n := by omega
          obtain ⟨n2, en⟩ : ∃ n2, n = n2 + 1 := ⟨n - 1, by omega⟩
          subst en
          rw [w_255_L58]
          refine br_t (by decide) ?_
          have et : done = EE (gQ D (20 + c) days.toInt) (wP D) q (nP D) [] 0 x.toInt := by
            rw [← htot]; exact (List.append_nil _).symm
          rw [et]
          exact hX _ (fr_sA 104 fr) (fun _ => by rw [← et]; exact hfb)
        | cons p r =>
          have ex : nI (p :: r).length - (1 : Int32) = nI r.length := by
            show nI (r.length + 1) - nI 1 = _
            rw [nI_sub (by omega)]
            rfl
          rw [ex]
          have tm : TM D q (p :: r) = MS D q r (p + 1) := rfl
          have hch3 : CH D (sA s 104 (upd (s.2.1 104) (p :: r).length (nI (nP D) + 1))) (p :: r) := by
            refine CH_c (p :: r) ?_ hch
            intro j hj2
            exact ⟨rfl, pk_un (by omega)⟩
          have hlr : (p :: r).length = r.length + 1 := rfl
          have hpn := hch.2.2.1
          exact ih r (p + 1) done _ (by omega) (by omega) (by omega) (fr_sA 104 fr) hch3.2.2.2 hch3.2.1 htot hfb
    · intro h0 hm
      rw [eM, nI_leI (by omega) (by omega)] at hm
      have hl : (done ++ RS D (20 + c) q days.toInt x.toInt r k).length = (EE (gQ D (20 + c) days.toInt) (wP D) q (nP D) [] 0 x.toInt).length := by rw [htot]
      rw [List.length_append] at hl
      have hXX := hX s fr (fun z => absurd h0 z)
      rw [show min 100000 (EE (gQ D (20 + c) days.toInt) (wP D) q (nP D) [] 0 x.toInt).length = min 100000 done.length by omega] at hXX
      exact hXX
