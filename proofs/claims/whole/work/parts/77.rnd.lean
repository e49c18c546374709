/-! ===== the reference's rounds: the loop; rounds ===== -/
abbrev fqR2 : FS := ([], [103, 104], [], false, false)
theorem l_252 {D S0 : ST} {hu T : Nat} {days : Int32} {X K : Int32 → ST → Prop} (hB : Bk D) (f0 : Fr fsS D S0) (r0 : RW D (D.1 5500) S0) (hds : 0 ≤ days.toInt ∧ days.toInt ≤ 3999) (hhu : hu ≤ 100) (hX : ∀ s, Fr fqR2 S0 s → X (nI T) s) : ∀ n r k acc s, MS D 6 r k < n → r.length < 6 → k ≤ nP D → Fr fqR2 S0 s → CH D s r → (∀ q, q ∈ r → mvP D q = true) → s.2.1 104 r.length = nI k → acc ≤ 100000 → min 100000 (acc + RCD D days.toInt hu (nP D - k) r k + TC D days.toInt hu r) = T → w_252_L25 n days (nI hu) (nI acc) (nI r.length) s X K := by
  have h150 := nP_150 hB
  have hR := (bkR hB).2.2
  have eM : (100000 : Int32) = nI 100000 := rfl
  have e5 : (5 : Int32) = nI 5 := rfl
  intro n
  induction n with
  | zero => intro r k acc s hn; omega
  | succ n ih =>
    intro r k acc s hn hr hk fr hch hmv h104 hacc ht
    have rr := RW_g fr r0
    have fD : Fr fsS D s := fr_tr (F := fqR2) rfl f0 fr
    have e20 : s.1 5520 = nI (nP D) := rr.1
    have ez : nI acc + (0 : Int32) = nI acc := nI_add acc 0
    rw [w_252_L25, eM, nI_leI (show 100000 < 2 ^ 31 by omega) (show acc < 2 ^ 31 by omega)]
    refine br_f (nI_pos (by omega)) ?_
    by_cases c0 : 100000 ≤ acc
    · refine br_t c0 ?_
      rw [show acc = T by omega]
      exact hX s fr
    refine br_f c0 ⟨pin_nI (by omega) (by omega), pin_nI (by omega) (by omega), ?_⟩
    rw [nI_clamp (show r.length < 2 ^ 31 by omega), h104, e20, nI_ltI (by omega) (by omega)]
    by_cases ck : k < nP D
    · refine br_t ck ?_
      have hrk := ro_lt hB ck
      obtain ⟨r1, r2, r3, _, r5, r6⟩ := rp hB rr ck
      rw [← ro_e ck] at r1
      rw [nI_clamp (show k < 2 ^ 31 by omega), r1, nI_clamp (show ro D k < 2 ^ 31 by omega), fD.2.1 57 rfl, nI_1, ez]
      refine ⟨pin_nI (by omega) (by omega), pin_nI (by omega) (by omega), ?_⟩
      have ms := MS_s (D := D) (q := 6) (r := r) ck hr
      have er : RCD D days.toInt hu (nP D - k) r k = (if gR (mvP D) (hoP D) (itP D) (okP2 D days.toInt hu) r k = true then (if clR (hoP D) (itP D) r k = true then 1 else if r.length < 5 then RCD D days.toInt hu (nP D - (k + 1)) (k :: r) (k + 1) else 0) else 0) + RCD D days.toInt hu (nP D - (k + 1)) r (k + 1) := by
        rw [show nP D - k = (nP D - (k + 1)) + 1 by omega]
        show RC (mvP D) (hoP D) (itP D) (okP2 D days.toInt hu) ((nP D - (k + 1)) + 1) r k = _
        rw [RC]
      rw [er] at ht
      have hch1 : ∀ s7 : ST, (∀ j, j < r.length → s7.2.1 103 j = s.2.1 103 j ∧ s7.2.1 104 j = s.2.1 104 j) → CH D s7 r := fun s7 e => CH_c r e hch
      -- on with the next place, so many more counted
      have next : ∀ (a2 : Nat) (s7 : ST), Fr fqR2 S0 s7 → (∀ j, j < r.length → s7.2.1 103 j = s.2.1 103 j ∧ s7.2.1 104 j = s.2.1 104 j) → s7.2.1 104 r.length = nI (k + 1) → a2 ≤ 100000 → min 100000 (a2 + RCD D days.toInt hu (nP D - (k + 1)) r (k + 1) + TC D days.toInt hu r) = T → w_252_L25 n days (nI hu) (nI a2) (nI r.length) s7 X K := by
        intro a2 s7 f7 e1 e2 ha2 ht2
        exact ih r (k + 1) a2 s7 (by omega) hr (by omega) f7 (hch1 s7 e1) hmv e2 ha2 ht2
      have skip : ¬ gR (mvP D) (hoP D) (itP D) (okP2 D days.toInt hu) r k = true → w_252_L25 n days (nI hu) (nI acc) (nI r.length) (sA s 104 (upd (s.2.1 104) r.length (nI (k + 1)))) X K := by
        intro hg
        rw [if_neg hg, Nat.zero_add] at ht
        exact next acc _ (fr_sA 104 fr) (fun j hj => ⟨rfl, pk_un (by omega)⟩) pk_us hacc ht
      have push : mvP D k = true → gR (mvP D) (hoP D) (itP D) (okP2 D days.toInt hu) r k = true → ¬ clR (hoP D) (itP D) r k = true → r.length < 5 → ∀ s7 : ST, Fr fqR2 S0 s7 → s7.2.1 103 = upd (s.2.1 103) r.length (nI (ro D k)) → s7.2.1 104 = upd (upd (s.2.1 104) r.length (nI (k + 1))) (r.length + 1) (nI (k + 1)) → w_252_L25 n days (nI hu) (nI acc) (nI (r.length + 1)) s7 X K := by
        intro hmk hg hc hl s7 f7 e1 e2
        rw [if_pos hg, if_neg hc, if_pos hl] at ht
        have hc7 : CH D s7 (k :: r) := by
          refine ⟨by rw [e1, pk_us], by rw [e2, pk_un (by omega), pk_us], ck, hch1 s7 ?_⟩
          intro j hj2
          rw [e1, e2, pk_un (by omega), pk_un (by omega), pk_un (by omega)]
          exact ⟨rfl, rfl⟩
        refine ih (k :: r) (k + 1) acc s7 ?_ (by show r.length + 1 < 6; omega) (by omega) f7 hc7 ?_ (by rw [e2]; exact pk_us) hacc ?_
        · have : MS D 6 (k :: r) (k + 1) = CST (6 - (r.length + 1)) (nP D - (k + 1)) + MS D 6 r (k + 1) := rfl
          omega
        · intro q hq
          rcases List.mem_cons.mp hq with z | z
          · rw [z]; exact hmk
          · exact hmv q z
        · have : TC D days.toInt hu (k :: r) = RCD D days.toInt hu (nP D - (k + 1)) r (k + 1) + TC D days.toInt hu r := rfl
          rw [this]
          omega
      by_cases d0 : D.2.1 57 (ro D k) = 2
      · refine br_f (fun z => z d0) ?_
        have hmk := (mv_no ck).mpr d0
        obtain ⟨a1, a2, a3, a4, a5, a6, a7⟩ := mv_ok hB hmk
        cases r with
        | nil =>
          have hg : gR (mvP D) (hoP D) (itP D) (okP2 D days.toInt hu) [] k = true := hmk
          refine br_t (by decide) ⟨rfl, br_t (by decide) (br_t (by decide) ⟨rfl, ?_⟩)⟩
          exact push hmk hg (show ¬ false = true by decide) (by show 0 < 5; omega) _ (fr_sA 104 (fr_sA 103 fr)) rfl rfl
        | cons p r =>
          have hlr : (p :: r).length = r.length + 1 := rfl
          have hpos : ¬ nI (p :: r).length ≤ 0 := by rw [i_le, l_0, nI_toInt (by omega)]; omega
          have f7 : Fr fqR2 S0 (sA s 104 (upd (s.2.1 104) (p :: r).length (nI (k + 1)))) := fr_sA 104 fr
          have hch7 : CH D (sA s 104 (upd (s.2.1 104) (p :: r).length (nI (k + 1)))) (p :: r) := CH_c (s := s) (p :: r) (fun j hj => ⟨rfl, pk_un (by omega)⟩) hch
          obtain ⟨c1, c2⟩ := CH_0 hch (rev_h p r)
          have hrf := ro_lt hB c2
          have hmf : mvP D (lst (p :: r)) = true := by
            refine hmv _ ?_
            have h1 := rev_h p r
            rw [List.head?_eq_getElem?] at h1
            have h2 := List.mem_of_getElem? h1
            exact List.mem_reverse.mp h2
          obtain ⟨g1, g2, g3, g4, g5, g6, g7⟩ := mv_ok hB hmf
          refine br_f hpos (mp_251 hB (fr_tr (F := fqR2) rfl f0 f7) (RW_g f7 r0) (by omega) hch7 hmv hmk hds hhu ?_ ?_)
          · intro hg
            have ht2 := ht
            rw [if_pos hg] at ht2
            refine br_t (by decide) ⟨pin_nI (by omega) (by omega), br_f hpos ⟨pin_nI (by omega) (by omega), rfl, ?_⟩⟩
            have eu : upd ((sA s 104 (upd (s.2.1 104) (p :: r).length (nI (k + 1)))).2.1 103) (p :: r).length (nI (ro D k)) (0 : Int32).toNatClampNeg = nI (ro D (lst (p :: r))) := by
              show upd (s.2.1 103) (p :: r).length (nI (ro D k)) 0 = _
              rw [pk_un (by omega)]
              exact c1
            have e59 : (sA s 104 (upd (s.2.1 104) (p :: r).length (nI (k + 1)))).2.1 59 = D.2.1 59 := fD.2.1 59 rfl
            have e58 : (sA s 104 (upd (s.2.1 104) (p :: r).length (nI (k + 1)))).2.1 58 = D.2.1 58 := fD.2.1 58 rfl
            rw [eu, nI_clamp (show ro D (lst (p :: r)) < 2 ^ 31 by omega), e59, e58, a5, g3, nI_eq (show itP D k < 2 ^ 31 by omega) (show hoP D (lst (p :: r)) < 2 ^ 31 by omega), e5, nI_eq (show (p :: r).length < 2 ^ 31 by omega) (show 5 < 2 ^ 31 by omega)]
            refine ⟨pin_nI (by omega) (by omega), ?_⟩
            by_cases d1 : itP D k = hoP D (lst (p :: r))
            · refine br_f (fun z => z d1) ?_
              rw [if_pos (show clR (hoP D) (itP D) (p :: r) k = true from decide_eq_true d1)] at ht2
              rw [nI_1]
              exact next (acc + 1) _ (fr_sA 103 f7) (fun j hj => ⟨pk_un (by omega), pk_un (by omega)⟩) pk_us (by omega) (by omega)
            · have hc : ¬ clR (hoP D) (itP D) (p :: r) k = true := fun z => d1 (of_decide_eq_true z)
              refine br_t d1 ?_
              by_cases d5 : (p :: r).length = 5
              · refine br_f (fun z => z d5) ?_
                rw [if_neg hc, if_neg (by omega), Nat.zero_add] at ht2
                exact next acc _ (fr_sA 103 f7) (fun j hj => ⟨pk_un (by omega), pk_un (by omega)⟩) pk_us hacc ht2
              · refine br_t d5 ?_
                rw [nI_1, nI_clamp (show (p :: r).length + 1 < 2 ^ 31 by omega)]
                refine ⟨pin_nI (by omega) (by omega), ?_⟩
                exact push hmk hg hc (by omega) _ (fr_sA 104 (fr_sA 103 f7)) rfl rfl
          · intro hg
            exact br_f (fun z => z rfl) (skip hg)
      · refine br_t d0 (skip (fun z => ?_))
        have hmk : mvP D k = true := by
          cases r with
          | nil => exact z
          | cons p r =>
            have hz : (mvP D k && okP2 D days.toInt hu (lst (p :: r)) k && decide (hoP D k = itP D p) && !((p :: r).map (itP D)).contains (itP D k)) = true := z
            simp only [Bool.and_eq_true] at hz
            exact hz.1.1.1
        exact d0 ((mv_no ck).mp hmk)
    · refine br_f ck ?_
      have hkn : k = nP D := by omega
      subst hkn
      have eC : CST (6 - r.length) (nP D - nP D) = 1 := by
        rw [Nat.sub_self, show 6 - r.length = (6 - r.length - 1) + 1 by omega]
        rfl
      have eR : RCD D days.toInt hu (nP D - nP D) r (nP D) = 0 := by
        rw [Nat.sub_self]
        rfl
      unfold MS at hn
      rw [eC] at hn
      rw [eR, Nat.add_zero] at ht
      cases r with
      | nil =>
        obtain ⟨n2, en⟩ : ∃ n2, n = n2 + 1 := ⟨n - 1, by omega⟩
        subst en
        rw [w_252_L25]
        refine br_t (by decide) ?_
        have e0 : TC D days.toInt hu [] = 0 := rfl
        rw [e0] at ht
        rw [show acc = T by omega]
        exact hX _ (fr_sA 104 fr)
      | cons p r =>
        have ex : nI (p :: r).length - (1 : Int32) = nI r.length := by
          show nI (r.length + 1) - nI 1 = _
          rw [nI_sub (by omega)]
          rfl
        rw [ex]
        have tm : TM D 6 (p :: r) = MS D 6 r (p + 1) := rfl
        have tc : TC D days.toInt hu (p :: r) = RCD D days.toInt hu (nP D - (p + 1)) r (p + 1) + TC D days.toInt hu r := rfl
        have hch3 : CH D (sA s 104 (upd (s.2.1 104) (p :: r).length (nI (nP D) + 1))) (p :: r) := CH_c (s := s) (p :: r) (fun j hj => ⟨rfl, pk_un (by omega)⟩) hch
        have hlr : (p :: r).length = r.length + 1 := rfl
        have hpn := hch.2.2.1
        exact ih r (p + 1) acc _ (by omega) (by omega) (by omega) (fr_sA 104 fr) hch3.2.2.2 (fun q hq => hmv q (List.mem_cons_of_mem _ hq)) hch3.2.1 hacc (by omega)
