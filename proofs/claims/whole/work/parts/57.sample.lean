/-! ===== sample, whole; printed by wip/whole/gensample2.py ===== -/
theorem sp_23 {t : Nat} {s : ST} {X F : ST → Prop} (a1 : Int32) (a2 : Int32) (a3 : Int32) (h : J t s) (hX : ∀ s1, J (t + 1) s1 → X s1) : st_23 a1 a2 a3 s X F := by
  obtain ⟨hnow, hhou, hrow, hord, hmen, htap, hthi, hjud, hask, hrea, hsca, hvie, hrul, hrnd, hroo⟩ := h
  have hJ : J t s := ⟨hnow, hhou, hrow, hord, hmen, htap, hthi, hjud, hask, hrea, hsca, hvie, hrul, hrnd, hroo⟩
  have hB := J_Bk hJ
  have h150 := kL_150 hB (t := s.1 5500)
  have ref : ∀ (y : Int32) (s1 : ST), Fr fsS s s1 → Fr fsQ s s1 → Jvie s1 → s1.1 5552 = -2 → (¬ ((1 ≤ a1.toInt ∧ a1.toInt ≤ 50) ∧ (0 ≤ a2.toInt ∧ a2.toInt ≤ 65535) ∧ ¬ a3 < 0 ∧ 0 < (kL s (s.1 5500)).length) → y = -1) → (∀ N seed : Nat, 1 ≤ N → N ≤ 50 → seed < 65536 → a1 = nI N → a2 = nI seed → 0 < (kL s (s.1 5500)).length → ¬ a3 < 0 → (∀ j (hj : j < (dr s (s.1 5500) seed N).length), a3 = nI (10 + j) → y = nI (lr s (s.1 5500) (dr s (s.1 5500) seed N)[j])) ∧ ((∀ j, j < (dr s (s.1 5500) seed N).length → ¬ a3 = nI (10 + j)) → y = (if a3 = 0 then nI (dr s (s.1 5500) seed N).length else if a3 = 1 then nI (dsN s (s.1 5500) true (dr s (s.1 5500) seed N)) else if a3 = 2 then nI (tT s (s.1 5500)) - nI (dsN s (s.1 5500) false (dr s (s.1 5500) seed N)) else -1))) → w_269 a1 a2 a3 s1 (fun r4 s3 => (y = r4 → X s3) ∧ (¬ y = r4 → F s3)) := by
    intro y s1 fS fQ jv u1 hy0 hy
    have k5500 : s1.1 5500 = s.1 5500 := fS.1 5500 rfl
    unfold w_269
    rw [k5500]
    refine mp_197 hB fS (fun s2 f2 rw2 => ?_)
    have fS2 : Fr fsS s s2 := fr_tr (F := fq197) rfl fS f2
    have fQ2 : Fr fsQ s s2 := fr_tr (F := fq197) rfl fQ f2
    have jv2 := Jvie_G f2 jv
    have fin : X s2 := hX _ (J_Q fQ2 hJ jv2)
    simp only [e_186, t_186, Int32.reduceToInt]
    by_cases c1 : 1 ≤ a1.toInt ∧ a1.toInt ≤ 50
    · refine br_f (fun z => z c1) ?_
      by_cases c2 : 0 ≤ a2.toInt ∧ a2.toInt ≤ 65535
      · refine br_f (fun z => z c2) ?_
        by_cases c3 : a3 < 0
        · exact br_t c3 (br_t (hy0 (fun z => z.2.2.1 c3)) fin)
        · refine br_f c3 ?_
          rw [rw2.1]
          by_cases c4 : 0 < (kL s (s.1 5500)).length
          · refine br_t (nI_ne0 c4 (by omega)) ?_
            obtain ⟨N, hN, rfl⟩ := of_rng (x := a1) (n := 51) (by omega) (by omega)
            obtain ⟨seed, hs, rfl⟩ := of_rng (x := a2) (n := 65536) (by omega) (by omega)
            obtain ⟨q1, q2⟩ := hy N seed (by rw [nI_toInt (by omega)] at c1; omega) (by omega) hs rfl rfl c4 c3
            have hT : 0 < tT s (s.1 5500) := by
              have z : pS s (s.1 5500) 0 < pS s (s.1 5500) 1 := pS_lt hB c4
              have z2 : pS s (s.1 5500) 1 ≤ pS s (s.1 5500) (kL s (s.1 5500)).length := pS_mono (D := s) (t := s.1 5500) (j := 1) (kL s (s.1 5500)).length (by omega)
              show 0 < pS s (s.1 5500) (kL s (s.1 5500)).length
              have z3 : pS s (s.1 5500) 0 = 0 := rfl
              omega
            have u2 : s2.1 5552 = -2 := by rw [f2.1 5552 rfl]; exact u1
            refine ⟨160, l_269t hB rw2 ?_ 160 0 s2 (by omega) (by omega) (fr_rfl _ _) (fun p hp => absurd hp (by omega))⟩
            intro s3 f3 z3
            have fS3 : Fr fsS s s3 := fr_tr (F := fqS) rfl fS2 f3
            have jj : ∀ s4, Fr fqS s3 s4 → X s4 := by
              intro s4 f4
              have fQ4 : Fr fsQ s s4 := fr_tr (F := fqS) rfl (fr_tr (F := fqS) rfl fQ2 f3) f4
              exact hX _ (J_Q fQ4 hJ (Jvie_G f4 (Jvie_G f3 jv2)))
            refine ⟨N + 1, l_269m (N := N) (seed := seed) hB hrul fS3 (RW_110 f3 rw2) (by rw [f3.1 5552 rfl]; exact u2) hs hT (by omega) ?_ ?_ N 0 s3 _ (by omega) (fr_rfl _ _) (fun p hp => ⟨fun _ => List.not_mem_nil, fun _ => z3 p hp⟩) (fun j hj => absurd hj (Nat.not_lt_zero _))⟩
            · intro s4 v f4 ha
              have e := q2 ha
              have jx := jj s4 f4
              by_cases d0 : a3 = 0
              · rw [if_pos d0] at e
                exact br_f (fun z => z d0) (br_t e jx)
              · rw [if_neg d0] at e
                refine br_t d0 ?_
                by_cases d1 : a3 = 1
                · rw [if_pos d1] at e
                  exact br_f (fun z => z d1) (br_t e jx)
                · rw [if_neg d1] at e
                  refine br_t d1 ?_
                  by_cases d2 : a3 = 2
                  · rw [if_pos d2] at e
                    refine br_f (fun z => z d2) (br_t ?_ jx)
                    rw [Int64.toInt32_sub, lN_i, lN_i]
                    exact e
                  · rw [if_neg d2] at e
                    exact br_t d2 (br_t e jx)
            · intro s4 e1 e2 i f4 hi hnot ha
              have jx := jj s4 f4
              have rr := RW_110 f4 (RW_110 f3 rw2)
              have hp := plT_lt (coin_lt (D := s) (t := s.1 5500) (i := i) hs hT)
              obtain ⟨w1, w2, w3, _, w5, w6⟩ := rp hB rr hp
              rw [nI_clamp (show plT s (s.1 5500) (coin s (s.1 5500) seed i) < 2 ^ 31 by omega), w1]
              refine ⟨w2, br_t ?_ jx⟩
              obtain ⟨ex, he⟩ := dr_pre (D := s) (t := s.1 5500) (seed := seed) (i := i + 1) N (by omega)
              have hd : dr s (s.1 5500) seed (i + 1) = dr s (s.1 5500) seed i ++ [plT s (s.1 5500) (coin s (s.1 5500) seed i)] := by rw [dr, if_neg hnot]
              rw [hd] at he
              have hlen : (dr s (s.1 5500) seed i).length < (dr s (s.1 5500) seed N).length := by
                rw [he, List.length_append, List.length_append, List.length_singleton]; omega
              have := q1 _ hlen ha
              have eg : (dr s (s.1 5500) seed N)[(dr s (s.1 5500) seed i).length] = plT s (s.1 5500) (coin s (s.1 5500) seed i) := by
                simp only [he]
                rw [List.getElem_append_left (by rw [List.length_append, List.length_singleton]; omega), List.getElem_append_right (Nat.le_refl _)]
                simp only [Nat.sub_self, List.getElem_singleton]
              rw [eg, lr_e hp] at this
              exact this
          · have e0 : (kL s (s.1 5500)).length = 0 := by omega
            rw [e0]
            exact br_f (fun z => z rfl) (br_t (hy0 (fun z => c4 z.2.2.2)) fin)
      · exact br_t c2 (br_t (hy0 (fun z => c2 z.2.1)) fin)
    · exact br_t c1 (br_t (hy0 (fun z => c1 z.1)) fin)
  have u0 : s.1 5552 = -2 := hsca.2
  unfold st_23 w_164
  simp only [e_181, t_181, Int32.reduceToInt]
  by_cases c1 : 1 ≤ a1.toInt ∧ a1.toInt ≤ 50
  · refine br_f (fun z => z c1) ?_
    by_cases c2 : 0 ≤ a2.toInt ∧ a2.toInt ≤ 65535
    · refine br_f (fun z => z c2) ?_
      by_cases c3 : (0 : Int32) ≤ a3
      · refine br_t c3 ?_
        have c3t : 0 ≤ a3.toInt := by rw [i_le, l_0] at c3; exact c3
        have nc3 : ¬ a3 < 0 := by rw [i_lt, l_0]; omega
        rw [hnow.1]
        refine mp_111 hB (fr_rfl _ _) hvie (fun s1 f1 vw jv => ?_)
        have fS : Fr fsS s s1 := fr_weak rfl f1
        have u1 : s1.1 1600 = -1 := by rw [f1.1 1600 rfl]; exact hsca.1
        rw [vw.2.1.2.1]
        by_cases c4 : 0 < (kL s (s.1 5500)).length
        · refine br_t (nI_ne0 c4 (by omega)) ?_
          obtain ⟨N, hN, rfl⟩ := of_rng (x := a1) (n := 51) (by omega) (by omega)
          obtain ⟨seed, hs, rfl⟩ := of_rng (x := a2) (n := 65536) (by omega) (by omega)
          have hT : 0 < tT s (s.1 5500) := by
            have z : pS s (s.1 5500) 0 < pS s (s.1 5500) 1 := pS_lt hB c4
            have z2 : pS s (s.1 5500) 1 ≤ pS s (s.1 5500) (kL s (s.1 5500)).length := pS_mono (D := s) (t := s.1 5500) (j := 1) (kL s (s.1 5500)).length (by omega)
            show 0 < pS s (s.1 5500) (kL s (s.1 5500)).length
            have z3 : pS s (s.1 5500) 0 = 0 := rfl
            omega
          have hTb : tT s (s.1 5500) ≤ 1000000 * (kL s (s.1 5500)).length := pS_le hB _ (Nat.le_refl _)
          unfold w_165
          refine mp_124 hB vw.2.1 ?_
          rw [nI_l (by omega)]
          refine ⟨N + 1, l_165 (N := N) (seed := seed) hB vw.2.1 hs hT (by omega) ?_ N 0 s1 (by omega) (fr_rfl _ _) (fun j hj => absurd hj (Nat.not_lt_zero _))⟩
          intro s2 f2 hd
          have v2 := VW_33 f2 vw
          have hlen := dr_len (D := s) (t := s.1 5500) (seed := seed) N
          have hmem := dr_lt (D := s) (t := s.1 5500) hs hT N
          have u2 : s2.1 1600 = -1 := by rw [f2.1 1600 rfl]; exact u1
          have fS2 : Fr fsS s s2 := fr_tr (F := fq33) rfl fS f2
          have fQ2 : Fr fsQ s s2 := fr_tr (F := fq33) rfl (fr_weak rfl f1) f2
          have jv2 : Jvie s2 := Jvie_G f2 jv
          have ok : (1 ≤ (nI N).toInt ∧ (nI N).toInt ≤ 50) ∧ (0 ≤ (nI seed).toInt ∧ (nI seed).toInt ≤ 65535) ∧ ¬ a3 < 0 ∧ 0 < (kL s (s.1 5500)).length := ⟨c1, c2, nc3, c4⟩
          have go : ∀ (y : Int32) (s3 : ST), Fr fqW s2 s3 → (∀ j (hj : j < (dr s (s.1 5500) seed N).length), a3 = nI (10 + j) → y = nI (lr s (s.1 5500) (dr s (s.1 5500) seed N)[j])) → ((∀ j, j < (dr s (s.1 5500) seed N).length → ¬ a3 = nI (10 + j)) → y = (if a3 = 0 then nI (dr s (s.1 5500) seed N).length else if a3 = 1 then nI (dsN s (s.1 5500) true (dr s (s.1 5500) seed N)) else if a3 = 2 then nI (tT s (s.1 5500)) - nI (dsN s (s.1 5500) false (dr s (s.1 5500) seed N)) else -1)) → w_269 (nI N) (nI seed) a3 s3 (fun r4 s3 => (y = r4 → X s3) ∧ (¬ y = r4 → F s3)) := by
            intro y s3 f3 y1 y2
            have fS3 : Fr fsS s s3 := fr_tr (F := fqW) rfl fS2 f3
            have fQ3 : Fr fsQ s s3 := fr_tr (F := fqW) rfl fQ2 f3
            refine ref y s3 fS3 fQ3 (Jvie_G f3 jv2) (by rw [f3.1 5552 rfl, f2.1 5552 rfl, f1.1 5552 rfl]; exact u0) (fun z => absurd ok z) ?_
            intro N2 seed2 _ h1 h2 h3 h4 _ _
            rw [nI_eq (by omega) (by omega)] at h3 h4
            subst h3
            subst h4
            exact ⟨y1, y2⟩
          have small : ∀ j : Nat, j < (dr s (s.1 5500) seed N).length → (nI (10 + j)).toInt = 10 + j := fun j hj => by rw [nI_toInt (by omega)]; omega
          refine ⟨fun z => ?_, fun z => ?_, fun z => ?_, fun z => ?_⟩
          · have e10 : (10 : Int32).toInt = 10 := rfl
            have hi3 := i_hi a3
            have es : (a3 - 10).toInt = a3.toInt - 10 := t_sub (b := 10) (by omega) (by omega)
            have em : (nI (dr s (s.1 5500) seed N).length - 1).toInt = ((dr s (s.1 5500) seed N).length : Int) - 1 := by rw [t_sub (b := 1) (by rw [l_1, nI_toInt (by omega)]; omega) (by rw [l_1, nI_toInt (by omega)]; omega), l_1, nI_toInt (by omega)]
            simp only [e_181, t_181, l_0, em, es]
            by_cases d : 0 ≤ a3.toInt - 10 ∧ a3.toInt - 10 ≤ ((dr s (s.1 5500) seed N).length : Int) - 1
            · refine br_f (fun w => w d) ⟨pin_of (by omega) (by omega), ?_⟩
              obtain ⟨j, hj, ej⟩ : ∃ j : Nat, j < (dr s (s.1 5500) seed N).length ∧ a3.toInt = 10 + j := ⟨(a3.toInt - 10).toNat, by omega, by omega⟩
              have ec : (a3 - 10).toNatClampNeg = j := by rw [cl_e, es]; omega
              rw [ec, hd j hj]
              refine go _ s2 (fr_rfl _ _) (fun j2 hj2 e2 => ?_) (fun w => absurd ?_ (w j hj))
              · have : j2 = j := by
                  have := congrArg Int32.toInt e2
                  rw [small j2 hj2] at this
                  omega
                subst this
                rfl
              · rw [i_eq, small j hj]; exact ej
            · refine br_t d (go _ s2 (fr_rfl _ _) (fun j2 hj2 e2 => ?_) (fun _ => ?_))
              · have := congrArg Int32.toInt e2
                rw [small j2 hj2] at this
                omega
              · have n0 : ¬ a3 = 0 := fun w => by rw [w, l_0] at z; omega
                have n1 : ¬ a3 = 1 := fun w => by rw [w, l_1] at z; omega
                have n2 : ¬ a3 = 2 := fun w => by rw [w] at z; exact absurd z (by decide)
                rw [if_neg n0, if_neg n1, if_neg n2]
          · subst z
            refine go _ s2 (fr_rfl _ _) (fun j2 hj2 e2 => ?_) (fun _ => by rw [if_pos rfl])
            have := congrArg Int32.toInt e2
            rw [small j2 hj2, l_0] at this
            omega
          · subst z
            refine mp_167 (w := true) hB hrul v2 u2 rfl (by omega) hmem hd (fun s3 f3 => ?_)
            refine go _ s3 f3 (fun j2 hj2 e2 => ?_) (fun _ => by rw [if_neg (by decide), if_pos rfl])
            have := congrArg Int32.toInt e2
            rw [small j2 hj2, l_1] at this
            omega
          · subst z
            refine mp_124 hB v2.2.1 (mp_167 (w := false) hB hrul v2 u2 rfl (by omega) hmem hd (fun s3 f3 => ?_))
            refine go _ s3 f3 (fun j2 hj2 e2 => ?_) (fun _ => by rw [if_neg (by decide), if_neg (by decide), if_pos rfl])
            have := congrArg Int32.toInt e2
            rw [small j2 hj2] at this
            have e2' : (2 : Int32).toInt = 2 := rfl
            omega
        · have e0 : (kL s (s.1 5500)).length = 0 := by omega
          rw [e0]
          refine br_f (fun z => z rfl) (ref _ s1 fS (fr_weak rfl f1) jv (by rw [f1.1 5552 rfl]; exact u0) (fun _ => rfl) (fun N seed _ _ _ _ _ w _ => absurd w c4))
      · refine br_f c3 (ref _ s (fr_rfl _ _) (fr_rfl _ _) hvie u0 (fun _ => rfl) (fun N seed _ _ _ _ _ _ w => absurd ?_ w))
        rw [i_le, l_0] at c3
        rw [i_lt, l_0]
        omega
    · refine br_t c2 (ref _ s (fr_rfl _ _) (fr_rfl _ _) hvie u0 (fun _ => rfl) (fun N seed _ _ h2 _ h4 _ _ => absurd ?_ c2))
      rw [h4, nI_toInt (by omega)]
      omega
  · refine br_t c1 (ref _ s (fr_rfl _ _) (fr_rfl _ _) hvie u0 (fun _ => rfl) (fun N seed h0 h1 _ h3 _ _ _ => ?_))
    rw [h3, nI_toInt (by omega)] at c1
    exact absurd ⟨by omega, by omega⟩ c1
