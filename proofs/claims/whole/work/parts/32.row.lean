/-! ===== row; printed by wip/whole/genrow.py ===== -/
abbrev fsRow : FS := ([102, 5502], [3, 4, 57, 58, 59, 60, 61, 62, 63, 64, 65, 66, 67], [], false, true)
theorem sp_2 {t : Nat} {s : ST} {X F : ST → Prop} (a1 : Int32) (a2 : Int32) (a3 : Int32) (a4 : Int32) (a5 : Int32) (a6 : Int32) (a7 : Int32) (a8 : Int32) (a9 : Int32) (h : J t s) (hX : ∀ s1, J (t + 1) s1 → X s1) : st_2 a1 a2 a3 a4 a5 a6 a7 a8 a9 s X F := by
  obtain ⟨hnow, hhou, hrow, hord, hmen, htap, hthi, hjud, hask, hrea, hsca, hvie, hrul, hrnd, hroo⟩ := h
  have hR : s.1 5502 = nI (nR s) := nI_nat hrow.2.1
  have hRl : nR s ≤ 150 := by show (s.1 5502).toInt.toNat ≤ 150; have := hrow.2.2.1; omega
  unfold st_2
  refine c_129 hnow.1 hhou.1 hrow.1 (fun na => ?_) (fun a => ?_)
  · exact r_193 hrow.2.1 hrow.2.2.1 (fun _ => ⟨fun _ => (hX _ ⟨hnow, hhou, hrow, hord, hmen, htap, hthi, hjud, hask, hrea, hsca, hvie, hrul, hrnd, Jroo_s hroo⟩), fun z => absurd rfl z⟩) (fun a => absurd a na)
  have a0 := a
  unfold rowA at a0
  have hlt : nR s < 150 := by show (s.1 5502).toInt.toNat < 150; omega
  generalize hRR : nR s = R at hR hRl hlt
  have h102 : s.1 102 = nI R := by rw [hrow.1]; exact hR
  generalize hf : (upd (upd (upd (upd (upd (upd (upd (upd (upd (upd (upd (fun _ => 0) 0 a1) 1 a2) 2 a3) 3 a4) 4 a5) 5 a6) 6 a7) 7 a8) 8 a9) 9 (s.1 5500)) 10 (-1)) = f
  have f0 : f 0 = a1 := by rw [← hf]; rfl
  have f1 : f 1 = a2 := by rw [← hf]; rfl
  have f2 : f 2 = a3 := by rw [← hf]; rfl
  have f3 : f 3 = a4 := by rw [← hf]; rfl
  have f4 : f 4 = a5 := by rw [← hf]; rfl
  have f5 : f 5 = a6 := by rw [← hf]; rfl
  have f6 : f 6 = a7 := by rw [← hf]; rfl
  have f7 : f 7 = a8 := by rw [← hf]; rfl
  have f8 : f 8 = a9 := by rw [← hf]; rfl
  have f9 : f 9 = s.1 5500 := by rw [← hf]; rfl
  have f10 : f 10 = -1 := by rw [← hf]; rfl
  unfold w_5
  have e11 : nI R * (11 : Int32) = nI (11 * R) := by
    show nI R * nI 11 = _
    rw [pk_mul, Nat.mul_comm]
  have c11 : (nI R * (11 : Int32)).toNatClampNeg = 11 * R := by rw [e11, nI_clamp (by omega)]
  have q102 : (sD s (s.2.2.2.2 ++ [(Sum.inl (0, 11, .inl f) : PC)])).1 102 = nI R := h102
  rw [q102]
  have e150 : (150 : Int32) = nI 150 := rfl
  refine br_f (by rw [e150, nI_leI (by omega) (by omega)]; omega) ⟨11, f, prow_new, br_t rfl ⟨11, f, prow_new, by decide, ?_, by decide, by decide, ?_, ?_⟩⟩
  · rw [e11]; exact nI_pos (by omega)
  · rw [c11]; show 11 * R + 11 ≤ 1650; omega
  rw [c11, nI_1, nI_pred]
  show w_6 (nI R) (sA (sI (sD s (s.2.2.2.2 ++ [(Sum.inl (0, 11, .inl f) : PC)])) 102 (nI (R + 1))) 3 (va_cpy f (s.2.1 3) 0 (11 * R) 11)) _
  have out : ∀ j, j < 11 * R → va_cpy f (s.2.1 3) 0 (11 * R) 11 j = s.2.1 3 j := fun j hj => pk_cpy_out (Or.inl hj)
  have inn : ∀ c, c < 11 → va_cpy f (s.2.1 3) 0 (11 * R) 11 (11 * R + c) = f c := by
    intro c hc
    rw [pk_cpy_in (by omega) (by omega)]
    congr 1
    omega
  have hq : ∀ j, j < R → _ := fun j hj => hrow.2.2.2 j (by rw [hRR]; exact hj)
  have hoc : ordL (s.2.1 60) (s.2.1 61) R = ordL (upd (s.2.1 60) R a4) (upd (s.2.1 61) R a5) R := ordL_congr R (fun i hi => ⟨(pk_un (by omega)).symm, (pk_un (by omega)).symm⟩)
  refine mp_6 (dy := upd (s.2.1 60) R a4) (hr := upd (s.2.1 61) R a5) (L := ordL (upd (s.2.1 60) R a4) (upd (s.2.1 61) R a5) R) hlt rfl (ordL_len R) (fun x hx => (ordL_mem R).mp hx) (ordL_srt _ _ R) ?_ ?_ ?_
  · intro j hj
    show va_cpy f (s.2.1 3) 0 (11 * R) 11 (11 * j + 3) = _ ∧ va_cpy f (s.2.1 3) 0 (11 * R) 11 (11 * j + 4) = _ ∧ _
    by_cases e : j = R
    · subst e
      rw [inn 3 (by omega), inn 4 (by omega), pk_us, pk_us]
      exact ⟨f3, f4, by omega, by have := hnow.2.2; omega⟩
    · rw [out _ (by omega), out _ (by omega), pk_un e, pk_un e]
      obtain ⟨h1, h2⟩ := hq j (by omega)
      unfold Rok at h2
      exact ⟨h1.2.2.2.1, h1.2.2.2.2.1, by omega, by have := hnow.2.2; omega⟩
  · show AL (s.2.1 4) _
    rw [← hoc, ← hRR]
    exact hord
  intro s1 g hA
  have e5502 : s1.1 5502 = s.1 5502 := g.1 5502 rfl
  have e5501 : s1.1 5501 = s.1 5501 := g.1 5501 rfl
  have e5500 : s1.1 5500 = s.1 5500 := g.1 5500 rfl
  have e102 : s1.1 102 = nI (R + 1) := g.1 102 rfl
  have ra : rowA s1 a1 a2 a3 a4 a5 a6 a7 a8 a9 = rowA s a1 a2 a3 a4 a5 a6 a7 a8 a9 := by unfold rowA; rw [e5502, e5501, e5500]
  rw [e102, nI_pred]
  refine r_193 (by rw [e5502]; exact hrow.2.1) (by rw [e5502]; exact hrow.2.2.1) (fun na => absurd a (ra ▸ na)) (fun _ => ?_)
  have e3 : s1.2.1 3 = va_cpy f (s.2.1 3) 0 (11 * R) 11 := g.2.1 3 rfl
  have ec : ∀ c, (57 ≤ c ∧ c ≤ 67) → s1.2.1 c = s.2.1 c := by
    intro c hc
    have h1 := g.2.1 c (by simp [fs2]; omega)
    rw [h1]
    exact va_upn (by omega)
  rw [e5502, hR, nI_clamp (by omega), t_a1s, nI_1, e5500, ec 57 (by omega), ec 58 (by omega), ec 59 (by omega), ec 60 (by omega), ec 61 (by omega), ec 62 (by omega), ec 63 (by omega), ec 64 (by omega), ec 65 (by omega), ec 66 (by omega), ec 67 (by omega)]
  refine ⟨fun _ => hX _ ?_, fun z => absurd rfl z⟩
  have hfr : Fr fsRow s s1 := by
    have h1 : Fr fsRow s (sA (sI (sD s (s.2.2.2.2 ++ [(Sum.inl (0, 11, .inl f) : PC)])) 102 (nI (R + 1))) 3 (va_cpy f (s.2.1 3) 0 (11 * R) 11)) := fr_sA 3 (fr_sI 102 (fr_sD (fr_rfl _ _)))
    exact fr_tr (F := fs2) rfl h1 g
  have hfr := fr_sA (v := upd (s.2.1 67) R (-1)) 67 (fr_sA (v := upd (s.2.1 66) R (s.1 5500)) 66 (fr_sA (v := upd (s.2.1 65) R a9) 65 (fr_sA (v := upd (s.2.1 64) R a8) 64 (fr_sA (v := upd (s.2.1 63) R a7) 63 (fr_sA (v := upd (s.2.1 62) R a6) 62 (fr_sA (v := upd (s.2.1 61) R a5) 61 (fr_sA (v := upd (s.2.1 60) R a4) 60 (fr_sA (v := upd (s.2.1 59) R a3) 59 (fr_sA (v := upd (s.2.1 58) R a2) 58 (fr_sA (v := upd (s.2.1 57) R a1) 57 (fr_sI (v := nI (R + 1)) 5502 hfr)))))))))))
  have nr : (nI (R + 1)).toNatClampNeg = R + 1 := nI_clamp (by omega)
  refine ⟨Jnow_G hfr hnow, Jhou_G hfr hhou, ?_, ?_, ?_, Jtap_G hfr htap, Jthi_G hfr hthi, Jjud_G hfr hjud, ?_, Jrea_G hfr hrea, Jsca_G hfr hsca, ?_, Jrul_app (s := s) (e := [(Sum.inl (0, 11, .inl f) : PC)]) (fun a q1 q2 => by
      have hc : a = 83 ∨ a = 84 ∨ a = 85 ∨ a = 86 ∨ a = 87 ∨ a = 88 ∨ a = 89 ∨ a = 90 ∨ a = 91 := by omega
      rcases hc with e | e | e | e | e | e | e | e | e <;> subst e
      · exact hfr.2.1 83 rfl
      · exact hfr.2.1 84 rfl
      · exact hfr.2.1 85 rfl
      · exact hfr.2.1 86 rfl
      · exact hfr.2.1 87 rfl
      · exact hfr.2.1 88 rfl
      · exact hfr.2.1 89 rfl
      · exact hfr.2.1 90 rfl
      · exact hfr.2.1 91 rfl) (hfr.1 2002 rfl) (hfr.1 5541 rfl) (hfr.1 2202 rfl) (hfr.1 5542 rfl) (hfr.2.2.2.1 rfl) (g.2.2.2.2 rfl) hrul, Jrnd_G hfr hrnd, ?_⟩
  · refine ⟨e102, ?_, ?_, ?_⟩
    · show 0 ≤ (nI (R + 1)).toInt
      rw [nI_toInt (by omega)]; omega
    · show (nI (R + 1)).toInt ≤ 150
      rw [nI_toInt (by omega)]; omega
    · intro j hj
      have hj : j < (nI (R + 1)).toNatClampNeg := hj
      rw [nr] at hj
      show Req (s1.2.1 3) j (upd (s.2.1 57) R a1 j) (upd (s.2.1 58) R a2 j) (upd (s.2.1 59) R a3 j) (upd (s.2.1 60) R a4 j) (upd (s.2.1 61) R a5 j) (upd (s.2.1 62) R a6 j) (upd (s.2.1 63) R a7 j) (upd (s.2.1 64) R a8 j) (upd (s.2.1 65) R a9 j) (upd (s.2.1 66) R (s.1 5500) j) (upd (s.2.1 67) R (-1) j) ∧ Rok (s1.1 5500).toInt (s1.1 5501).toInt (upd (s.2.1 57) R a1 j).toInt (upd (s.2.1 58) R a2 j).toInt (upd (s.2.1 59) R a3 j).toInt (upd (s.2.1 60) R a4 j).toInt (upd (s.2.1 61) R a5 j).toInt (upd (s.2.1 62) R a6 j).toInt (upd (s.2.1 63) R a7 j).toInt (upd (s.2.1 64) R a8 j).toInt (upd (s.2.1 65) R a9 j).toInt (upd (s.2.1 66) R (s.1 5500) j).toInt (upd (s.2.1 67) R (-1) j).toInt
      rw [e3, e5500, e5501]
      by_cases e : j = R
      · subst e
        simp only [pk_us]
        refine ⟨⟨inn 0 (by omega) |>.trans f0, inn 1 (by omega) |>.trans f1, inn 2 (by omega) |>.trans f2, inn 3 (by omega) |>.trans f3, inn 4 (by omega) |>.trans f4, inn 5 (by omega) |>.trans f5, inn 6 (by omega) |>.trans f6, inn 7 (by omega) |>.trans f7, inn 8 (by omega) |>.trans f8, inn 9 (by omega) |>.trans f9, inn 10 (by omega) |>.trans f10⟩, ?_⟩
        have := hnow.2
        have lm := l_m1
        unfold Rok
        omega
      · simp only [pk_un e]
        obtain ⟨⟨q0, q1, q2, q3, q4, q5, q6, q7, q8, q9, q10⟩, hk⟩ := hq j (by omega)
        exact ⟨⟨(out _ (by omega)).trans q0, (out _ (by omega)).trans q1, (out _ (by omega)).trans q2, (out _ (by omega)).trans q3, (out _ (by omega)).trans q4, (out _ (by omega)).trans q5, (out _ (by omega)).trans q6, (out _ (by omega)).trans q7, (out _ (by omega)).trans q8, (out _ (by omega)).trans q9, (out _ (by omega)).trans q10⟩, hk⟩
  · show AL (s1.2.1 4) (ordL (upd (s.2.1 60) R a4) (upd (s.2.1 61) R a5) ((nI (R + 1)).toNatClampNeg))
    rw [nr]
    exact hA
  · obtain ⟨m1, m2, m3, m4, m5⟩ := hmen
    have k103 : s1.1 103 = s.1 103 := g.1 103 rfl
    have k5503 : s1.1 5503 = s.1 5503 := g.1 5503 rfl
    have k5 : s1.2.1 5 = s.2.1 5 := g.2.1 5 rfl
    have k6 : s1.2.1 6 = s.2.1 6 := g.2.1 6 rfl
    have k7 : s1.2.1 7 = s.2.1 7 := g.2.1 7 rfl
    have k69 : s1.2.1 69 = s.2.1 69 := g.2.1 69 rfl
    have k70 : s1.2.1 70 = s.2.1 70 := g.2.1 70 rfl
    have k71 : s1.2.1 71 = s.2.1 71 := g.2.1 71 rfl
    refine ⟨?_, ?_, ?_, ?_, ?_⟩
    · show s1.1 103 = s1.1 5503
      rw [k103, k5503]; exact m1
    · show 0 ≤ (s1.1 5503).toInt
      rw [k5503]; exact m2
    · show (s1.1 5503).toInt ≤ 100
      rw [k5503]; exact m3
    · intro k hk
      have hk : k < (s1.1 5503).toNatClampNeg := hk
      rw [k5503] at hk
      show s1.2.1 5 k = s1.2.1 69 k ∧ s1.2.1 6 k = s1.2.1 70 k ∧ s1.2.1 7 k = s1.2.1 71 k ∧ 0 ≤ (s1.2.1 69 k).toInt ∧ (s1.2.1 69 k).toInt < (nI (R + 1)).toInt ∧ 0 ≤ (s1.2.1 70 k).toInt ∧ (s1.2.1 70 k).toInt ≤ 1000000 ∧ (upd (s.2.1 66) R (s.1 5500) (s1.2.1 69 k).toNatClampNeg).toInt ≤ (s1.2.1 71 k).toInt ∧ (s1.2.1 71 k).toInt ≤ (s1.1 5500).toInt
      rw [k5, k6, k7, k69, k70, k71, e5500, nI_toInt (by omega)]
      obtain ⟨h1, h2, h3, h4, h5, h6, h7, h8, h9⟩ := m4 k hk
      rw [hR, nI_toInt (by omega)] at h5
      rw [pk_un (by rw [cl_e]; omega)]
      exact ⟨h1, h2, h3, h4, by omega, h6, h7, h8, h9⟩
    · intro i k hik hk
      have hk : k < (s1.1 5503).toNatClampNeg := hk
      rw [k5503] at hk
      show (s1.2.1 71 i).toInt ≤ (s1.2.1 71 k).toInt
      rw [k71]
      exact m5 i k hik hk
  · obtain ⟨m1, m2, m3, m4⟩ := hask
    have k13 : s1.1 13 = s.1 13 := g.1 13 rfl
    have k5578 : s1.1 5578 = s.1 5578 := g.1 5578 rfl
    have k30 : s1.2.1 30 = s.2.1 30 := g.2.1 30 rfl
    have k31 : s1.2.1 31 = s.2.1 31 := g.2.1 31 rfl
    have k32 : s1.2.1 32 = s.2.1 32 := g.2.1 32 rfl
    have k112 : s1.2.1 112 = s.2.1 112 := g.2.1 112 rfl
    have k113 : s1.2.1 113 = s.2.1 113 := g.2.1 113 rfl
    have k114 : s1.2.1 114 = s.2.1 114 := g.2.1 114 rfl
    refine ⟨?_, ?_, ?_, ?_⟩
    · show s1.1 13 = s1.1 5578
      rw [k13, k5578]; exact m1
    · show 0 ≤ (s1.1 5578).toInt
      rw [k5578]; exact m2
    · show (s1.1 5578).toInt ≤ 60
      rw [k5578]; exact m3
    · intro k hk
      have hk : k < (s1.1 5578).toNatClampNeg := hk
      rw [k5578] at hk
      show s1.2.1 30 k = s1.2.1 112 k ∧ s1.2.1 31 k = s1.2.1 113 k ∧ s1.2.1 32 k = s1.2.1 114 k ∧ 0 ≤ (s1.2.1 112 k).toInt ∧ (s1.2.1 112 k).toInt < (nI (R + 1)).toInt ∧ -1 ≤ (s1.2.1 114 k).toInt ∧ (s1.2.1 114 k).toInt ≤ 1000000
      rw [k30, k31, k32, k112, k113, k114, nI_toInt (by omega)]
      obtain ⟨h1, h2, h3, h4, h5, h6, h7⟩ := m4 k hk
      rw [hR, nI_toInt (by omega)] at h5
      exact ⟨h1, h2, h3, h4, by omega, h6, h7⟩
  · obtain ⟨v1, v2, v3⟩ := hvie
    have k9 : s1.2.1 9 = s.2.1 9 := g.2.1 9 rfl
    have k14 : s1.2.1 14 = s.2.1 14 := g.2.1 14 rfl
    have k15 : s1.2.1 15 = s.2.1 15 := g.2.1 15 rfl
    refine ⟨?_, ?_, ?_⟩
    · intro i hi hi2
      have hi : (nI (R + 1)).toNatClampNeg ≤ i := hi
      rw [nr] at hi
      show s1.2.1 9 i = 0
      rw [k9]
      exact v1 i (by rw [hRR]; omega) hi2
    · intro k hk
      show s1.2.1 14 k = 0
      rw [k14]; exact v2 k hk
    · intro k hk
      show s1.2.1 15 k = 0
      rw [k15]; exact v3 k hk
  · show s1.2.2.2.2.length ≤ 1000 * (t + 1) ∧ psl s1.2.2.2.2 ≤ 14000 * (t + 1)
    have kd : s1.2.2.2.2 = s.2.2.2.2 ++ [(Sum.inl (0, 11, .inl f) : PC)] := g.2.2.2.2 rfl
    rw [kd, List.length_append]
    have h1 : s.2.2.2.2.length ≤ 1000 * t := hroo.1
    have h2 : psl s.2.2.2.2 ≤ 14000 * t := hroo.2
    have h3 : psl (s.2.2.2.2 ++ [(Sum.inl (0, 11, .inl f) : PC)]) = psl s.2.2.2.2 + 11 := by
      unfold psl
      rw [List.map_append, List.sum_append]
      rfl
    rw [h3]
    refine ⟨?_, by omega⟩
    show s.2.2.2.2.length + 1 ≤ 1000 * (t + 1)
    omega
