/-! ===== rounds ===== -/
abbrev fsO : FS := ([800, 801, 5520], [9, 10, 11, 12, 13, 14, 15, 47, 48, 49, 72, 73, 74, 103, 104], [], false, false)
theorem J_O {t : Nat} {s s1 : ST} (f : Fr fsO s s1) (h : J t s) (hv : Jvie s1) (hr : Jrnd s1) : J (t + 1) s1 := by
  obtain ⟨hnow, hhou, hrow, hord, hmen, htap, hthi, hjud, hask, hrea, hsca, hvie, hrul, hrnd, hroo⟩ := h
  have hroo1 : Jroo t s1 := by
    unfold Jroo at hroo ⊢
    rw [f.2.2.2.2 rfl]
    exact hroo
  exact ⟨Jnow_G f hnow, Jhou_G f hhou, Jrow_G f hrow, Jord_G f hord, Jmen_G f hmen, Jtap_G f htap, Jthi_G f hthi, Jjud_G f hjud, Jask_G f hask, Jrea_G f hrea, Jsca_G f hsca, hv, Jrul_G f hrul, hr, Jroo_s hroo1⟩
theorem J_rnd {t : Nat} {s : ST} (h : J t s) : Jrnd s := by
  obtain ⟨hnow, hhou, hrow, hord, hmen, htap, hthi, hjud, hask, hrea, hsca, hvie, hrul, hrnd, hroo⟩ := h
  exact hrnd
theorem sp_14 {t : Nat} {s : ST} {X F : ST → Prop} (a1 : Int32) (a2 : Int32) (h : J t s) (hX : ∀ s1, J (t + 1) s1 → X s1) : st_14 a1 a2 s X F := by
  have hB := J_Bk h
  have e9 : (3999 : Int32).toInt = 3999 := rfl
  have e1 : (100 : Int32).toInt = 100 := rfl
  unfold st_14 w_148 w_252
  simp only [e_182, t_182, e_181, t_181, e_186, t_186, l_0, e9, e1]
  by_cases c1 : 0 ≤ a1.toInt ∧ a1.toInt ≤ 3999
  · refine br_f (fun z => z c1) ?_
    by_cases c2 : 0 ≤ a2.toInt ∧ a2.toInt ≤ 100
    · refine br_t (fun z => z c2) ?_
      have ha : s.1 100 = s.1 5500 := h.1.1
      rw [ha]
      refine mp_111 hB (fr_rfl _ _) (J_vie h) ?_
      intro s1 f1 v1 jv
      obtain ⟨hu, hhu, eu⟩ := of_rng (n := 101) c2.1 (by omega)
      rw [eu]
      refine mp_97 hB v1 (Jrnd_G f1 (J_rnd h)) c1 (by omega) ?_
      intro s2 f2 jr
      refine br_f (fun z => z c1) (br_t (fun z => z (by rw [eu] at c2; exact c2)) ?_)
      have g2 : Fr fsO s s2 := fr_tr (F := fqRd) rfl (fr_weak rfl f1) f2
      have gD2 : Fr fsS s s2 := fr_weak rfl g2
      rw [g2.1 5500 rfl]
      refine mp_197 hB gD2 ?_
      intro s3 f3 r3
      have g3 : Fr fsO s s3 := fr_tr (F := fq197) rfl g2 f3
      refine ⟨rfl, MS s 6 [] 0 + 1, ?_⟩
      have g4 : Fr fsO s (sA s3 104 (upd (s3.2.1 104) 0 0)) := fr_sA 104 g3
      refine l_252 (D := s) (S0 := sA s3 104 (upd (s3.2.1 104) 0 0)) (hu := hu) (T := min 100000 (RCD s a1.toInt hu (nP s) [] 0)) hB (fr_weak rfl g4) (RW_g (fr_sA (F := fqR2) 104 (fr_rfl _ _)) r3) c1 (by omega) ?_ (MS s 6 [] 0 + 1) [] 0 0 _ (Nat.lt_succ_self _) (by show 0 < 6; omega) (Nat.zero_le _) (fr_rfl _ _) trivial (fun q hq => absurd hq List.not_mem_nil) (by show upd (s3.2.1 104) 0 0 0 = 0; exact pk_us) (by omega) ?_
      · intro s5 f5
        have g5 : Fr fsO s s5 := fr_tr (F := fqR2) rfl g4 f5
        refine br_t rfl (hX _ (J_O g5 h ?_ ?_))
        · exact Jvie_G f5 (Jvie_G (fr_sA (F := fqR2) 104 (fr_rfl _ _)) (Jvie_G f3 (Jvie_G f2 jv)))
        · exact Jrnd_G f5 (Jrnd_G (fr_sA (F := fqR2) 104 (fr_rfl _ _)) (Jrnd_G f3 jr))
      · show min 100000 (0 + RCD s a1.toInt hu (nP s - 0) [] 0 + 0) = _
        rw [Nat.zero_add, Nat.add_zero, Nat.sub_zero]
    · refine br_f (fun z => z c2) (br_f (fun z => z c1) (br_f (fun z => z c2) (br_t (by trivial) (hX _ (J_s h)))))
  · exact br_t c1 (br_t c1 (br_t (by trivial) (hX _ (J_s h))))
