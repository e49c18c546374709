/-! ===== the reference's clauses: rules ===== -/
section Rt
variable {T : Nat → Nat} {n : Nat} {C : List Clz}
theorem mp_205 {R0 s : ST} {a c : Nat} {K : Int32 → ST → Prop} (hT : TR R0 T n) (h : RV R0 s a) (ha : a ≤ n) (hc : c < 256) (k1 : sgn T n a = c → ∀ s1, RV R0 s1 (a + 1) → K 1 s1) (k0 : ¬ sgn T n a = c → ∀ s1, FX R0 s1 (1, a) → K 0 s1) : w_205 (nI c) s K := by
  unfold w_205
  rw [w202vw hT h ha]
  by_cases d : sgn T n a = c
  · exact br_t (sg_y c d hc) (k1 d _ (RV_adv h))
  · refine br_f (sg_n c d (sgr_le hT) hc) ?_
    rw [h.2]
    exact mp_204w 1 a h.1 (k0 d)
theorem fr_stS {s0 : ST} {k : Nat} {r2 : Int32} : Fr fqRt s0 (stS s0 k r2) := fr_sA 79 (fr_sA 82 (fr_sA 81 (fr_sA 78 (fr_rfl _ _))))
theorem RIz_x {s0 s5 s9 : ST} {a M a2 k v1 v2 : Nat} {r2 : Int32} (hI : RIz s0 C a M) (ek : k = C.length) (f5 : Fr fqRq (stS s0 k r2) s5) (f9 : Fr fqRq (sA s5 81 (upd (s5.2.1 81) k (nI v1))) s9) (h9 : s9.1 5526 = nI a2) (hv : s9.1 5533 = nI v2) (ha : M ≤ a2) (er : r2 = nI 120) : RIz (sA (sA (sI s9 5532 (s9.1 5532 + 1)) 82 (upd (s9.2.1 82) k (s9.1 5533))) 80 (upd (s9.2.1 80) k (s9.1 5530))) (C ++ [(120, [(v1, 0), (v2, 0)])]) a2 M := by
  obtain ⟨i1, i2, i3, i4, i5⟩ := hI
  subst ek
  have e30 : s9.1 5530 = nI M := ((f9.1 5530 rfl).trans (f5.1 5530 rfl)).trans i2
  have e32 : s9.1 5532 = nI C.length := ((f9.1 5532 rfl).trans (f5.1 5532 rfl)).trans i4
  have r76 : s9.2.1 76 = s0.2.1 76 := (f9.2.1 76 rfl).trans (f5.2.1 76 rfl)
  have r78 : s9.2.1 78 = upd (s0.2.1 78) C.length r2 := (f9.2.1 78 rfl).trans (f5.2.1 78 rfl)
  have r79 : s9.2.1 79 = upd (s0.2.1 79) C.length (s0.1 5530) := (f9.2.1 79 rfl).trans (f5.2.1 79 rfl)
  have r80 : s9.2.1 80 = s0.2.1 80 := (f9.2.1 80 rfl).trans (f5.2.1 80 rfl)
  have r81 : s9.2.1 81 = upd (s5.2.1 81) C.length (nI v1) := f9.2.1 81 rfl
  have r815 : s5.2.1 81 = upd (s0.2.1 81) C.length 0 := f5.2.1 81 rfl
  have r82 : s9.2.1 82 = upd (s0.2.1 82) C.length 0 := (f9.2.1 82 rfl).trans (f5.2.1 82 rfl)
  have ez : cdR (120, [(v1, 0), (v2, 0)]) = [] := if_pos rfl
  refine ⟨h9, e30, ha, ?_, fun j hj => ?_⟩
  · show s9.1 5532 + 1 = nI (C ++ [(120, [(v1, 0), (v2, 0)])]).length
    rw [e32, nI_1, List.length_append]
    rfl
  · rw [List.length_append] at hj
    have hj : j < C.length + 1 := hj
    by_cases c : j = C.length
    · subst c
      rw [List.getElem_append_right (Nat.le_refl _)]
      simp only [Nat.sub_self, List.getElem_cons_zero]
      refine ⟨M, ?_, ?_, by rw [ez]; exact Nat.le_refl _, fun p hp => absurd hp (by rw [ez]; show ¬ p < 0; omega), fun _ => ?_, fun _ => ⟨v1, v2, rfl, ?_, ?_⟩, fun y => absurd y (by show ¬ (120 : Nat) = 40; omega)⟩
      · show s9.2.1 79 C.length = nI M
        rw [r79, pk_us, i2]
      · show upd (s9.2.1 80) C.length (s9.1 5530) C.length = _
        rw [pk_us, e30, ez]
        rfl
      · show s9.2.1 78 C.length = nI 120
        rw [r78, pk_us, er]
      · show s9.2.1 81 C.length = nI v1
        rw [r81, pk_us]
      · show upd (s9.2.1 82) C.length (s9.1 5533) C.length = nI v2
        rw [pk_us, hv]
    · rw [List.getElem_append_left (by omega)]
      refine RCz_old (i5 j (by omega)) (by omega) (fun r r1 r2 => ?_) (fun i hi => ?_)
      · have h5 : r = 78 ∨ r = 79 ∨ r = 80 ∨ r = 81 ∨ r = 82 := by omega
        rcases h5 with y | y | y | y | y <;> subst y
        · show s9.2.1 78 j = _
          rw [r78, pk_un c]
        · show s9.2.1 79 j = _
          rw [r79, pk_un c]
        · show upd (s9.2.1 80) C.length _ j = _
          rw [pk_un c, r80]
        · show s9.2.1 81 j = _
          rw [r81, pk_un c, r815, pk_un c]
        · show upd (s9.2.1 82) C.length _ j = _
          rw [pk_un c, r82, pk_un c]
      · show s9.2.1 76 i = _
        rw [r76]
theorem mp_cb {s : ST} {a M : Nat} {K : Int32 → ST → Prop} (hT : TR s T n) (hI : RIz s C a M) (ha : a ≤ n) (hC : C.length ≤ 10) (hl : sgn T n a = 114 ∨ sgn T n a = 108 ∨ sgn T n a = 120) (k1 : ∀ a1 L, clRu (sgn T n) n C.length a = .inr (a1, L) → ∀ s1 M1, Fr fqRt s s1 → RIz s1 (C ++ [(sgn T n a, L)]) a1 M1 → a1 ≤ n → a < a1 → K 1 s1) (k0 : ∀ e, clRu (sgn T n) n C.length a = .inl e → ∀ s1, Fr fqRt s s1 → s1.1 5528 = (-1000 : Int32) * nI e.1 - nI e.2 → K 0 s1) : CBt (sgI (sgn T n a)) s K := by
  have hn := hT.1
  have hsl := sgr_le hT (a := a)
  have h26 : s.1 5526 = nI a := hI.1
  have h30 : s.1 5530 = nI M := hI.2.1
  have hMa : M ≤ a := hI.2.2.1
  have h32 : s.1 5532 = nI C.length := hI.2.2.2.1
  have hal := sgr_in (T := T) (n := n) (a := a) (by omega)
  unfold clRu at k1 k0
  rw [if_pos hl] at k1 k0
  unfold CBt
  rw [h32, show (10 : Int32) = nI 10 from rfl, nI_eq (by omega) (by omega), nI_clamp (by omega)]
  by_cases c : C.length = 10
  · rw [if_pos c] at k0
    refine br_f (fun z => z c) ?_
    rw [h26]
    exact mp_204 4 a (fr_rfl fqRp s) (fun s1 fx => k0 _ rfl s1 (fr_weak rfl fx.1) fx.2)
  · rw [if_neg c] at k1 k0
    have pk : pin (nI C.length) 10 = true := pin_nI (by omega) (by omega)
    have hI1 : RIz (sI s 5526 (s.1 5526 + 1)) C (a + 1) M := by
      refine ⟨?_, h30, by omega, h32, hI.2.2.2.2⟩
      show s.1 5526 + 1 = nI (a + 1)
      rw [h26, nI_1]
    have f1 : Fr fqRt s (stS (sI s 5526 (s.1 5526 + 1)) C.length (sgI (sgn T n a))) := fr_tr (F := fqRt) rfl (fr_sI 5526 (fr_rfl _ _)) fr_stS
    have hT1 : TR (stS (sI s 5526 (s.1 5526 + 1)) C.length (sgI (sgn T n a))) T n := TR_fr f1 hT
    have a1e : (stS (sI s 5526 (s.1 5526 + 1)) C.length (sgI (sgn T n a))).1 5526 = nI (a + 1) := hI1.1
    refine br_t c ⟨pk, pk, pk, pk, ?_⟩
    by_cases d : sgn T n a = 120
    · rw [if_pos d] at k1 k0
      unfold pStr numP at k1 k0
      refine br_f (fun z => z (sg_y 120 d (by omega))) ?_
      refine mp_206w (R0 := stS (sI s 5526 (s.1 5526 + 1)) C.length (sgI (sgn T n a))) (s := stS (sI s 5526 (s.1 5526 + 1)) C.length (sgI (sgn T n a))) (most := 19) hT1 ⟨fr_rfl _ _, a1e⟩ (by omega) (by omega) ?_ ?_ ?_
      · intro s5 hf hd hv r5 e5
        have b7 := pnL_1 (n := n) (sg := sgn T n) (fun _ h => sgn_out h) hd
        rw [hf, if_pos hv] at k1 k0
        refine br_t (by decide) ⟨pk, ?_⟩
        rw [e5]
        have f5 : Fr fqRt s (sA s5 81 (upd (s5.2.1 81) C.length (nI (pnL (sgn T n) 7 (a + 1) 0).2))) := fr_sA 81 (fr_tr (F := fqRq) rfl f1 r5.1)
        refine mp_205 (R0 := sA s5 81 (upd (s5.2.1 81) C.length (nI (pnL (sgn T n) 7 (a + 1) 0).2))) (a := (pnL (sgn T n) 7 (a + 1) 0).1) (c := 46) (TR_fr f5 hT) ⟨fr_rfl _ _, r5.2⟩ (by omega) (by omega) ?_ ?_
        · intro c46 s7 r7
          have k1 := k1
          have k0 := k0
          simp only [pb, if_pos c46] at k1 k0
          have hal2 := sgr_in (T := T) (n := n) (a := (pnL (sgn T n) 7 (a + 1) 0).1) (by omega)
          refine br_f (by decide) (mp_206w (R0 := sA s5 81 (upd (s5.2.1 81) C.length (nI (pnL (sgn T n) 7 (a + 1) 0).2))) (most := 9) (TR_fr f5 hT) r7 (by omega) (by omega) ?_ ?_ ?_)
          · intro s9 hf2 hd2 hv2 r9 e9
            have b72 := pnL_1 (n := n) (sg := sgn T n) (fun _ h => sgn_out h) hd2
            rw [hf2, if_pos hv2] at k1
            refine br_t (by decide) ⟨pk, pk, ?_⟩
            refine k1 _ _ rfl _ M ?_ ?_ (by omega) (by omega)
            · exact fr_sA 80 (fr_sA 82 (fr_sI 5532 (fr_tr (F := fqRq) rfl f5 r9.1)))
            · rw [d]
              exact RIz_x hI1 rfl r5.1 r9.1 r9.2 e9 (by omega) (by rw [d]; rfl)
          · intro s9 hf2 lt fx
            rw [hf2, if_neg (by omega)] at k0
            exact br_f (fun z => z rfl) (k0 _ rfl s9 (fr_tr (F := fqRp) rfl f5 fx.1) fx.2)
          · intro x s9 hf2 fx
            rw [hf2] at k0
            exact br_f (fun z => z rfl) (k0 _ rfl s9 (fr_tr (F := fqRp) rfl f5 fx.1) fx.2)
        · intro c46 s7 fx
          have k0 := k0
          simp only [pb, if_neg c46] at k0
          exact br_t rfl (k0 _ rfl s7 (fr_tr (F := fqRp) rfl f5 fx.1) fx.2)
      · intro s5 hf lt fx
        rw [hf, if_neg (by omega)] at k0
        exact br_f (fun z => z rfl) (k0 _ rfl s5 (fr_tr (F := fqRp) rfl f1 fx.1) fx.2)
      · intro x s5 hf fx
        rw [hf] at k0
        exact br_f (fun z => z rfl) (k0 _ rfl s5 (fr_tr (F := fqRp) rfl f1 fx.1) fx.2)
    · rw [if_neg d] at k1 k0
      refine br_t (sg_n 120 d hsl (by omega)) ?_
      refine mp_220w (R0 := stS (sI s 5526 (s.1 5526 + 1)) C.length (sgI (sgn T n a))) (s := stS (sI s 5526 (s.1 5526 + 1)) C.length (sgI (sgn T n a))) (b := M) (a := a + 1) hT1 (fr_rfl _ _) a1e h30 (fun _ _ => rfl) (by omega) (by omega) ?_ ?_
      · intro a1 G1 er s3 W1 d1 h3
        obtain ⟨g1, g2, g3, _⟩ := pEn_ok (fun _ h => sgn_out h) er
        refine br_t (by decide) ⟨pk, k1 a1 G1 er _ (M + G1.length) ?_ ?_ g2 (by omega)⟩
        · exact fr_sA 80 (fr_sI 5532 (fr_tr (F := fqRp) rfl f1 h3.1))
        · have ec : cdR (sgn T n a, G1) = G1 := by
            unfold cdR cdL
            rw [if_neg d, if_neg (by show ¬ sgn T n a = 40; omega)]
          exact RIz_code hI1 rfl h3 (by omega) ec (fun _ => if_neg (by omega)) d (fun y => absurd y (by show ¬ sgn T n a = 40; omega))
      · intro x er s3 fx
        exact br_f (fun z => z rfl) (k0 x er s3 (fr_tr (F := fqRp) rfl f1 fx.1) fx.2)
theorem mp_221 {s : ST} {a M : Nat} {K : Int32 → ST → Prop} (hT : TR s T n) (hI : RIz s C a M) (ha : a ≤ n) (hC : C.length ≤ 10) (k1 : ∀ a1 L, clRu (sgn T n) n C.length a = .inr (a1, L) → ∀ s1 M1, Fr fqRt s s1 → RIz s1 (C ++ [(sgn T n a, L)]) a1 M1 → a1 ≤ n → a < a1 → K 1 s1) (k0 : ∀ e, clRu (sgn T n) n C.length a = .inl e → ∀ s1, Fr fqRt s s1 → s1.1 5528 = (-1000 : Int32) * nI e.1 - nI e.2 → K 0 s1) : w_221 s K := by
  have hsl := sgr_le hT (a := a)
  have h26 : s.1 5526 = nI a := hI.1
  unfold w_221
  rw [w202f hT (fr_rfl fqRp s) h26 ha]
  by_cases c1 : sgn T n a = 114
  · exact br_t (sg_y 114 c1 (by omega)) (mp_cb hT hI ha hC (by omega) k1 k0)
  refine br_f (sg_n 114 c1 hsl (by omega)) ?_
  by_cases c2 : sgn T n a = 108
  · exact br_t (sg_y 108 c2 (by omega)) (mp_cb hT hI ha hC (by omega) k1 k0)
  refine br_f (sg_n 108 c2 hsl (by omega)) ?_
  by_cases c3 : sgn T n a = 120
  · exact br_t (sg_y 120 c3 (by omega)) (mp_cb hT hI ha hC (by omega) k1 k0)
  refine br_f (sg_n 120 c3 hsl (by omega)) ?_
  rw [h26]
  refine mp_204 1 a (fr_rfl fqRp s) (fun s1 fx => k0 (1, a) ?_ s1 (fr_weak rfl fx.1) fx.2)
  unfold clRu
  rw [if_neg (by omega)]
end Rt
