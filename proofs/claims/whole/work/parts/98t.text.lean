/-! ===== the reference's steps of chains; its texts ===== -/
section Ru
variable {T : Nat → Nat} {n : Nat} {C : List Clz}
theorem mp_222 {x : Nat} {s : ST} {K : Int32 → ST → Prop} (hx : x ≤ 256) (k : K (nI (ltB x)) s) : w_222 (sgI x) s K := by
  unfold w_222
  by_cases a : x = 112
  · subst a
    exact br_f (fun z => z rfl) k
  refine br_t (sg_n 112 a hx (by omega)) ?_
  by_cases b : x = 119
  · subst b
    exact br_f (fun z => z rfl) k
  refine br_t (sg_n 119 b hx (by omega)) ?_
  by_cases c : x = 111
  · subst c
    exact br_f (fun z => z rfl) k
  · have e0 : ltB x = 0 := by unfold ltB; rw [if_neg a, if_neg b, if_neg c]
    rw [e0] at k
    exact br_t (sg_n 111 c hx (by omega)) k
abbrev fqRs : FS := ([5526], [81], [], false, false)
theorem l_223 {S0 : ST} {k : Nat} {X95 X72 : ST → Prop} {K : Int32 → ST → Prop} (hT0 : TR S0 T n) (hk : 0 < k ∧ k < 10) : ∀ (N j a w : Nat) (s : ST), n - a < N → n - a < j → a ≤ n → w < 8 → Fr fqRs S0 s → s.1 5526 = nI a → s.2.1 81 k = nI w → (∀ i, ¬ i = k → s.2.1 81 i = S0.2.1 81 i) → (∀ a1 L, pLt (sgn T n) j a w = .inr (a1, L) → ∀ s1 w1, L = [(w1, 0)] → Fr fqRs S0 s1 → s1.1 5526 = nI a1 → a ≤ a1 → a1 ≤ n → s1.2.1 81 k = nI w1 → (∀ i, ¬ i = k → s1.2.1 81 i = S0.2.1 81 i) → X95 s1) → (∀ e, pLt (sgn T n) j a w = .inl e → ∀ s1, e.1 = 6 → Fr fqRs S0 s1 → s1.1 5526 = nI e.2 → X72 s1) → w_223_L55 N (nI k) s X95 X72 K := by
  have hn := hT0.1
  intro N
  induction N with
  | zero => intro j a w s z; omega
  | succ N ih =>
    intro j a w s hN hj ha hw f h26 h81 ho hX95 hX72
    obtain ⟨j, rfl⟩ : ∃ i, j = i + 1 := ⟨j - 1, by omega⟩
    have hT : TR s T n := TR_fr f hT0
    have hsl := sgr_le hT (a := a)
    obtain ⟨l5, lne⟩ := ltB_v (sgn T n a)
    unfold pLt at hX95 hX72
    rw [w_223_L55]
    refine br_f (by rw [i_le, nI_toInt (by omega), l_0]; omega) ?_
    rw [w202f hT (fr_rfl fqRp s) h26 ha]
    refine mp_222 hsl ?_
    by_cases c : ltB (sgn T n a) = 0
    · rw [if_pos c] at hX95
      exact br_t (by rw [c]; rfl) (hX95 a _ rfl s w rfl f h26 (by omega) ha h81 ho)
    · rw [if_neg c] at hX95 hX72
      have hal := sgr_in (T := T) (n := n) (a := a) (lne c)
      refine br_f (by rw [i_eq, nI_toInt (by omega), l_0]; omega) ?_
      rw [w202f hT (fr_rfl fqRp s) h26 ha]
      refine mp_222 hsl ⟨pin_nI (by omega) (by omega), ?_⟩
      obtain ⟨t1, t2, t3⟩ := bits8 ⟨w, hw⟩ ⟨ltB (sgn T n a), l5⟩
      have t1 : (nI w &&& nI (ltB (sgn T n a)) = 0) ↔ (w &&& ltB (sgn T n a) = 0) := t1
      have t2 : nI w ||| nI (ltB (sgn T n a)) = nI (w ||| ltB (sgn T n a)) := t2
      have t3 : w ||| ltB (sgn T n a) < 8 := t3
      rw [nI_clamp (show k < 2 ^ 31 by omega), h81, t1, t2]
      by_cases g : w &&& ltB (sgn T n a) = 0
      · rw [if_pos g] at hX95 hX72
        refine br_t g ⟨pin_nI (by omega) (by omega), pin_nI (by omega) (by omega), ih j (a + 1) (w ||| ltB (sgn T n a)) _ (by omega) (by omega) (by omega) t3 (fr_sA 81 (fr_sI 5526 f)) ?_ ?_ ?_ ?_ hX72⟩
        · show s.1 5526 + 1 = nI (a + 1)
          rw [h26, nI_1]
        · show upd (s.2.1 81) k _ k = _
          exact pk_us
        · intro i hi
          show upd (s.2.1 81) k _ i = _
          rw [pk_un hi]
          exact ho i hi
        · exact fun a1 L e1 s1 w1 q1 q2 q3 q4 q5 q6 q7 => hX95 a1 L e1 s1 w1 q1 q2 q3 (by omega) q5 q6 q7
      · rw [if_neg g] at hX72
        exact br_f g (hX72 _ rfl s rfl f h26)
theorem pLt_one : ∀ (j a w a1 : Nat) (L : List Pc) (sg : Nat → Nat), pLt sg j a w = .inr (a1, L) → ∃ w1, L = [(w1, 0)]
  | 0, a, w, a1, L, sg, h => ⟨w, (inr_inv h).2.symm⟩
  | j + 1, a, w, a1, L, sg, h => by
    unfold pLt at h
    rcases if_inv h with ⟨_, h⟩ | ⟨_, h⟩
    · exact ⟨w, (inr_inv h).2.symm⟩
    · rcases if_inv h with ⟨_, h⟩ | ⟨_, h⟩
      · exact pLt_one j _ _ _ _ _ h
      · cases h
theorem pLt_six : ∀ (j a w : Nat) (e : Nat × Nat) (sg : Nat → Nat), pLt sg j a w = .inl e → e.1 = 6
  | 0, a, w, e, sg, h => by cases h
  | j + 1, a, w, e, sg, h => by
    unfold pLt at h
    by_cases c : ltB (sg a) = 0
    · rw [if_pos c] at h; cases h
    · rw [if_neg c] at h
      by_cases d : w &&& ltB (sg a) = 0
      · rw [if_pos d] at h
        exact pLt_six j _ _ e sg h
      · rw [if_neg d] at h
        cases h
        rfl
theorem RIz_let {Y F : ST} {G1 : List Pc} {a1 a2 M1 w : Nat} (h : RIz Y (C ++ [(40, (0, 0) :: G1)]) a1 M1) (h26 : F.1 5526 = nI a2) (ha : a1 ≤ a2) (e30 : F.1 5530 = Y.1 5530) (e32 : F.1 5532 = Y.1 5532) (hr : ∀ r, ¬ r = 81 → F.2.1 r = Y.2.1 r) (ho : ∀ i, ¬ i = C.length → F.2.1 81 i = Y.2.1 81 i) (hw : F.2.1 81 C.length = nI w) : RIz F (C ++ [(40, (w, 0) :: G1)]) a2 M1 := by
  obtain ⟨i1, i2, i3, i4, i5⟩ := h
  have l1 : (C ++ [(40, (0, 0) :: G1)]).length = C.length + 1 := by rw [List.length_append]; rfl
  have l2 : (C ++ [(40, (w, 0) :: G1)]).length = C.length + 1 := by rw [List.length_append]; rfl
  refine ⟨h26, e30.trans i2, by omega, ?_, fun j hj => ?_⟩
  · rw [e32, i4, l1, l2]
  · rw [l2] at hj
    have i5 := i5 j (by omega)
    by_cases c : j = C.length
    · subst c
      rw [List.getElem_append_right (Nat.le_refl _)] at i5 ⊢
      simp only [Nat.sub_self, List.getElem_cons_zero] at i5 ⊢
      obtain ⟨b, q1, q2, q3, q4, q5, q6, q7⟩ := i5
      refine ⟨b, ?_, ?_, q3, fun p hp => ?_, fun z => absurd rfl z, fun z => absurd z (by show ¬ (40 : Nat) = 120; omega), fun _ => ⟨w, G1, rfl, hw⟩⟩
      · rw [hr 79 (by omega)]; exact q1
      · rw [hr 80 (by omega)]; exact q2
      · rw [hr 76 (by omega)]; exact q4 p hp
    · rw [List.getElem_append_left (by omega)] at i5 ⊢
      refine RCz_old i5 (Nat.le_refl _) (fun r r1 r2 => ?_) (fun i _ => by rw [hr 76 (by omega)])
      by_cases y : r = 81
      · rw [y]; exact ho j c
      · rw [hr r y]
theorem mp_223 {s : ST} {a M : Nat} {K : Int32 → ST → Prop} (hT : TR s T n) (hI : RIz s C a M) (ha : a ≤ n) (hC : C.length ≤ 4) (k1 : ∀ a1 L, clC (sgn T n) n C.length a = .inr (a1, L) → ∀ s1 M1, Fr fqRt s s1 → RIz s1 (C ++ [(sgn T n a, L)]) a1 M1 → a1 ≤ n → a < a1 → K 1 s1) (k0 : ∀ e, clC (sgn T n) n C.length a = .inl e → ∀ s1, Fr fqRt s s1 → s1.1 5528 = (-1000 : Int32) * nI e.1 - nI e.2 → K 0 s1) : w_223 s K := by
  have hn := hT.1
  have hsl := sgr_le hT (a := a)
  have h26 : s.1 5526 = nI a := hI.1
  have h30 : s.1 5530 = nI M := hI.2.1
  have hMa : M ≤ a := hI.2.2.1
  have h32 : s.1 5532 = nI C.length := hI.2.2.2.1
  unfold clC at k1 k0
  unfold w_223
  rw [w202f hT (fr_rfl fqRp s) h26 ha, h32, h26, show (4 : Int32) = nI 4 from rfl, nI_eq (by omega) (by omega), nI_clamp (by omega)]
  by_cases d : sgn T n a = 40
  · rw [if_pos d] at k1 k0
    refine br_t (sg_y 40 d (by omega)) ?_
    by_cases c : C.length = 4
    · rw [if_pos c] at k0
      exact br_f (fun z => z c) (mp_204 4 a (fr_rfl fqRp s) (fun s1 fx => k0 _ rfl s1 (fr_weak rfl fx.1) fx.2))
    · rw [if_neg c] at k1 k0
      unfold stC at k1 k0
      have pk : pin (nI C.length) 10 = true := pin_nI (by omega) (by omega)
      have f1 : Fr fqRt s (stS s C.length 99) := fr_stS
      have hT1 : TR (stS s C.length 99) T n := TR_fr f1 hT
      refine br_t c ⟨pk, pk, pk, pk, ?_⟩
      refine mp_220w (R0 := stS s C.length 99) (s := stS s C.length 99) (b := M) (a := a) hT1 (fr_rfl _ _) h26 h30 (fun _ _ => rfl) ha hMa ?_ ?_
      · intro a1 G1 er s3 W1 d1 h3
        obtain ⟨g1, g2, g3, _⟩ := pEn_ok (fun _ h => sgn_out h) er
        rw [er] at k1 k0
        have ec : cdR (40, (0, 0) :: G1) = G1 := by
          unfold cdR cdL
          rw [if_neg (by show ¬ (40 : Nat) = 120; omega), if_pos rfl]
          rfl
        have hR := RIz_code (z := (40, (0, 0) :: G1)) hI rfl h3 (by omega) ec (fun z => absurd rfl z) (by show ¬ (40 : Nat) = 120; omega) (fun _ => ⟨G1, rfl⟩)
        have h326 : s3.1 5526 = nI a1 := h3.2.1
        have f3 : Fr fqRt s (sA s3 80 (upd (s3.2.1 80) C.length (s3.1 5530))) := fr_sA 80 (fr_tr (F := fqRp) rfl f1 h3.1)
        have e81 : s3.2.1 81 C.length = 0 := by
          rw [h3.1.2.1 81 rfl]
          show upd (s.2.1 81) C.length 0 C.length = 0
          exact pk_us
        have fin : ∀ (s13 : ST) (a2 w : Nat), Fr fqRs (sA s3 80 (upd (s3.2.1 80) C.length (s3.1 5530))) s13 → s13.1 5526 = nI a2 → a1 ≤ a2 → s13.2.1 81 C.length = nI w → (∀ i, ¬ i = C.length → s13.2.1 81 i = s3.2.1 81 i) → Fr fqRt s (sI s13 5532 (s13.1 5532 + 1)) ∧ RIz (sI s13 5532 (s13.1 5532 + 1)) (C ++ [(40, (w, 0) :: G1)]) a2 (M + G1.length) := by
          intro s13 a2 w f13 q26 qa qw qo
          refine ⟨fr_sI 5532 (fr_tr (F := fqRs) rfl f3 f13), RIz_let hR q26 qa ?_ ?_ (fun r hr => ?_) qo qw⟩
          · show s13.1 5530 = s3.1 5530
            rw [f13.1 5530 rfl]
            rfl
          · show s13.1 5532 + 1 = s3.1 5532 + 1
            rw [f13.1 5532 rfl]
            rfl
          · show s13.2.1 r = _
            have e : fqRs.2.1.contains r = false := by
              show [81].contains r = false
              rw [List.contains_cons]
              simp [hr]
            rw [f13.2.1 r e]
            rfl
        refine br_t (by decide) ⟨pk, n + 1, ?_⟩
        by_cases c0 : C.length = 0
        · have k1 : ∀ a2 L, (if C.length = 0 then (.inr (a1, (0, 0) :: G1) : Prs) else pb (pLt (sgn T n) (n + 1) a1 0) (fun a2 L => .inr (a2, L ++ G1))) = .inr (a2, L) → ∀ s1 M1, Fr fqRt s s1 → RIz s1 (C ++ [(sgn T n a, L)]) a2 M1 → a2 ≤ n → a < a2 → K 1 s1 := k1
          rw [if_pos c0] at k1
          rw [w_223_L55]
          obtain ⟨u1, u2⟩ := fin _ a1 0 (fr_rfl _ _) h326 (Nat.le_refl _) e81 (fun _ _ => rfl)
          refine br_t (by rw [c0]; decide) (k1 a1 _ rfl _ (M + G1.length) u1 ?_ g2 (by omega))
          rw [d]
          exact u2
        · have k1 : ∀ a2 L, (if C.length = 0 then (.inr (a1, (0, 0) :: G1) : Prs) else pb (pLt (sgn T n) (n + 1) a1 0) (fun a2 L => .inr (a2, L ++ G1))) = .inr (a2, L) → ∀ s1 M1, Fr fqRt s s1 → RIz s1 (C ++ [(sgn T n a, L)]) a2 M1 → a2 ≤ n → a < a2 → K 1 s1 := k1
          have k0 : ∀ e, (if C.length = 0 then (.inr (a1, (0, 0) :: G1) : Prs) else pb (pLt (sgn T n) (n + 1) a1 0) (fun a2 L => .inr (a2, L ++ G1))) = .inl e → ∀ s1, Fr fqRt s s1 → s1.1 5528 = (-1000 : Int32) * nI e.1 - nI e.2 → K 0 s1 := k0
          rw [if_neg c0] at k1 k0
          refine l_223 (S0 := sA s3 80 (upd (s3.2.1 80) C.length (s3.1 5530))) (TR_fr f3 hT) (by omega) (n + 1) (n + 1) a1 0 _ (by omega) (by omega) g2 (by omega) (fr_rfl _ _) h326 e81 (fun _ _ => rfl) ?_ ?_
          · intro a2 L eL s13 w eW f13 q26 qa qn qw qo
            rw [eL] at k1
            obtain ⟨u1, u2⟩ := fin s13 a2 w f13 q26 qa qw qo
            refine k1 a2 _ rfl _ (M + G1.length) u1 ?_ qn (by omega)
            rw [d, eW]
            exact u2
          · intro e eL s13 e6 f13 q26
            rw [eL] at k0
            show w_204 6 (s13.1 5526) s13 _
            rw [q26]
            refine mp_204 (R0 := s13) 6 e.2 (fr_rfl _ _) (fun s14 fx => k0 e rfl s14 (fr_tr (F := fqRp) rfl (fr_tr (F := fqRs) rfl f3 f13) fx.1) ?_)
            rw [e6]
            exact fx.2
      · intro x er s3 fx
        rw [er] at k0
        exact br_f (fun z => z rfl) (k0 x rfl s3 (fr_tr (F := fqRp) rfl f1 fx.1) fx.2)
  · rw [if_neg d] at k0
    exact br_f (sg_n 40 d hsl (by omega)) (mp_204 1 a (fr_rfl fqRp s) (fun s1 fx => k0 _ rfl s1 (fr_weak rfl fx.1) fx.2))
def pAf (sg : Nat → Nat) (n : Nat) (it : Nat → Nat → Prs) (f k a1 : Nat) (C : List Clz) : PTr := if sg a1 = 59 then pTl sg n it f k (a1 + 1) C else if a1 < n then .inl (1, a1) else .inr C
theorem pTl_af {sg : Nat → Nat} {it : Nat → Nat → Prs} {f k a a1 : Nat} {L : List Pc} (h : it k a = .inr (a1, L)) : pTl sg n it (f + 1) k a C = pAf sg n it f (k + 1) a1 (C ++ [(sg a, L)]) := by
  unfold pTl
  rw [h]
  rfl
theorem pTl_no {sg : Nat → Nat} {it : Nat → Nat → Prs} {f k a : Nat} {e : Nat × Nat} (h : it k a = .inl e) : pTl sg n it (f + 1) k a C = .inl e := by
  unfold pTl
  rw [h]
theorem l_226 {S0 : ST} {x1 x2 : Int32} {X48 : Int32 → Int32 → Int32 → ST → Prop} {K : Int32 → ST → Prop} (hT0 : TR S0 T n) : ∀ (N a1 M : Nat) (s : ST) (C : List Clz), 10 + 2 - C.length ≤ N → C.length ≤ 10 → Fr fqRt S0 s → RIz s C a1 M → a1 ≤ n → (∀ C2, pAf (sgn T n) n (clRu (sgn T n) n) (10 + 1 - C.length) C.length a1 C = .inr C2 → ∀ s1 a2 M1, Fr fqRt S0 s1 → RIz s1 C2 a2 M1 → a2 ≤ n → 1 ≤ C2.length → C2.length ≤ 10 → X48 x1 x2 1 s1) → (∀ e, pAf (sgn T n) n (clRu (sgn T n) n) (10 + 1 - C.length) C.length a1 C = .inl e → ∀ s1, Fr fqRt S0 s1 → s1.1 5528 = (-1000 : Int32) * nI e.1 - nI e.2 → X48 x1 x2 0 s1) → 1 ≤ C.length → w_226_L29 N x1 x2 1 s X48 K := by
  have hn := hT0.1
  intro N
  induction N with
  | zero => intro a1 M s C z z2; omega
  | succ N ih =>
    intro a1 M s C hN hC f hI ha h1 h0 hc1
    have hT : TR s T n := TR_fr f hT0
    have h26 : s.1 5526 = nI a1 := hI.1
    unfold pAf at h1 h0
    rw [w_226_L29, hT.2.1, h26, nI_leI (by omega) (by omega)]
    refine br_f (by decide) ?_
    by_cases c : n ≤ a1
    · rw [sgn_out c, if_neg (by omega), if_neg (by omega)] at h1
      exact br_t c (h1 C rfl s a1 M f hI ha hc1 hC)
    have bad : ∀ s2, X48 x1 x2 0 s2 → w_226_L29 N x1 x2 0 s2 X48 K := by
      intro s2 hx
      obtain ⟨N, rfl⟩ : ∃ i, N = i + 1 := ⟨N - 1, by omega⟩
      rw [w_226_L29]
      exact br_t rfl hx
    refine br_f c (mp_205 (R0 := s) (c := 59) hT ⟨fr_rfl _ _, h26⟩ ha (by omega) ?_ ?_)
    · intro c59 s2 r2
      rw [if_pos c59] at h1 h0
      have hal := sgr_in (T := T) (n := n) (a := a1) (by omega)
      have f2 : Fr fqRt S0 s2 := fr_tr (F := fqRq) rfl f r2.1
      have hI2 : RIz s2 C (a1 + 1) M := by
        obtain ⟨i1, i2, i3, i4, i5⟩ := hI
        refine ⟨r2.2, (r2.1.1 5530 rfl).trans i2, by omega, (r2.1.1 5532 rfl).trans i4, fun j hj => RCz_old (i5 j hj) (Nat.le_refl _) (fun r _ _ => ?_) (fun i _ => ?_)⟩
        · rw [r2.1.2.1 r rfl]
        · rw [r2.1.2.1 76 rfl]
      refine br_f (by decide) (mp_221 (TR_fr f2 hT0) hI2 (by omega) hC ?_ ?_)
      · intro a2 L er s3 M3 f3 hI3 ha3 hlt
        have hk : C.length < 10 := by
          refine Classical.byContradiction (fun z => ?_)
          have z : C.length = 10 := by omega
          unfold clRu at er
          rw [z] at er
          rcases if_inv er with ⟨_, er⟩ | ⟨_, er⟩
          · rcases if_inv er with ⟨_, er⟩ | ⟨y, er⟩
            · cases er
            · exact y rfl
          · cases er
        have lC : (C ++ [(sgn T n (a1 + 1), L)]).length = C.length + 1 := by rw [List.length_append]; rfl
        rw [show 10 + 1 - C.length = (10 + 1 - (C.length + 1)) + 1 by omega, pTl_af er] at h1 h0
        refine br_f (by decide) (ih a2 M3 s3 (C ++ [(sgn T n (a1 + 1), L)]) (by omega) (by omega) (fr_tr (F := fqRt) rfl f2 f3) hI3 ha3 ?_ ?_ (by omega))
        · rw [lC]; exact h1
        · rw [lC]; exact h0
      · intro e er s3 f3 e28
        rw [show 10 + 1 - C.length = (10 - C.length) + 1 by omega, pTl_no er] at h0
        exact br_t rfl (bad s3 (h0 e rfl s3 (fr_tr (F := fqRt) rfl f2 f3) e28))
    · intro c59 s2 fx
      rw [if_neg c59, if_pos (by omega)] at h0
      exact br_t rfl (bad s2 (h0 _ rfl s2 (fr_tr (F := fqRp) rfl f fx.1) fx.2))
theorem l_227 {S0 : ST} {X48 : Int32 → ST → Prop} {K : Int32 → ST → Prop} (hT0 : TR S0 T n) : ∀ (N a1 M : Nat) (s : ST) (C : List Clz), 4 + 2 - C.length ≤ N → C.length ≤ 4 → Fr fqRt S0 s → RIz s C a1 M → a1 ≤ n → (∀ C2, pAf (sgn T n) n (clC (sgn T n) n) (4 + 1 - C.length) C.length a1 C = .inr C2 → ∀ s1 a2 M1, Fr fqRt S0 s1 → RIz s1 C2 a2 M1 → a2 ≤ n → 1 ≤ C2.length → C2.length ≤ 4 → X48 1 s1) → (∀ e, pAf (sgn T n) n (clC (sgn T n) n) (4 + 1 - C.length) C.length a1 C = .inl e → ∀ s1, Fr fqRt S0 s1 → s1.1 5528 = (-1000 : Int32) * nI e.1 - nI e.2 → X48 0 s1) → 1 ≤ C.length → w_227_L21 N 1 s X48 K := by
  have hn := hT0.1
  intro N
  induction N with
  | zero => intro a1 M s C z z2; omega
  | succ N ih =>
    intro a1 M s C hN hC f hI ha h1 h0 hc1
    have hT : TR s T n := TR_fr f hT0
    have h26 : s.1 5526 = nI a1 := hI.1
    unfold pAf at h1 h0
    rw [w_227_L21, hT.2.1, h26, nI_leI (by omega) (by omega)]
    refine br_f (by decide) ?_
    by_cases c : n ≤ a1
    · rw [sgn_out c, if_neg (by omega), if_neg (by omega)] at h1
      exact br_t c (h1 C rfl s a1 M f hI ha hc1 hC)
    have bad : ∀ s2, X48 0 s2 → w_227_L21 N 0 s2 X48 K := by
      intro s2 hx
      obtain ⟨N, rfl⟩ : ∃ i, N = i + 1 := ⟨N - 1, by omega⟩
      rw [w_227_L21]
      exact br_t rfl hx
    refine br_f c (mp_205 (R0 := s) (c := 59) hT ⟨fr_rfl _ _, h26⟩ ha (by omega) ?_ ?_)
    · intro c59 s2 r2
      rw [if_pos c59] at h1 h0
      have hal := sgr_in (T := T) (n := n) (a := a1) (by omega)
      have f2 : Fr fqRt S0 s2 := fr_tr (F := fqRq) rfl f r2.1
      have hI2 : RIz s2 C (a1 + 1) M := by
        obtain ⟨i1, i2, i3, i4, i5⟩ := hI
        refine ⟨r2.2, (r2.1.1 5530 rfl).trans i2, by omega, (r2.1.1 5532 rfl).trans i4, fun j hj => RCz_old (i5 j hj) (Nat.le_refl _) (fun r _ _ => ?_) (fun i _ => ?_)⟩
        · rw [r2.1.2.1 r rfl]
        · rw [r2.1.2.1 76 rfl]
      refine br_f (by decide) (mp_223 (TR_fr f2 hT0) hI2 (by omega) hC ?_ ?_)
      · intro a2 L er s3 M3 f3 hI3 ha3 hlt
        have hk : C.length < 4 := by
          refine Classical.byContradiction (fun z => ?_)
          have z : C.length = 4 := by omega
          unfold clC at er
          rw [z] at er
          rcases if_inv er with ⟨_, er⟩ | ⟨_, er⟩
          · rcases if_inv er with ⟨_, er⟩ | ⟨y, er⟩
            · cases er
            · exact y rfl
          · cases er
        have lC : (C ++ [(sgn T n (a1 + 1), L)]).length = C.length + 1 := by rw [List.length_append]; rfl
        rw [show 4 + 1 - C.length = (4 + 1 - (C.length + 1)) + 1 by omega, pTl_af er] at h1 h0
        refine br_f (by decide) (ih a2 M3 s3 (C ++ [(sgn T n (a1 + 1), L)]) (by omega) (by omega) (fr_tr (F := fqRt) rfl f2 f3) hI3 ha3 ?_ ?_ (by omega))
        · rw [lC]; exact h1
        · rw [lC]; exact h0
      · intro e er s3 f3 e28
        rw [show 4 + 1 - C.length = (4 - C.length) + 1 by omega, pTl_no er] at h0
        exact br_t rfl (bad s3 (h0 e rfl s3 (fr_tr (F := fqRt) rfl f2 f3) e28))
    · intro c59 s2 fx
      rw [if_neg c59, if_pos (by omega)] at h0
      exact br_t rfl (bad s2 (h0 _ rfl s2 (fr_tr (F := fqRp) rfl f fx.1) fx.2))
end Ru
