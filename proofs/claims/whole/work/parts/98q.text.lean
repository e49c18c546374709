/-! ===== the reference's clauses ===== -/
abbrev fqRq : FS := ([5526, 5528, 5533], [], [], false, false)
def RV (R0 s : ST) (a : Nat) : Prop := Fr fqRq R0 s ∧ s.1 5526 = nI a
section Rq
variable {R0 s : ST} {T : Nat → Nat} {n b a d : Nat} {G W : List Pc}
theorem w202vw {K : Int32 → ST → Prop} (hT : TR R0 T n) (h : RV R0 s a) (ha : a ≤ n) : w_202 s K = K (sgI (sgn T n a)) s := by
  obtain ⟨f, h1⟩ := h
  obtain ⟨t1, t2, t3⟩ := hT
  unfold w_202
  rw [h1, f.1 5527 rfl, t2, nI_leI (by omega) (by omega), nI_clamp (by omega), f.2.1 75 rfl]
  by_cases c : n ≤ a
  · rw [sgn_out c]
    exact propext ⟨fun h => h.1 c, fun h => br_t c h⟩
  · have e : sgn T n a = T a := if_pos (by omega)
    obtain ⟨t4, t5⟩ := t3 a (by omega)
    have e2 : sgI (T a) = nI (T a) := if_neg (by omega)
    rw [e, e2, t4]
    exact propext ⟨fun h => (h.2 c).2, fun h => br_f c ⟨pin_nI (by omega) (by omega), h⟩⟩
theorem w203vw {K : Int32 → ST → Prop} (hT : TR R0 T n) (h : RV R0 s a) (ha : a ≤ n) : w_203 s K = K (if 48 ≤ sgn T n a ∧ sgn T n a ≤ 57 then 1 else 0) s := by
  have e : w_203 s K = w_79 (sgI (sgn T n a)) s K := by
    unfold w_203 w_79
    rw [w202vw hT h ha, w202vw hT h ha]
  rw [e, w79v (sgr_le hT)]
theorem RV_adv (h : RV R0 s a) : RV R0 (sI s 5526 (s.1 5526 + 1)) (a + 1) := by
  obtain ⟨f, h1⟩ := h
  refine ⟨fr_sI 5526 f, ?_⟩
  show s.1 5526 + 1 = nI (a + 1)
  rw [h1, nI_1]
theorem RV_n {x : Int32} (h : RV R0 s a) : RV R0 (sI s 5533 x) a := by
  obtain ⟨f, h1⟩ := h
  exact ⟨fr_sI 5533 f, h1⟩
theorem mp_204w {K : Int32 → ST → Prop} (k p : Nat) (f : Fr fqRq R0 s) (kk : ∀ s1, FX R0 s1 (k, p) → K 0 s1) : w_204 (nI k) (nI p) s K := mp_204 k p (fr_weak rfl f) kk
theorem l_206w {x1 : Int32} {fr : Nat} {X48 : Int32 → Int32 → ST → Prop} {X24 : ST → Prop} {K : Int32 → ST → Prop} (hT : TR R0 T n) : ∀ (N k a v : Nat) (s : ST), a = fr + k → k ≤ 7 → 7 - k < N → a ≤ n → RV R0 s a → s.1 5533 = nI v → (¬ (48 ≤ sgn T n (pnL (sgn T n) (7 - k) a v).1 ∧ sgn T n (pnL (sgn T n) (7 - k) a v).1 ≤ 57) → ∀ s1, RV R0 s1 (pnL (sgn T n) (7 - k) a v).1 → s1.1 5533 = nI (pnL (sgn T n) (7 - k) a v).2 → X48 x1 (nI fr) s1) → ((48 ≤ sgn T n (pnL (sgn T n) (7 - k) a v).1 ∧ sgn T n (pnL (sgn T n) (7 - k) a v).1 ≤ 57) → ∀ s1, RV R0 s1 (pnL (sgn T n) (7 - k) a v).1 → X24 s1) → w_206_L15 N x1 (nI fr) s X48 X24 K := by
  have hn := hT.1
  intro N
  induction N with
  | zero => intro k a v s _ _ z; omega
  | succ N ih =>
    intro k a v s ea hk hN ha h h33 x48 x24
    have h1 : s.1 5526 = nI a := h.2
    rw [w_206_L15, w203vw hT h ha, h1, show (7 : Int32) = nI 7 from rfl, nI_add, nI_eq (by omega) (by omega)]
    by_cases c : 48 ≤ sgn T n a ∧ sgn T n a ≤ 57
    · rw [if_pos c]
      refine br_f (by decide) ?_
      by_cases e : k = 7
      · rw [e, show 7 - 7 = 0 from rfl] at x24
        exact br_f (fun z => z (by omega)) (x24 c s h)
      · refine br_t (by omega) ?_
        rw [w202vw hT h ha, h33]
        have ep : pnL (sgn T n) ((7 - (k + 1)) + 1) a v = pnL (sgn T n) (7 - (k + 1)) (a + 1) (10 * v + (sgn T n a - 48)) := if_pos c
        rw [show 7 - k = (7 - (k + 1)) + 1 by omega, ep] at x48 x24
        have e1 : (10 : Int32) * nI v + sgI (sgn T n a) - 48 = nI (10 * v + (sgn T n a - 48)) := by
          have : sgI (sgn T n a) = nI (sgn T n a) := if_neg (by omega)
          rw [this, show (10 : Int32) = nI 10 from rfl, show (48 : Int32) = nI 48 from rfl, pk_mul, nI_add, pk_sub (by omega), show 10 * v + sgn T n a - 48 = 10 * v + (sgn T n a - 48) by omega]
        rw [e1]
        have hl := sgr_in (T := T) (n := n) (a := a) (by omega)
        have h2 := RV_adv (RV_n (x := nI (10 * v + (sgn T n a - 48))) h)
        exact ih (k + 1) (a + 1) _ _ (by omega) (by omega) (by omega) (by omega) h2 rfl x48 x24
    · rw [if_neg c]
      refine br_t rfl ?_
      have ep : pnL (sgn T n) (7 - k) a v = (a, v) := by
        cases hk7 : 7 - k with
        | zero => rfl
        | succ j => exact if_neg c
      rw [ep] at x48
      exact x48 c s h h33
theorem mp_206w {most : Nat} {K : Int32 → ST → Prop} (hT : TR R0 T n) (h : RV R0 s a) (ha : a ≤ n) (hm : most < 2 ^ 31) (kg : ∀ s1, (∀ f, pNum (sgn T n) a f = f (pnL (sgn T n) 7 a 0).1 (pnL (sgn T n) 7 a 0).2) → (48 ≤ sgn T n a ∧ sgn T n a ≤ 57) → (pnL (sgn T n) 7 a 0).2 ≤ most → RV R0 s1 (pnL (sgn T n) 7 a 0).1 → s1.1 5533 = nI (pnL (sgn T n) 7 a 0).2 → K 1 s1) (k3 : ∀ s1, (∀ f, pNum (sgn T n) a f = f (pnL (sgn T n) 7 a 0).1 (pnL (sgn T n) 7 a 0).2) → most < (pnL (sgn T n) 7 a 0).2 → FX R0 s1 (3, a) → K 0 s1) (kb : ∀ e s1, (∀ f, pNum (sgn T n) a f = .inl e) → FX R0 s1 e → K 0 s1) : w_206 (nI most) s K := by
  have h1 : s.1 5526 = nI a := h.2
  have hn := hT.1
  unfold w_206
  have h0 := RV_n (x := 0) h
  rw [w203vw hT h0 ha, h1]
  by_cases c : 48 ≤ sgn T n a ∧ sgn T n a ≤ 57
  · have b7 := pnL_1 (n := n) (sg := sgn T n) (fun _ h => sgn_out h) c
    rw [if_pos c]
    refine br_t (by decide) ⟨8, l_206w (fr := a) hT 8 0 a 0 _ rfl (by omega) (by omega) ha h0 rfl ?_ ?_⟩
    · intro nd s1 r1 r2
      have hf : ∀ f, pNum (sgn T n) a f = f (pnL (sgn T n) 7 a 0).1 (pnL (sgn T n) 7 a 0).2 := fun f => by unfold pNum; rw [if_pos c]; exact if_neg nd
      have r2 : s1.1 5533 = nI (pnL (sgn T n) 7 a 0).2 := r2
      show ((s1.1 5533 ≤ nI most → _) ∧ (¬ s1.1 5533 ≤ nI most → _))
      rw [r2, nI_leI (by omega) hm]
      by_cases e : (pnL (sgn T n) 7 a 0).2 ≤ most
      · exact br_t e (kg s1 hf c e r1 r2)
      · exact br_f e (mp_204w 3 a r1.1 (fun s2 fx => br_t rfl (k3 s2 hf (by omega) fx)))
    · intro nd s1 r1
      have hf : ∀ f, pNum (sgn T n) a f = .inl (2, (pnL (sgn T n) 7 a 0).1) := fun f => by unfold pNum; rw [if_pos c]; exact if_pos nd
      have r0 : s1.1 5526 = nI (pnL (sgn T n) 7 a 0).1 := r1.2
      show w_204 2 (s1.1 5526) s1 _
      rw [r0]
      exact mp_204w 2 _ r1.1 (fun s2 fx => kb _ s2 hf fx)
  · rw [if_neg c]
    refine br_f (fun z => z rfl) ?_
    have e5 : (sI s 5533 0).1 5526 = nI a := h1
    rw [e5]
    exact mp_204w 1 a h0.1 (fun s2 fx => kb _ s2 (fun f => by unfold pNum; rw [if_neg c]) fx)
theorem w202f {K : Int32 → ST → Prop} (hT : TR R0 T n) (f : Fr fqRp R0 s) (h1 : s.1 5526 = nI a) (ha : a ≤ n) : w_202 s K = K (sgI (sgn T n a)) s := by
  obtain ⟨t1, t2, t3⟩ := hT
  unfold w_202
  rw [h1, f.1 5527 rfl, t2, nI_leI (by omega) (by omega), nI_clamp (by omega), f.2.1 75 rfl]
  by_cases c : n ≤ a
  · rw [sgn_out c]
    exact propext ⟨fun h => h.1 c, fun h => br_t c h⟩
  · have e : sgn T n a = T a := if_pos (by omega)
    obtain ⟨t4, t5⟩ := t3 a (by omega)
    have e2 : sgI (T a) = nI (T a) := if_neg (by omega)
    rw [e, e2, t4]
    exact propext ⟨fun h => (h.2 c).2, fun h => br_f c ⟨pin_nI (by omega) (by omega), h⟩⟩
theorem mp_220w {K : Int32 → ST → Prop} (hT : TR R0 T n) (f : Fr fqRp R0 s) (q1 : s.1 5526 = nI a) (q2 : s.1 5530 = nI b) (q6 : ∀ i, i < b → s.2.1 76 i = R0.2.1 76 i) (ha : a ≤ n) (hb : b ≤ a) (k1 : ∀ a1 G1, pEn (sgn T n) n a = .inr (a1, G1) → ∀ s1 W1 d1, RX R0 b s1 a1 G1 W1 d1 → K 1 s1) (k0 : ∀ e, pEn (sgn T n) n a = .inl e → ∀ s1, FX R0 s1 e → K 0 s1) : w_220 s K := by
  have hn := hT.1
  have hl := sgr_le hT (a := a)
  unfold pEn at k1 k0
  unfold w_220
  rw [w202f hT f q1 ha]
  by_cases c : sgn T n a = 40
  · have hal := sgr_in (T := T) (n := n) (a := a) (by omega)
    rw [if_pos c] at k1 k0
    have h0 : RX R0 b (sI (sI s 5529 0) 5531 0) a [] [] 0 := by
      exact ⟨fr_sI 5531 (fr_sI 5529 f), q1, q2, rfl, rfl, fun i hi => absurd hi (by show ¬ i < 0; omega), q6, trivial⟩
    refine br_t (sg_y 40 c (by omega)) (mp_208 (p := 13) h0 (by omega) (by show 0 < 180; omega) (by omega) (fun _ s1 h1 => br_t (by decide) ⟨n + 1, ?_⟩) (fun z => absurd z (by omega)))
    refine rp_co (T := T) (n := n) hT (by omega) (GP_pi (fun _ h => sgn_out h) 5) (PX_pi 5) (rp_pi hT 5 1 (by omega)) K s1 (a + 1) [] [(13, 0)] (n + 1) h1 (by show 13 ≤ (nI 13).toInt; decide) (by omega) (by show b + 0 ≤ a + 1; omega) (by show 1 ≤ 4; omega) (by omega) ?_ ?_
    · intro a1 G1 er N1 m s2 Gr PC hN1 hm eG hP1 hP2 n38 n124 h2
      rw [er] at k1 k0
      have k1 : ∀ a2 G2, (if sgn T n a1 = 41 then (.inr (a1 + 1, G1) : Prs) else .inl (1, a1)) = .inr (a2, G2) → ∀ s1 W1 d1, RX R0 b s1 a2 G2 W1 d1 → K 1 s1 := k1
      have k0 : ∀ x, (if sgn T n a1 = 41 then (.inr (a1 + 1, G1) : Prs) else .inl (1, a1)) = .inl x → ∀ s1, FX R0 s1 x → K 0 s1 := k0
      have g := GP_co (sg := sgn T n) (n := n) (GP_pi (fun _ h => sgn_out h) 5) _ _ _ _ er
      have hl1 := sgr_le hT (a := a1)
      have eL : G1.length = Gr.length := by rw [eG, lnd_len]
      have l0 : ([] : List Pc).length = 0 := rfl
      obtain ⟨m, rfl⟩ : ∃ i, m = i + 1 := ⟨m - 1, by omega⟩
      unfold Bm
      rw [w_220_L47, w202v hT h2 (by omega)]
      by_cases c3 : sgn T n a1 = 41
      · rw [if_pos c3] at k1
        refine br_f (fun z => z (sg_y 41 c3 (by omega))) (mp_217 (al := true) (PC := PC) (W := [(13, 0)]) rfl ⟨by show ¬ nI 13 = 11; decide, fun _ => by show ¬ nI 13 = 12; decide⟩ (by show 1 + 2 ≤ 180; omega) hP1 h2 (by omega) (fun p hp => ⟨by rcases (hP2 p hp).1 with z | z; exact Or.inl z; exact Or.inr ⟨rfl, z⟩, (hP2 p hp).2⟩) ?_)
        intro s3 h3
        rw [← eG] at h3
        have e1 : s3.1 5531 - 1 = 0 := by
          rw [h3.2.2.2.1]
          rfl
        exact br_f (fun z => z e1) (k1 _ _ rfl _ _ _ (RX_adv (RX_pop2 h3)))
      · refine br_t (sg_n 41 c3 hl1 (by omega)) ?_
        unfold tl47
        rw [w202v hT h2 (by omega)]
        refine br_f (sg_n 38 n38 hl1 (by omega)) ?_
        rw [w202v hT h2 (by omega)]
        refine br_f (sg_n 124 n124 hl1 (by omega)) ?_
        unfold x88
        rw [h2.2.1]
        exact mp_204 1 a1 h2.1 (fun s3 fx => k0 _ (if_neg c3) s3 fx)
    · intro x er s2 fx
      rw [er] at k0
      exact k0 x rfl s2 fx
  · rw [if_neg c] at k0
    refine br_f (sg_n 40 c hl (by omega)) ?_
    rw [q1]
    exact mp_204 1 a f (fun s2 fx => k0 _ rfl s2 fx)
end Rq
