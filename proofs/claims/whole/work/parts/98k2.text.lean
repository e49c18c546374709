/-! ===== the class's reader where nothing is emitted: what was emitted before is not looked at ===== -/
def CXw (n : Nat) (s : ST) : Prs → Prop
  | .inl e => s.1 3505 = nI e.1 ∧ s.1 3506 = nI e.2 ∧ 0 < e.1 ∧ e.1 ≤ 6
  | .inr z => s.1 3505 = 0 ∧ s.1 3504 = nI z.1 ∧ z.1 ≤ n
def CW (S0 : ST) (n : Nat) (s : ST) (r : Prs) : Prop := Fr fqPs S0 s ∧ CXw n s r
theorem CX_w {n : Nat} {s : ST} {r : Prs} (h : CXv n s r) : CXw n s r := by
  cases r with
  | inl e => exact ⟨h.1, h.2.1, h.2.2.1, h.2.2.2.1⟩
  | inr z => exact ⟨h.1, h.2.1, h.2.2.2.1⟩
section Cw
variable {S0 s : ST} {T : Nat → Nat} {n : Nat}
theorem w81lw {e : Nat × Nat} {K : Int32 → ST → Prop} (h : CW S0 n s (.inl e)) : w_81 s K = K (-1) s := by
  obtain ⟨_, h1, h2, h3, h4⟩ := h
  have : ¬ s.1 3505 = 0 := by rw [h1, i_eq, nI_toInt (by omega), l_0]; omega
  unfold w_81
  exact propext ⟨fun h => h.1 this, fun h => ⟨fun _ => h, fun z => absurd this z⟩⟩
theorem w81rw {a : Nat} {G : List Pc} {K : Int32 → ST → Prop} (hT : TX S0 T n) (h : CW S0 n s (.inr (a, G))) : w_81 s K = K (sgI (sgn T n a)) s := by
  obtain ⟨f, h1, h2, h4⟩ := h
  obtain ⟨t1, t2, t3⟩ := hT
  have h4 : a ≤ n := h4
  unfold w_81
  rw [h1, h2, f.1 3502 rfl, t2, nI_leI (by omega) (by omega), nI_clamp (by omega), f.2.1 27 rfl]
  by_cases c : n ≤ a
  · rw [sgn_out c]
    exact propext ⟨fun h => (((h.2 (fun z => z rfl)).2 (nI_pos (by omega))).1 c), fun h => br_f (fun z => z rfl) (br_f (nI_pos (by omega)) (br_t c h))⟩
  · have e : sgn T n a = T a := if_pos (by omega)
    obtain ⟨t4, t5⟩ := t3 a (by omega)
    have e2 : sgI (T a) = nI (T a) := if_neg (by omega)
    rw [e, e2, t4]
    exact propext ⟨fun h => (((h.2 (fun z => z rfl)).2 (nI_pos (by omega))).2 c).2, fun h => br_f (fun z => z rfl) (br_f (nI_pos (by omega)) (br_f c ⟨pin_nI (by omega) (by omega), h⟩))⟩
theorem w85lw {e : Nat × Nat} {p q : Int32} {K : ST → Prop} (h : CW S0 n s (.inl e)) : w_85 p q s K = K s := by
  obtain ⟨_, h1, h2, h3, h4⟩ := h
  have : ¬ s.1 3505 = 0 := by rw [h1, i_eq, nI_toInt (by omega), l_0]; omega
  unfold w_85
  exact propext ⟨fun h => h.1 this, fun h => ⟨fun _ => h, fun z => absurd this z⟩⟩
theorem mp_85w {a : Nat} {G : List Pc} {K : ST → Prop} (k p : Nat) (hT : TX S0 T n) (h : CW S0 n s (.inr (a, G))) (hk : 0 < k ∧ k ≤ 6) (kk : ∀ s1, CW S0 n s1 (.inl (k, p)) → K s1) : w_85 (nI k) (nI p) s K := by
  obtain ⟨f, h1, h2, h4⟩ := h
  unfold w_85
  exact br_f (fun z => z h1) (kk _ ⟨fr_sI 3506 (fr_sI 3505 f), rfl, rfl, hk.1, hk.2⟩)
theorem CW_at {e : Nat × Nat} {x : Int32} (h : CW S0 n s (.inl e)) : CW S0 n (sI s 3504 x) (.inl e) := ⟨fr_sI 3504 h.1, h.2⟩
theorem CW_adv {a : Nat} {G : List Pc} (h : CW S0 n s (.inr (a, G))) (ha : a < n) : CW S0 n (sI s 3504 (s.1 3504 + 1)) (.inr (a + 1, G)) := by
  obtain ⟨f, h1, h2, h4⟩ := h
  refine ⟨fr_sI 3504 f, h1, ?_, ha⟩
  show s.1 3504 + 1 = nI (a + 1)
  rw [h2, ← nI_1]
theorem mp_83w {r : Prs} {c : Nat} {K : ST → Prop} (hT : TX S0 T n) (h : CW S0 n s r) (hc : c < 256) (k : ∀ s1, CW S0 n s1 (pb r (fun a G => if sgn T n a = c then .inr (a + 1, G) else .inl (1, a))) → K s1) : w_83 (nI c) s K := by
  unfold w_83
  cases r with
  | inl e =>
    rw [w81lw h]
    refine br_t ?_ ?_
    · rw [i_eq, nI_toInt (by omega), l_m1]; omega
    · rw [w85lw h]; exact k _ h
  | inr z =>
    obtain ⟨a, G⟩ := z
    rw [w81rw hT h]
    have k : ∀ s1, CW S0 n s1 (if sgn T n a = c then .inr (a + 1, G) else .inl (1, a)) → K s1 := k
    by_cases d : sgn T n a = c
    · rw [if_pos d] at k
      exact br_f (fun z => z (sg_y c d hc)) (k _ (CW_adv h (sgn_in hT (by omega))))
    · rw [if_neg d] at k
      have h2 := h.2.2.1
      have h2 : s.1 3504 = nI a := h2
      refine br_t (sg_n c d (sgn_le hT) hc) ?_
      rw [h2]
      exact mp_85w 1 a hT h (by omega) k
theorem l_77lw {e : Nat × Nat} {x1 x2 : Int32} {X K : Int32 → ST → Prop} (h : CW S0 n s (.inl e)) (k : X x1 s) : w_77_L13 1 x1 x2 s X K := by
  rw [w_77_L13]
  refine ⟨fun _ => k, fun _ => ?_⟩
  rw [w81lw h, w79m]
  exact br_t rfl k
theorem mp_77lw {e : Nat × Nat} {K : Int32 → ST → Prop} (h : CW S0 n s (.inl e)) (k : ∀ y, K y s) : w_77 s K := by
  unfold w_77
  rw [w81lw h, w79m]
  refine br_f (fun z => z rfl) ?_
  rw [w85lw h]
  refine ⟨1, l_77lw h ?_⟩
  rw [w81lw h, w79m]
  exact br_t rfl (k _)
theorem l_77w {G : List Pc} {X K : Int32 → ST → Prop} (hT : TX S0 T n) : ∀ (N k a v : Nat) (s : ST), k ≤ 7 → 7 - k < N → CW S0 n s (.inr (a, G)) → (∀ s1, CW S0 n s1 (.inr ((pnL (sgn T n) (7 - k) a v).1, G)) → X (nI (pnL (sgn T n) (7 - k) a v).2) s1) → w_77_L13 N (nI v) (nI k) s X K := by
  intro N
  induction N with
  | zero => intro k a v s _ z; omega
  | succ N ih =>
    intro k a v s hk hN h hX
    rw [w_77_L13, show (7 : Int32) = nI 7 from rfl, nI_leI (by omega) (by omega)]
    by_cases c : 7 ≤ k
    · rw [show 7 - k = 0 by omega] at hX
      exact br_t c (hX s h)
    refine br_f c ?_
    rw [w81rw hT h, w79v (sgn_le hT)]
    rw [show 7 - k = (7 - (k + 1)) + 1 by omega] at hX
    by_cases d : 48 ≤ sgn T n a ∧ sgn T n a ≤ 57
    · have ep : pnL (sgn T n) ((7 - (k + 1)) + 1) a v = pnL (sgn T n) (7 - (k + 1)) (a + 1) (10 * v + (sgn T n a - 48)) := if_pos d
      rw [if_pos d]
      refine br_f (by decide) ?_
      rw [w81rw hT h, nI_1]
      have e1 : (10 : Int32) * nI v + sgI (sgn T n a) - 48 = nI (10 * v + (sgn T n a - 48)) := by
        have : sgI (sgn T n a) = nI (sgn T n a) := if_neg (by omega)
        rw [this, show (10 : Int32) = nI 10 from rfl, show (48 : Int32) = nI 48 from rfl, pk_mul, nI_add, pk_sub (by omega), show 10 * v + sgn T n a - 48 = 10 * v + (sgn T n a - 48) by omega]
      rw [e1]
      refine ih (k + 1) (a + 1) _ _ (by omega) (by omega) (CW_adv h (sgn_in hT (by omega))) ?_
      rw [← ep]
      exact hX
    · have ep : pnL (sgn T n) ((7 - (k + 1)) + 1) a v = (a, v) := if_neg d
      rw [ep] at hX
      rw [if_neg d]
      exact br_t rfl (hX s h)
theorem mp_77w {a : Nat} {G : List Pc} {K : Int32 → ST → Prop} (hT : TX S0 T n) (h : CW S0 n s (.inr (a, G))) (kg : ∀ s1, (∀ f, pNum (sgn T n) a f = f (pnL (sgn T n) 7 a 0).1 (pnL (sgn T n) 7 a 0).2) → (48 ≤ sgn T n a ∧ sgn T n a ≤ 57) → CW S0 n s1 (.inr ((pnL (sgn T n) 7 a 0).1, G)) → K (nI (pnL (sgn T n) 7 a 0).2) s1) (kb : ∀ e y s1, (∀ f, pNum (sgn T n) a f = .inl e) → CW S0 n s1 (.inl e) → K y s1) : w_77 s K := by
  have h2 : s.1 3504 = nI a := h.2.2.1
  unfold w_77
  rw [w81rw hT h, w79v (sgn_le hT)]
  by_cases d : 48 ≤ sgn T n a ∧ sgn T n a ≤ 57
  · rw [if_pos d]
    refine br_t (by decide) ⟨8, l_77w (G := G) hT 8 0 a 0 s (by omega) (by omega) h ?_⟩
    intro s1 h1
    rw [w81rw hT h1, w79v (sgn_le hT)]
    have h3 : s1.1 3504 = nI (pnL (sgn T n) 7 a 0).1 := h1.2.2.1
    by_cases c : 48 ≤ sgn T n (pnL (sgn T n) 7 a 0).1 ∧ sgn T n (pnL (sgn T n) 7 a 0).1 ≤ 57
    · rw [if_pos c]
      refine br_f (by decide) ?_
      rw [h3]
      exact mp_85w 2 _ hT h1 (by omega) (fun s2 h4 => kb _ _ s2 (fun f => by unfold pNum; rw [if_pos d, if_pos c]) h4)
    · rw [if_neg c]
      exact br_t rfl (kg s1 (fun f => by unfold pNum; rw [if_pos d, if_neg c]) d h1)
  · rw [if_neg d]
    refine br_f (fun z => z rfl) ?_
    rw [h2]
    refine mp_85w 1 a hT h (by omega) (fun s1 h1 => ⟨1, l_77lw h1 ?_⟩)
    rw [w81lw h1, w79m]
    exact br_t rfl (kb _ _ s1 (fun f => by unfold pNum; rw [if_neg d]) h1)
theorem w82lw {e : Nat × Nat} {c : Nat} {s : ST} {K : Int32 → ST → Prop} (h : CW S0 n s (.inl e)) (hc : c < 256) : w_82 (nI c) s K = K 0 s := by
  unfold w_82
  rw [w81lw h]
  have d : ¬ (-1 : Int32) = nI c := fun z => nI_nm1 (show c < 1000000 by omega) z.symm
  exact propext ⟨fun h => h.2 d, fun h => br_f d h⟩
theorem w82yw {a c : Nat} {G : List Pc} {s : ST} {K : Int32 → ST → Prop} (hT : TX S0 T n) (h : CW S0 n s (.inr (a, G))) (hc : c < 256) (d : sgn T n a = c) : w_82 (nI c) s K = K 1 (sI s 3504 (s.1 3504 + 1)) := by
  unfold w_82
  rw [w81rw hT h]
  exact propext ⟨fun h => h.1 (sg_y c d hc), fun h => br_t (sg_y c d hc) h⟩
theorem w82nw {a c : Nat} {G : List Pc} {s : ST} {K : Int32 → ST → Prop} (hT : TX S0 T n) (h : CW S0 n s (.inr (a, G))) (hc : c < 256) (d : ¬ sgn T n a = c) : w_82 (nI c) s K = K 0 s := by
  unfold w_82
  rw [w81rw hT h]
  exact propext ⟨fun h => h.2 (sg_n c d (sgn_le hT) hc), fun h => br_f (sg_n c d (sgn_le hT) hc) h⟩
theorem mp_78w {S0 s : ST} {r : Prs} {most : Nat} {K : Int32 → ST → Prop} (hT : TX S0 T n) (h : CW S0 n s r) (hm : most < 1000000) (k : ∀ y s1, CW S0 n s1 (pb r (fun a G => pb (numP (sgn T n) a most) (fun a1 _ => .inr (a1, G)))) → (∀ a G a1 L, r = .inr (a, G) → numP (sgn T n) a most = .inr (a1, L) → ∃ v, L = [(v, 0)] ∧ y = nI v ∧ v ≤ most) → K y s1) : w_78 (nI most) s K := by
  unfold w_78
  cases r with
  | inl e =>
    refine mp_77lw h (fun y => ⟨fun _ => k y s h (fun a G a1 L z => by cases z), fun _ => ?_⟩)
    rw [w85lw h]
    exact k y s h (fun a G a1 L z => by cases z)
  | inr z =>
    obtain ⟨a, G⟩ := z
    have h2 : s.1 3504 = nI a := h.2.2.1
    have k : ∀ y s1, CW S0 n s1 (pb (numP (sgn T n) a most) (fun a1 _ => .inr (a1, G))) → (∀ a1 L, numP (sgn T n) a most = .inr (a1, L) → ∃ v, L = [(v, 0)] ∧ y = nI v ∧ v ≤ most) → K y s1 := fun y s1 q1 q2 => k y s1 q1 (fun a' G' a1 L e1 e2 => by
      obtain ⟨z1, z2⟩ := inr_inv e1
      rw [← z1] at e2
      exact q2 a1 L e2)
    unfold numP at k
    refine mp_77w hT h ?_ ?_
    · intro s1 hf hd h1
      have b7 := pnL_1 (n := n) (sg := sgn T n) (fun _ h => sgn_out h) hd
      rw [nI_leI (by omega) (by omega)]
      rw [hf] at k
      by_cases c : (pnL (sgn T n) 7 a 0).2 ≤ most
      · rw [if_pos c] at k
        refine br_t c (k _ s1 h1 (fun a1 L e1 => ?_))
        obtain ⟨z1, z2⟩ := inr_inv e1
        exact ⟨_, z2.symm, rfl, c⟩
      · rw [if_neg c] at k
        refine br_f c ?_
        rw [h2]
        exact mp_85w 3 a hT h1 (by omega) (fun s2 h3 => k _ s2 h3 (fun a1 L e1 => by cases e1))
    · intro e y s1 hf h1
      rw [hf] at k
      refine ⟨fun _ => k y s1 h1 (fun a1 L e1 => by cases e1), fun _ => ?_⟩
      rw [w85lw h1]
      exact k y s1 h1 (fun a1 L e1 => by cases e1)
theorem mp_66w {s : ST} {r : Prs} {K : Nat → ST → Prop} (hT : TX s T n) (h : CXw n s r) (k : ∀ (s1 : ST) (u : Nat) (f : Nat → Int32), Fr fqPd s s1 → CXv n s1 (pb r (fun a _ => pEn (sgn T n) n a)) → s1.2.2.2.2 = s.2.2.2.2 ++ [(Sum.inl (0, u, .inl f) : PC)] → u ≤ 160 → (∀ a G a1 G1, r = .inr (a, G) → pEn (sgn T n) n a = .inr (a1, G1) → u = G1.length ∧ ∀ p (hp : p < G1.length), f p = nI (16 * G1[p].2 + G1[p].1)) → K s.2.2.2.2.length s1) : w_66 s K := by
  have hn := hT.1
  have f0 : Fr fqPd s (sI s 3503 0) := fr_sI 3503 (fr_rfl _ _)
  have hT0 : TX (sI s 3503 0) T n := TX_fr f0 hT
  have fin : ∀ (s4 : ST) (r4 : Prs), CX (sI s 3503 0) n s4 r4 → r4 = pb r (fun a _ => pEn (sgn T n) n a) → w_305_R36 (s4.1 3503) s4 (fun r8 s7 => K r8 s7) := by
    intro s4 r4 h4 e4
    have hu : ∃ u, u ≤ 160 ∧ s4.1 3503 = nI u ∧ ∀ a1 G1, r4 = .inr (a1, G1) → u = G1.length := by
      cases r4 with
      | inl e =>
        obtain ⟨_, _, _, _, _, u, u1, u2⟩ := h4
        exact ⟨u, u1, u2, fun a1 G1 z => by cases z⟩
      | inr z =>
        obtain ⟨_, z1, z2, z3, z4, z5, z6⟩ := h4
        refine ⟨z.2.length, by omega, z3, fun a1 G1 y => ?_⟩
        obtain ⟨y1, y2⟩ := inr_inv y
        rw [y2]
    obtain ⟨u, u1, u2, u3⟩ := hu
    rw [u2]
    refine mp_305 u1 (fun f hf => ?_)
    have fr : Fr fqPd s s4 := fr_tr (F := fqPs) rfl f0 h4.1
    have ed : s4.2.2.2.2 = s.2.2.2.2 := h4.1.2.2.2.2 rfl
    rw [ed]
    refine k _ u f ?_ ?_ rfl u1 ?_
    · obtain ⟨q1, q2, q3, q4, q5⟩ := fr
      exact ⟨q1, q2, q3, q4, fun z => absurd z (by decide)⟩
    · rw [← e4]
      exact h4.2
    · intro a G a1 G1 er ep
      rw [er] at e4
      have e4 : r4 = pEn (sgn T n) n a := e4
      rw [ep] at e4
      refine ⟨u3 a1 G1 e4, fun p hp => ?_⟩
      have hup := u3 a1 G1 e4
      rw [hf p (by omega)]
      rw [e4] at h4
      exact h4.2.2.2.2.2.2 p hp
  unfold w_66
  cases r with
  | inl e =>
    have h0 : CX (sI s 3503 0) n (sI s 3503 0) (.inl e) := ⟨fr_rfl _ _, h.1, h.2.1, h.2.2.1, h.2.2.2, 0, by omega, rfl⟩
    refine mp_83 (c := 40) hT0 h0 (by omega) (fun s1 h1 => ?_)
    refine mp_69 hT0 h1 (fun s2 h2 => ?_)
    refine mp_83 (c := 41) hT0 h2 (by omega) (fun s3 h3 => ?_)
    exact fin s3 _ h3 rfl
  | inr z =>
    obtain ⟨a, G⟩ := z
    have h0 : CX (sI s 3503 0) n (sI s 3503 0) (.inr (a, [])) := ⟨fr_rfl _ _, h.1, h.2.1, rfl, h.2.2, by show 0 ≤ a; omega, fun i hi => absurd hi (by show ¬ i < 0; omega)⟩
    refine mp_83 (c := 40) hT0 h0 (by omega) (fun s1 h1 => ?_)
    refine mp_69 hT0 h1 (fun s2 h2 => ?_)
    refine mp_83 (c := 41) hT0 h2 (by omega) (fun s3 h3 => ?_)
    refine fin s3 _ h3 ?_
    show pb (pb (if sgn T n a = 40 then .inr (a + 1, []) else .inl (1, a)) _) _ = pEn (sgn T n) n a
    unfold pEn
    by_cases c : sgn T n a = 40
    · rw [if_pos c, if_pos c]
      rfl
    · rw [if_neg c, if_neg c]
      rfl
end Cw
