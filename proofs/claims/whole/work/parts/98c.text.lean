/-! ===== the class's conditions are the grammar's ===== -/
section Sc
variable {S0 : ST} {T : Nat → Nat} {n : Nat}
theorem w82l {e : Nat × Nat} {c : Nat} {s : ST} {K : Int32 → ST → Prop} (h : CX S0 n s (.inl e)) (hc : c < 256) : w_82 (nI c) s K = K 0 s := by
  unfold w_82
  rw [w81l h]
  have d : ¬ (-1 : Int32) = nI c := fun z => nI_nm1 (show c < 1000000 by omega) z.symm
  exact propext ⟨fun h => h.2 d, fun h => br_f d h⟩
theorem w82y {a c : Nat} {G : List Pc} {s : ST} {K : Int32 → ST → Prop} (hT : TX S0 T n) (h : CX S0 n s (.inr (a, G))) (hc : c < 256) (d : sgn T n a = c) : w_82 (nI c) s K = K 1 (sI s 3504 (s.1 3504 + 1)) := by
  unfold w_82
  rw [w81r hT h]
  exact propext ⟨fun h => h.1 (sg_y c d hc), fun h => br_t (sg_y c d hc) h⟩
theorem w82n {a c : Nat} {G : List Pc} {s : ST} {K : Int32 → ST → Prop} (hT : TX S0 T n) (h : CX S0 n s (.inr (a, G))) (hc : c < 256) (d : ¬ sgn T n a = c) : w_82 (nI c) s K = K 0 s := by
  unfold w_82
  rw [w81r hT h]
  exact propext ⟨fun h => h.2 (sg_n c d (sgn_le hT) hc), fun h => br_f (sg_n c d (sgn_le hT) hc) h⟩
theorem LL_go {N d tg c o k j M a : Nat} {G : List Pc} {it : PF} {s : ST} {X : ST → Prop} {LL : Nat → ST → Prop} (hT : TX S0 T n) (hg : GP n it) (hp : PX it) (hf : SpM S0 n N tg d it) (h : CX S0 n s (.inr (a, G))) (ha : a < n) (ho : o < 16) (hk : k ≤ a) (hM : n - a < M + 1) (hj : n - a < j + 1) (hX : ∀ s1, CX S0 n s1 (pb (it (a + 1) (G ++ [(o, 0)])) (fun a1 G1 => pLL (sgn T n) c o it j a1 (G1.set G.length (o, G1.length)))) → X s1) (ih : ∀ (s : ST) (r : Prs), CX S0 n s r → 0 < M → (∀ a G, r = .inr (a, G) → k + 1 ≤ a ∧ n - a < M ∧ n - a < j) → (∀ s1, CX S0 n s1 (pb r (pLL (sgn T n) c o it j)) → X s1) → LL (k + 1) s) : w_86 (nI o) 0 (sI s 3504 (s.1 3504 + 1)) (fun r6 s5 => wr_69 N tg (nI d) s5 (fun s7 => w_87 r6 (nI o) s7 (fun s9 => LL (k + 1) s9))) := by
  have h5 : G.length ≤ a := h.2.2.2.2.2.1
  refine mp_86 (v := 0) hT (CX_adv h ha) (by omega) ho (by omega) (fun s2 h2 => ?_)
  refine hf _ _ _ h2 (fun s1 h1 => ?_)
  have h1 : CX S0 n s1 (it (a + 1) (G ++ [(o, 0)])) := h1
  cases hr : it (a + 1) (G ++ [(o, 0)]) with
  | inl e =>
    rw [hr] at h1 hX
    exact mp_87l h1 (fun s2 h2 => ih s2 (.inl e) h2 (by omega) (fun a G z => by cases z) hX)
  | inr z =>
    obtain ⟨a1, G1⟩ := z
    rw [hr] at h1 hX
    have g := hg _ _ _ _ hr
    obtain ⟨H, eH⟩ := hp _ _ _ _ hr
    have lG : G.length < G1.length := by
      rw [eH, List.length_append, List.length_append]
      have : ([(o, 0)] : List Pc).length = 1 := rfl
      omega
    refine mp_87 hT h1 ho lG (fun s2 h2 => ih s2 _ h2 (by omega) (fun a' G' z => ?_) hX)
    obtain ⟨z1, z2⟩ := inr_inv z
    omega
theorem l_70 {N d : Nat} {it : PF} {X K : ST → Prop} (hT : TX S0 T n) (hg : GP n it) (hp : PX it) (hf : SpM S0 n N 71 d it) : ∀ (M k j : Nat) (s : ST) (r : Prs), CX S0 n s r → 0 < M → (∀ a G, r = .inr (a, G) → k ≤ a ∧ n - a < M ∧ n - a < j) → (∀ s1, CX S0 n s1 (pb r (pLL (sgn T n) 38 3 it j)) → X s1) → w_70_L5 (wr_69 N) M (nI d) (nI k) s X K := by
  intro M
  induction M with
  | zero => intro k j s r _ z; omega
  | succ M ih =>
    intro k j s r h _ hb hX
    rw [w_70_L5, show (38 : Int32) = nI 38 from rfl]
    cases r with
    | inl e =>
      refine ⟨fun _ => hX s h, fun _ => ?_⟩
      rw [w82l h (by omega)]
      exact br_t rfl (hX s h)
    | inr z =>
      obtain ⟨a, G⟩ := z
      obtain ⟨b1, b2, b3⟩ := hb a G rfl
      obtain ⟨j, rfl⟩ : ∃ i, j = i + 1 := ⟨j - 1, by omega⟩
      have hn := hT.1
      have h4 : a ≤ n := h.2.2.2.2.1
      have hX : ∀ s1, CX S0 n s1 (pLL (sgn T n) 38 3 it (j + 1) a G) → X s1 := hX
      unfold pLL at hX
      rw [len_eq hT h, nI_leI (by omega) (by omega)]
      by_cases c : n ≤ k
      · have h256 : sgn T n a = 256 := sgn_out (by omega)
        rw [if_neg (by omega)] at hX
        exact br_t c (hX s h)
      refine br_f c ?_
      by_cases m : sgn T n a = 38
      · rw [if_pos m] at hX
        rw [w82y hT h (by omega) m, nI_1]
        exact br_f (by decide) (LL_go (o := 3) (LL := fun k s => w_70_L5 (wr_69 N) M (nI d) (nI k) s X K) hT hg hp hf h (sgn_in hT (by omega)) (by omega) b1 b2 b3 hX (fun s r => ih (k + 1) j s r))
      · rw [if_neg m] at hX
        rw [w82n hT h (by omega) m]
        exact br_t rfl (hX s h)
theorem l_69 {N d : Nat} {it : PF} {X K : ST → Prop} (hT : TX S0 T n) (hg : GP n it) (hp : PX it) (hf : SpM S0 n N 70 d it) : ∀ (M k j : Nat) (s : ST) (r : Prs), CX S0 n s r → 0 < M → (∀ a G, r = .inr (a, G) → k ≤ a ∧ n - a < M ∧ n - a < j) → (∀ s1, CX S0 n s1 (pb r (pLL (sgn T n) 124 4 it j)) → X s1) → w_69_L5 (wr_69 N) M (nI d) (nI k) s X K := by
  intro M
  induction M with
  | zero => intro k j s r _ z; omega
  | succ M ih =>
    intro k j s r h _ hb hX
    rw [w_69_L5, show (124 : Int32) = nI 124 from rfl]
    cases r with
    | inl e =>
      refine ⟨fun _ => hX s h, fun _ => ?_⟩
      rw [w82l h (by omega)]
      exact br_t rfl (hX s h)
    | inr z =>
      obtain ⟨a, G⟩ := z
      obtain ⟨b1, b2, b3⟩ := hb a G rfl
      obtain ⟨j, rfl⟩ : ∃ i, j = i + 1 := ⟨j - 1, by omega⟩
      have hn := hT.1
      have h4 : a ≤ n := h.2.2.2.2.1
      have hX : ∀ s1, CX S0 n s1 (pLL (sgn T n) 124 4 it (j + 1) a G) → X s1 := hX
      unfold pLL at hX
      rw [len_eq hT h, nI_leI (by omega) (by omega)]
      by_cases c : n ≤ k
      · have h256 : sgn T n a = 256 := sgn_out (by omega)
        rw [if_neg (by omega)] at hX
        exact br_t c (hX s h)
      refine br_f c ?_
      by_cases m : sgn T n a = 124
      · rw [if_pos m] at hX
        rw [w82y hT h (by omega) m, nI_1]
        exact br_f (by decide) (LL_go (o := 4) (LL := fun k s => w_69_L5 (wr_69 N) M (nI d) (nI k) s X K) hT hg hp hf h (sgn_in hT (by omega)) (by omega) b1 b2 b3 hX (fun s r => ih (k + 1) j s r))
      · rw [if_neg m] at hX
        rw [w82n hT h (by omega) m]
        exact br_t rfl (hX s h)
theorem cs_pa {N d : Nat} {pc : PF} (hT : TX S0 T n) (hg : GP n pc) (hp : PX pc) (hf : SpM S0 n N 71 d pc) : SpM S0 n (N + 1) 70 d (pPa (sgn T n) n pc) := by
  intro s r K h k
  show o_70 (wr_69 N) (nI d) s K
  unfold o_70
  refine hf s r _ h (fun s1 h1 => ⟨n + 2, l_70 hT hg hp hf (n + 2) 0 (n + 1) s1 _ h1 (by omega) (fun a G _ => by omega) (fun s2 h2 => k s2 ?_)⟩)
  rw [pb_a] at h2
  exact h2
theorem cs_co {N d : Nat} {pc : PF} (hT : TX S0 T n) (hg : GP n pc) (hp : PX pc) (hf : SpM S0 n N 71 d pc) : SpM S0 n (N + 2) 69 d (pCo (sgn T n) n pc) := by
  intro s r K h k
  show o_69 (wr_69 (N + 1)) (nI d) s K
  unfold o_69
  have ht := cs_pa hT hg hp hf
  refine ht s r _ h (fun s1 h1 => ⟨n + 2, l_69 hT (GP_pa hg) (PX_pa hp) ht (n + 2) 0 (n + 1) s1 _ h1 (by omega) (fun a G _ => by omega) (fun s2 h2 => k s2 ?_)⟩)
  rw [pb_a] at h2
  exact h2
theorem w72m {e : Nat × Nat} {s : ST} {K : Int32 → ST → Prop} (h : CX S0 n s (.inl e)) (k : K 12 s) : w_72 (-1) s K := by
  unfold w_72
  refine ⟨fun _ => ?_, fun z => absurd z (by decide), fun z => absurd z (by decide), fun z => absurd z (by decide)⟩
  rw [w85l h]
  exact k
theorem mp_72 {a : Nat} {G : List Pc} {s : ST} {K : Int32 → ST → Prop} (hT : TX S0 T n) (h : CX S0 n s (.inr (a, G))) (k1 : ¬ cop (sgn T n a) = 0 → K (nI (cop (sgn T n a))) s) (k0 : cop (sgn T n a) = 0 → ∀ s1, CX S0 n s1 (.inl (1, a)) → K 12 s1) : w_72 (sgI (sgn T n a)) s K := by
  have hl := sgn_le hT (a := a)
  have ex := sgI_toInt hl
  have h2 : s.1 3504 = nI a := h.2.2.1
  unfold w_72
  rw [h2]
  refine ⟨fun z => mp_85 1 a hT h (by omega) (k0 ?_), fun z => ?_, fun z => ?_, fun z => ?_⟩
  · rw [ex] at z
    unfold cop
    split at z
    · rw [if_neg (by omega), if_neg (by omega), if_neg (by omega)]
    · rw [if_neg (by omega), if_neg (by omega), if_neg (by omega)]
  · have c : sgn T n a = 60 := Classical.byContradiction (fun y => sg_n 60 y hl (by omega) z)
    rw [c] at k1
    exact k1 (by decide)
  · have c : sgn T n a = 61 := Classical.byContradiction (fun y => sg_n 61 y hl (by omega) z)
    rw [c] at k1
    exact k1 (by decide)
  · have c : sgn T n a = 62 := Classical.byContradiction (fun y => sg_n 62 y hl (by omega) z)
    rw [c] at k1
    exact k1 (by decide)
theorem cop_lt (x : Nat) : cop x < 16 ∧ (¬ cop x = 0 → ¬ x = 256) := by
  unfold cop
  refine ⟨?_, fun h z => h (by rw [z]; rfl)⟩
  split <;> (try split) <;> (try split) <;> omega
theorem cs_pc {N d e : Nat} {su pi co : PF} (hT : TX S0 T n) (hd : e + d = 6) (gs : GP n su) (gp : ¬ e = 0 → GP n pi) (hs : SpM S0 n N 73 d su) (hp : ¬ e = 0 → SpM S0 n N 71 (d + 1) pi) (hc : ¬ e = 0 → SpM S0 n N 69 (d + 1) co) : SpM S0 n (N + 1) 71 d (pPc (sgn T n) e su pi co) := by
  intro s r K h k
  show o_71 (wr_69 N) (nI d) s K
  unfold o_71
  cases r with
  | inl x =>
    rw [w81l h]
    refine br_t (by decide) (br_t (by decide) (hs _ _ _ h (fun s1 h1 => ?_)))
    have h1 : CX S0 n s1 (.inl x) := h1
    rw [w81l h1]
    refine w72m h1 (hs _ _ _ (CX_at h1) (fun s2 h2 => ?_))
    have h2 : CX S0 n s2 (.inl x) := h2
    exact mp_86l h2 (fun y s3 h3 => k s3 h3)
  | inr z =>
    obtain ⟨a, G⟩ := z
    rw [w81r hT h]
    have k : ∀ s1, CX S0 n s1 (pPc (sgn T n) e su pi co a G) → K s1 := k
    unfold pPc at k
    have h5 : G.length ≤ a := h.2.2.2.2.2.1
    have hl := sgn_le hT (a := a)
    by_cases c1 : sgn T n a = 33
    · rw [if_pos c1] at k
      refine br_f (fun z => z (sg_y 33 c1 (by omega))) (mp_80 hT h (sgn_in hT (by omega)) hd ?_ ?_)
      · intro e0 s1 h1
        rw [if_neg e0] at k
        refine br_f (by decide) ?_
        rw [nI_1]
        refine hp e0 s1 _ _ h1 (fun s2 h2 => ?_)
        have h2 : CX S0 n s2 (pi (a + 1) G) := h2
        cases hr : pi (a + 1) G with
        | inl x =>
          rw [hr] at h2 k
          exact mp_86l h2 (fun y s3 h3 => k s3 h3)
        | inr z =>
          obtain ⟨a1, G1⟩ := z
          rw [hr] at h2 k
          have g := gp e0 _ _ _ _ hr
          exact mp_86 (o := 2) (v := 0) hT h2 (by omega) (by omega) (by omega) k
      · intro e0 s1 h1
        rw [if_pos e0] at k
        exact br_t rfl (k s1 h1)
    · rw [if_neg c1] at k
      refine br_t (sg_n 33 c1 hl (by omega)) ?_
      by_cases c2 : sgn T n a = 40
      · rw [if_pos c2] at k
        refine br_f (fun z => z (sg_y 40 c2 (by omega))) (mp_80 hT h (sgn_in hT (by omega)) hd ?_ ?_)
        · intro e0 s1 h1
          rw [if_neg e0] at k
          refine br_f (by decide) ?_
          rw [nI_1]
          exact hc e0 s1 _ _ h1 (fun s2 h2 => mp_83 (c := 41) hT h2 (by omega) k)
        · intro e0 s1 h1
          rw [if_pos e0] at k
          exact br_t rfl (k s1 h1)
      · rw [if_neg c2] at k
        refine br_t (sg_n 40 c2 hl (by omega)) (hs _ _ _ h (fun s1 h1 => ?_))
        have h1 : CX S0 n s1 (su a G) := h1
        have bad : ∀ (x : Nat × Nat) (s2 : ST) (y : Int32), CX S0 n s2 (.inl x) → (∀ s1, CX S0 n s1 (.inl x) → K s1) → wr_69 N 73 (nI d) (sI s2 3504 (s2.1 3504 + 1)) (fun s9 => w_86 y 0 s9 (fun r12 s11 => K s11)) := by
          intro x s2 y h2 k
          refine hs _ _ _ (CX_at h2) (fun s3 h3 => ?_)
          have h3 : CX S0 n s3 (.inl x) := h3
          exact mp_86l h3 (fun y s4 h4 => k s4 h4)
        cases hr : su a G with
        | inl x =>
          rw [hr] at h1 k
          rw [w81l h1]
          exact w72m h1 (bad x s1 12 h1 k)
        | inr z =>
          obtain ⟨a1, G1⟩ := z
          rw [hr] at h1 k
          have k : ∀ s1, CX S0 n s1 (if cop (sgn T n a1) = 0 then .inl (1, a1) else pb (su (a1 + 1) G1) (fun a2 G2 => .inr (a2, G2 ++ [(cop (sgn T n a1), 0)]))) → K s1 := k
          rw [w81r hT h1]
          have g1 := gs _ _ _ _ hr
          have cl := cop_lt (sgn T n a1)
          refine mp_72 hT h1 (fun c3 => ?_) (fun c3 s2 h2 => ?_)
          · rw [if_neg c3] at k
            refine hs _ _ _ (CX_adv h1 (sgn_in hT (cl.2 c3))) (fun s2 h2 => ?_)
            have h2 : CX S0 n s2 (su (a1 + 1) G1) := h2
            cases hr2 : su (a1 + 1) G1 with
            | inl x =>
              rw [hr2] at h2 k
              exact mp_86l h2 (fun y s3 h3 => k s3 h3)
            | inr z =>
              obtain ⟨a2, G2⟩ := z
              rw [hr2] at h2 k
              have g2 := gs _ _ _ _ hr2
              exact mp_86 (v := 0) hT h2 (by omega) cl.1 (by omega) k
          · rw [if_pos c3] at k
            exact bad _ s2 12 h2 k
theorem all_sm (hT : TX S0 T n) : ∀ (e d N : Nat), e + d = 6 → SpM S0 n (3 * e + 1 + N) 76 d (pFu (sgn T n) n e)
  | 0, d, N, hd => by
    rw [show 3 * 0 + 1 + N = N + 1 by omega]
    exact cs_fac hT hd (fun z => absurd rfl z)
  | e + 1, d, N, hd => by
    rw [show 3 * (e + 1) + 1 + N = (3 * e + 1 + N + 2) + 1 by omega]
    exact cs_fac hT hd (fun _ => cs_sm hT (GP_fu (fun _ h => sgn_out h) e) (all_sm hT e (d + 1) N (by omega)))
theorem all_pi (hT : TX S0 T n) : ∀ (e d N : Nat), e + d = 6 → SpM S0 n (3 * e + 4 + N) 71 d (pPi (sgn T n) n e)
  | 0, d, N, hd => by
    have hs := cs_sm hT (GP_fu (fun _ h => sgn_out h) 0) (all_sm hT 0 d N hd)
    rw [show 3 * 0 + 4 + N = (3 * 0 + 1 + N + 2) + 1 by omega]
    exact cs_pc hT hd (GP_sm (fun _ h => sgn_out h) (GP_fu (fun _ h => sgn_out h) 0)) (fun z => absurd rfl z) hs (fun z => absurd rfl z) (fun z => absurd rfl z)
  | e + 1, d, N, hd => by
    have hs := cs_sm hT (GP_fu (fun _ h => sgn_out h) (e + 1)) (all_sm hT (e + 1) d N hd)
    have h1 := all_pi hT e (d + 1) (N + 2) (by omega)
    have h2 := cs_co hT (GP_pi (fun _ h => sgn_out h) e) (PX_pi e) (all_pi hT e (d + 1) N (by omega))
    rw [show 3 * (e + 1) + 4 + N = (3 * (e + 1) + 1 + N + 2) + 1 by omega]
    rw [show 3 * e + 4 + (N + 2) = 3 * (e + 1) + 1 + N + 2 by omega] at h1
    rw [show 3 * e + 4 + N + 2 = 3 * (e + 1) + 1 + N + 2 by omega] at h2
    exact cs_pc hT hd (GP_sm (fun _ h => sgn_out h) (GP_fu (fun _ h => sgn_out h) (e + 1))) (fun _ => GP_pi (fun _ h => sgn_out h) e) hs (fun _ => h1) (fun _ => h2)
theorem mp_69 {s : ST} {r : Prs} {K : ST → Prop} (hT : TX S0 T n) (h : CX S0 n s r) (k : ∀ s1, CX S0 n s1 (pb r (pCo (sgn T n) n (pPi (sgn T n) n 5))) → K s1) : w_69 1 s K := by
  unfold w_69
  exact ⟨21, by omega, cs_co hT (GP_pi (fun _ h => sgn_out h) 5) (PX_pi 5) (all_pi hT 5 1 0 (by omega)) s r K h k⟩
end Sc
