/-! ===== what is read stands behind what was there ===== -/
def PX (f : PF) : Prop := ∀ a G a1 G1, f a G = .inr (a1, G1) → ∃ H, G1 = G ++ H
theorem set_at {x v : Pc} {H : List Pc} : ∀ G : List Pc, (G ++ x :: H).set G.length v = G ++ v :: H
  | [] => rfl
  | g :: G => by
    show g :: ((G ++ x :: H).set G.length v) = g :: (G ++ v :: H)
    rw [set_at G]
section Px
variable {sg : Nat → Nat} {n : Nat}
theorem PX_fac {e : Nat} {inner : PF} (hi : ¬ e = 0 → PX inner) : PX (pFac sg e inner) := by
  intro a G a1 G1 h
  unfold pFac at h
  rcases if_inv h with ⟨c, h⟩ | ⟨c, h⟩
  · rcases if_inv h with ⟨d, h⟩ | ⟨d, h⟩
    · cases h
    · obtain ⟨a2, G2, h1, h2⟩ := pb_inv h
      rcases if_inv h2 with ⟨d2, h2⟩ | ⟨_, h2⟩
      · obtain ⟨r1, r2⟩ := inr_inv h2
        rw [← r2]
        exact hi d _ _ _ _ h1
      · cases h2
  · rcases if_inv h with ⟨d, h⟩ | ⟨d, h⟩
    · exact ⟨_, (inr_inv h).2.symm⟩
    · exact ⟨_, (inr_inv (pNum_inv h).2).2.symm⟩
theorem PX_BL {op : Nat → Nat} {it : PF} (hi : PX it) : ∀ k, PX (pBL sg op it k)
  | 0 => fun a G a1 G1 h => ⟨[], by rw [List.append_nil]; exact (inr_inv h).2.symm⟩
  | k + 1 => by
    intro a G a1 G1 h
    unfold pBL at h
    rcases if_inv h with ⟨c, h⟩ | ⟨c, h⟩
    · exact ⟨[], by rw [List.append_nil]; exact (inr_inv h).2.symm⟩
    · obtain ⟨a2, G2, h1, h2⟩ := pb_inv h
      obtain ⟨H1, e1⟩ := hi _ _ _ _ h1
      obtain ⟨H2, e2⟩ := PX_BL hi k _ _ _ _ h2
      exact ⟨H1 ++ [(op (sg a), 0)] ++ H2, by rw [e2, e1]; simp only [List.append_assoc]⟩
theorem PX_LL {c op : Nat} {it : PF} (hi : PX it) : ∀ k, PX (pLL sg c op it k)
  | 0 => fun a G a1 G1 h => ⟨[], by rw [List.append_nil]; exact (inr_inv h).2.symm⟩
  | k + 1 => by
    intro a G a1 G1 h
    unfold pLL at h
    rcases if_inv h with ⟨d, h⟩ | ⟨d, h⟩
    · obtain ⟨a2, G2, h1, h2⟩ := pb_inv h
      obtain ⟨H1, e1⟩ := hi _ _ _ _ h1
      obtain ⟨H2, e2⟩ := PX_LL hi k _ _ _ _ h2
      rw [List.append_assoc] at e1
      have e3 : G2.set G.length (op, G2.length) = G ++ (op, G2.length) :: H1 := by
        have := set_at (x := (op, 0)) (v := (op, G2.length)) (H := H1) G
        rw [e1] at this ⊢
        exact this
      exact ⟨(op, G2.length) :: H1 ++ H2, by rw [e2, e3]; simp only [List.append_assoc]⟩
    · exact ⟨[], by rw [List.append_nil]; exact (inr_inv h).2.symm⟩
theorem PX_pb {f g : PF} (h1 : PX f) (h2 : PX g) : PX (fun a G => pb (f a G) g) := by
  intro a G a1 G1 h
  obtain ⟨a2, G2, k1, k2⟩ := pb_inv h
  obtain ⟨H1, e1⟩ := h1 _ _ _ _ k1
  obtain ⟨H2, e2⟩ := h2 _ _ _ _ k2
  exact ⟨H1 ++ H2, by rw [e2, e1, List.append_assoc]⟩
theorem PX_tm {fa : PF} (h : PX fa) : PX (pTm sg n fa) := PX_pb h (PX_BL h _)
theorem PX_sm {fa : PF} (h : PX fa) : PX (pSm sg n fa) := PX_pb (PX_tm h) (PX_BL (PX_tm h) _)
theorem PX_fu : ∀ e, PX (pFu sg n e)
  | 0 => PX_fac (fun z => absurd rfl z)
  | e + 1 => PX_fac (fun _ => PX_sm (PX_fu e))
theorem PX_pa {pc : PF} (h : PX pc) : PX (pPa sg n pc) := PX_pb h (PX_LL h _)
theorem PX_co {pc : PF} (h : PX pc) : PX (pCo sg n pc) := PX_pb (PX_pa h) (PX_LL (PX_pa h) _)
theorem PX_pc {e : Nat} {su pi co : PF} (h1 : PX su) (h2 : ¬ e = 0 → PX pi) (h3 : ¬ e = 0 → PX co) : PX (pPc sg e su pi co) := by
  intro a G a1 G1 h
  unfold pPc at h
  rcases if_inv h with ⟨c, h⟩ | ⟨c, h⟩
  · rcases if_inv h with ⟨d, h⟩ | ⟨d, h⟩
    · cases h
    · obtain ⟨a2, G2, k1, k2⟩ := pb_inv h
      obtain ⟨H1, e1⟩ := h2 d _ _ _ _ k1
      exact ⟨H1 ++ [(2, 0)], by rw [← (inr_inv k2).2, e1, List.append_assoc]⟩
  · rcases if_inv h with ⟨c2, h⟩ | ⟨c2, h⟩
    · rcases if_inv h with ⟨d, h⟩ | ⟨d, h⟩
      · cases h
      · obtain ⟨a2, G2, k1, k2⟩ := pb_inv h
        rcases if_inv k2 with ⟨d2, k2⟩ | ⟨_, k2⟩
        · rw [← (inr_inv k2).2]
          exact h3 d _ _ _ _ k1
        · cases k2
    · obtain ⟨a2, G2, k1, k2⟩ := pb_inv h
      rcases if_inv k2 with ⟨_, k2⟩ | ⟨d2, k2⟩
      · cases k2
      · obtain ⟨a3, G3, q1, q2⟩ := pb_inv k2
        obtain ⟨H1, e1⟩ := h1 _ _ _ _ k1
        obtain ⟨H2, e2⟩ := h1 _ _ _ _ q1
        exact ⟨H1 ++ H2 ++ [(cop (sg a2), 0)], by rw [← (inr_inv q2).2, e2, e1]; simp only [List.append_assoc]⟩
theorem PX_pi : ∀ e, PX (pPi sg n e)
  | 0 => PX_pc (PX_sm (PX_fu 0)) (fun z => absurd rfl z) (fun z => absurd rfl z)
  | e + 1 => PX_pc (PX_sm (PX_fu (e + 1))) (fun _ => PX_pi e) (fun _ => PX_co (PX_pi e))
end Px
/-! ===== the class's reader is the grammar ===== -/
def SpM (S0 : ST) (n N tg d : Nat) (f : PF) : Prop := ∀ (s : ST) (r : Prs) (K : ST → Prop), CX S0 n s r → (∀ s1, CX S0 n s1 (pb r f) → K s1) → wr_69 N tg (nI d) s K
section Sp
variable {S0 : ST} {T : Nat → Nat} {n : Nat}
theorem cs_num {s : ST} {a : Nat} {G : List Pc} {K : ST → Prop} (hT : TX S0 T n) (h : CX S0 n s (.inr (a, G))) (k : ∀ s1, CX S0 n s1 (pNum (sgn T n) a (fun a1 v => .inr (a1, G ++ [(0, v)]))) → K s1) : w_77 s (fun r6 s5 => w_86 (0 : Int32) r6 s5 (fun r8 s7 => K s7)) := by
  have h5 : G.length ≤ a := h.2.2.2.2.2.1
  refine mp_77 hT h ?_ ?_
  · intro s1 hf hd h1
    have b := pnL_1 (n := n) (sg := sgn T n) (fun _ h => sgn_out h) hd
    rw [hf] at k
    exact mp_86 (o := 0) hT h1 (by omega) (by omega) (by omega) k
  · intro e y s1 hf h1
    rw [hf] at k
    exact mp_86l h1 (fun x s2 h2 => k s2 h2)
theorem cs_fac {e d N : Nat} {inner : PF} (hT : TX S0 T n) (hd : e + d = 6) (hi : ¬ e = 0 → SpM S0 n N 73 (d + 1) inner) : SpM S0 n (N + 1) 76 d (pFac (sgn T n) e inner) := by
  intro s r K h k
  show o_76 (wr_69 N) (nI d) s K
  unfold o_76
  cases r with
  | inl x =>
    rw [w81l h]
    exact br_f (fun z => z rfl) (br_t (by decide) (mp_77l h (fun y => mp_86l h (fun x s1 h1 => k s1 h1))))
  | inr z =>
    obtain ⟨a, G⟩ := z
    rw [w81r hT h]
    have k : ∀ s1, CX S0 n s1 (pFac (sgn T n) e inner a G) → K s1 := k
    unfold pFac at k
    have h2 : s.1 3504 = nI a := h.2.2.1
    have h5 : G.length ≤ a := h.2.2.2.2.2.1
    have hl := sgn_le hT (a := a)
    by_cases c : sgn T n a = 256
    · have e1 : sgI (sgn T n a) = -1 := if_pos c
      have d9 : ¬ sgn T n a = 91 := by omega
      have d13 : ¬ fcN (sgn T n a) < 13 := by rw [c]; decide
      rw [if_neg d9, if_neg d13] at k
      rw [e1]
      exact br_f (fun z => z rfl) (br_t (by decide) (cs_num hT h k))
    · have e1 : sgI (sgn T n a) = nI (sgn T n a) := if_neg c
      have em : ¬ sgI (sgn T n a) = -1 := by rw [e1]; exact nI_nm1 (by omega)
      have ha := sgn_in hT c
      refine br_t em ?_
      rw [e1]
      refine mp_285 (by omega) ?_
      rw [← e1]
      by_cases d1 : sgn T n a = 91
      · rw [if_pos d1] at k
        refine br_f (fun z => z (sg_y 91 d1 (by omega))) (mp_80 hT h ha hd ?_ ?_)
        · intro e0 s1 h1
          rw [if_neg e0] at k
          refine br_f (by decide) ?_
          rw [nI_1]
          exact hi e0 s1 _ _ h1 (fun s2 h3 => mp_83 (c := 93) hT h3 (by omega) k)
        · intro e0 s1 h1
          rw [if_pos e0] at k
          exact br_t rfl (k s1 h1)
      · rw [if_neg d1] at k
        refine br_t (sg_n 91 d1 hl (by omega)) ?_
        unfold ltI
        by_cases d2 : fcN (sgn T n a) < 13
        · rw [if_pos d2] at k
          rw [if_pos d2]
          exact br_f (nI_pos (by omega)) (mp_86 (o := 1) hT (CX_adv h ha) (by omega) (by omega) (by omega) k)
        · rw [if_neg d2] at k
          rw [if_neg d2]
          exact br_t (by decide) (cs_num hT h k)
theorem len_eq {s : ST} {r : Prs} (hT : TX S0 T n) (h : CX S0 n s r) : s.1 3502 = nI n := by rw [h.1.1 3502 rfl, hT.2.1]
theorem BL_room {fa : PF} {a a1 : Nat} {G G1 : List Pc} (hg : GP n fa) (h : fa (a + 1) G = .inr (a1, G1)) (hl : G.length ≤ a) : G1.length < a1 ∧ a + 1 < a1 ∧ a1 ≤ n := by
  have := hg _ _ _ _ h
  omega
/-- one more of a row of operands -/
theorem BL_go {N d tg o k j M a : Nat} {G : List Pc} {fa : PF} {op : Nat → Nat} {s : ST} {X : ST → Prop} {LL : Nat → ST → Prop} (hT : TX S0 T n) (hg : GP n fa) (hf : SpM S0 n N tg d fa) (h : CX S0 n s (.inr (a, G))) (ha : a < n) (ho : o < 16) (eo : o = op (sgn T n a)) (hk : k ≤ a) (hM : n - a < M + 1) (hj : n - a < j + 1) (hX : ∀ s1, CX S0 n s1 (pb (fa (a + 1) G) (fun a1 G1 => pBL (sgn T n) op fa j a1 (G1 ++ [(op (sgn T n a), 0)]))) → X s1) (ih : ∀ (s : ST) (r : Prs), CX S0 n s r → 0 < M → (∀ a G, r = .inr (a, G) → k + 1 ≤ a ∧ n - a < M ∧ n - a < j) → (∀ s1, CX S0 n s1 (pb r (pBL (sgn T n) op fa j)) → X s1) → LL (k + 1) s) : wr_69 N tg (nI d) (sI s 3504 (s.1 3504 + 1)) (fun s7 => w_86 (nI o) 0 s7 (fun r s9 => LL (k + 1) s9)) := by
  have h5 : G.length ≤ a := h.2.2.2.2.2.1
  refine hf _ _ _ (CX_adv h ha) (fun s1 h1 => ?_)
  have h1 : CX S0 n s1 (fa (a + 1) G) := h1
  cases hr : fa (a + 1) G with
  | inl e =>
    rw [hr] at h1 hX
    refine mp_86l h1 (fun x s2 h2 => ih s2 (.inl e) h2 (by omega) (fun a G z => by cases z) hX)
  | inr z =>
    obtain ⟨a1, G1⟩ := z
    rw [hr] at h1 hX
    obtain ⟨r1, r2, r3⟩ := BL_room hg hr h5
    refine mp_86 (v := 0) hT h1 r1 ho (by omega) (fun s2 h2 => ih s2 _ h2 (by omega) (fun a' G' z => ?_) ?_)
    · obtain ⟨z1, z2⟩ := inr_inv z
      omega
    · rw [eo]
      exact hX
theorem w75m {s : ST} {K : Int32 → ST → Prop} : w_75 (-1) s K = K 0 s := by
  unfold w_75
  exact propext ⟨fun h => ((h.2 (by decide)).2 (by decide)).1 (by decide), fun h => br_f (by decide) (br_f (by decide) (br_t (by decide) h))⟩
theorem l_74 {N d : Nat} {fa : PF} {X K : ST → Prop} (hT : TX S0 T n) (hg : GP n fa) (hf : SpM S0 n N 76 d fa) : ∀ (M k j : Nat) (s : ST) (r : Prs), CX S0 n s r → 0 < M → (∀ a G, r = .inr (a, G) → k ≤ a ∧ n - a < M ∧ n - a < j) → (∀ s1, CX S0 n s1 (pb r (pBL (sgn T n) mop fa j)) → X s1) → w_74_L5 (wr_69 N) M (nI d) (nI k) s X K := by
  intro M
  induction M with
  | zero => intro k j s r _ z; omega
  | succ M ih =>
    intro k j s r h _ hb hX
    rw [w_74_L5]
    cases r with
    | inl e =>
      refine ⟨fun _ => hX s h, fun _ => ?_⟩
      rw [w81l h, w75m]
      exact br_t rfl (hX s h)
    | inr z =>
      obtain ⟨a, G⟩ := z
      obtain ⟨b1, b2, b3⟩ := hb a G rfl
      obtain ⟨j, rfl⟩ : ∃ i, j = i + 1 := ⟨j - 1, by omega⟩
      have hn := hT.1
      have h4 : a ≤ n := h.2.2.2.2.1
      have hX : ∀ s1, CX S0 n s1 (pBL (sgn T n) mop fa (j + 1) a G) → X s1 := hX
      unfold pBL at hX
      rw [len_eq hT h, nI_leI (by omega) (by omega)]
      by_cases c : n ≤ k
      · rw [if_pos (by rw [sgn_out (by omega)]; rfl)] at hX
        exact br_t c (hX s h)
      refine br_f c ?_
      rw [w81r hT h]
      have hl := sgn_le hT (a := a)
      by_cases m : mop (sgn T n a) = 0
      · rw [if_pos m] at hX
        have n1 : ¬ sgn T n a = 42 := fun z => by rw [z] at m; exact absurd m (by decide)
        have n2 : ¬ sgn T n a = 47 := fun z => by rw [z] at m; exact absurd m (by decide)
        have n3 : ¬ sgn T n a = 37 := fun z => by rw [z] at m; exact absurd m (by decide)
        unfold w_75
        exact br_f (sg_n 42 n1 hl (by omega)) (br_f (sg_n 47 n2 hl (by omega)) (br_t (sg_n 37 n3 hl (by omega)) (br_t rfl (hX s h))))
      · rw [if_neg m] at hX
        have ha : a < n := sgn_in hT (fun z => m (by rw [z]; rfl))
        have go := fun o (ho : o < 16) (eo : o = mop (sgn T n a)) => BL_go (LL := fun k s => w_74_L5 (wr_69 N) M (nI d) (nI k) s X K) hT hg hf h ha ho eo b1 b2 b3 hX (fun s r => ih (k + 1) j s r)
        rw [nI_1]
        unfold w_75
        by_cases c1 : sgn T n a = 42
        · refine br_t (sg_y 42 c1 (by omega)) (br_f (by decide) ?_)
          rw [w81r hT h]
          exact br_f (fun z => z (sg_y 42 c1 (by omega))) (go 7 (by omega) (by rw [c1]; rfl))
        · refine br_f (sg_n 42 c1 hl (by omega)) ?_
          by_cases c2 : sgn T n a = 47
          · refine br_t (sg_y 47 c2 (by omega)) (br_f (by decide) ?_)
            rw [w81r hT h]
            refine br_t (sg_n 42 c1 hl (by omega)) ?_
            rw [w81r hT h]
            exact br_f (fun z => z (sg_y 47 c2 (by omega))) (go 8 (by omega) (by rw [c2]; rfl))
          · refine br_f (sg_n 47 c2 hl (by omega)) ?_
            by_cases c3 : sgn T n a = 37
            · refine br_f (fun z => z (sg_y 37 c3 (by omega))) (br_f (by decide) ?_)
              rw [w81r hT h]
              refine br_t (sg_n 42 c1 hl (by omega)) ?_
              rw [w81r hT h]
              exact br_t (sg_n 47 c2 hl (by omega)) (go 9 (by omega) (by rw [c3]; rfl))
            · exact absurd (by unfold mop; rw [if_neg c1, if_neg c2, if_neg c3]) m
theorem cs_tm {N d : Nat} {fa : PF} (hT : TX S0 T n) (hg : GP n fa) (hf : SpM S0 n N 76 d fa) : SpM S0 n (N + 1) 74 d (pTm (sgn T n) n fa) := by
  intro s r K h k
  show o_74 (wr_69 N) (nI d) s K
  unfold o_74
  refine hf s r _ h (fun s1 h1 => ⟨n + 2, l_74 hT hg hf (n + 2) 0 (n + 1) s1 _ h1 (by omega) (fun a G _ => by omega) (fun s2 h2 => k s2 ?_)⟩)
  rw [pb_a] at h2
  exact h2
theorem l_73 {N d : Nat} {fa : PF} {X K : ST → Prop} (hT : TX S0 T n) (hg : GP n fa) (hf : SpM S0 n N 74 d fa) : ∀ (M k j : Nat) (s : ST) (r : Prs), CX S0 n s r → 0 < M → (∀ a G, r = .inr (a, G) → k ≤ a ∧ n - a < M ∧ n - a < j) → (∀ s1, CX S0 n s1 (pb r (pBL (sgn T n) aop fa j)) → X s1) → w_73_L5 (wr_69 N) M (nI d) (nI k) s X K := by
  intro M
  induction M with
  | zero => intro k j s r _ z; omega
  | succ M ih =>
    intro k j s r h _ hb hX
    rw [w_73_L5]
    cases r with
    | inl e =>
      refine ⟨fun _ => hX s h, fun _ => ?_⟩
      rw [w81l h]
      refine br_f (by decide) ?_
      rw [w81l h]
      exact br_t (by decide) (hX s h)
    | inr z =>
      obtain ⟨a, G⟩ := z
      obtain ⟨b1, b2, b3⟩ := hb a G rfl
      obtain ⟨j, rfl⟩ : ∃ i, j = i + 1 := ⟨j - 1, by omega⟩
      have hn := hT.1
      have h4 : a ≤ n := h.2.2.2.2.1
      have hX : ∀ s1, CX S0 n s1 (pBL (sgn T n) aop fa (j + 1) a G) → X s1 := hX
      unfold pBL at hX
      rw [len_eq hT h, nI_leI (by omega) (by omega)]
      by_cases c : n ≤ k
      · rw [if_pos (by rw [sgn_out (by omega)]; rfl)] at hX
        exact br_t c (hX s h)
      refine br_f c ?_
      rw [w81r hT h]
      have hl := sgn_le hT (a := a)
      by_cases m : aop (sgn T n a) = 0
      · rw [if_pos m] at hX
        have n1 : ¬ sgn T n a = 43 := fun z => by rw [z] at m; exact absurd m (by decide)
        have n2 : ¬ sgn T n a = 45 := fun z => by rw [z] at m; exact absurd m (by decide)
        refine br_f (sg_n 43 n1 hl (by omega)) ?_
        rw [w81r hT h]
        exact br_t (sg_n 45 n2 hl (by omega)) (hX s h)
      · rw [if_neg m] at hX
        have ha : a < n := sgn_in hT (fun z => m (by rw [z]; rfl))
        have go := fun o (ho : o < 16) (eo : o = aop (sgn T n a)) => BL_go (LL := fun k s => w_73_L5 (wr_69 N) M (nI d) (nI k) s X K) hT hg hf h ha ho eo b1 b2 b3 hX (fun s r => ih (k + 1) j s r)
        rw [nI_1]
        by_cases c1 : sgn T n a = 43
        · refine br_t (sg_y 43 c1 (by omega)) ?_
          rw [w81r hT h]
          exact br_f (fun z => z (sg_y 43 c1 (by omega))) (go 5 (by omega) (by rw [c1]; rfl))
        · refine br_f (sg_n 43 c1 hl (by omega)) ?_
          rw [w81r hT h]
          by_cases c2 : sgn T n a = 45
          · refine br_f (fun z => z (sg_y 45 c2 (by omega))) ?_
            rw [w81r hT h]
            exact br_t (sg_n 43 c1 hl (by omega)) (go 6 (by omega) (by rw [c2]; rfl))
          · exact absurd (by unfold aop; rw [if_neg c1, if_neg c2]) m
theorem cs_sm {N d : Nat} {fa : PF} (hT : TX S0 T n) (hg : GP n fa) (hf : SpM S0 n N 76 d fa) : SpM S0 n (N + 2) 73 d (pSm (sgn T n) n fa) := by
  intro s r K h k
  show o_73 (wr_69 (N + 1)) (nI d) s K
  unfold o_73
  have ht := cs_tm hT hg hf
  have gt := GP_tm (sg := sgn T n) (fun _ h => sgn_out h) hg
  refine ht s r _ h (fun s1 h1 => ⟨n + 2, l_73 hT gt ht (n + 2) 0 (n + 1) s1 _ h1 (by omega) (fun a G _ => by omega) (fun s2 h2 => k s2 ?_)⟩)
  rw [pb_a] at h2
  exact h2
end Sp
