/-! ===== the reference's way: its least room, its fill ===== -/
abbrev fqLf : FS := ([], [99], [], false, false)
section Wk
variable {n m L src : Nat} {F T : Nat → Nat} {C p : Nat → Int} {q he pa : Nat → Nat}
/-- a step of the way: its edge, and whether it goes along it -/
theorem BJ_dir {s : ST} {i : Nat} (b : BJ s n m F T C p q he pa L src) (h0 : 0 < i) (hi : i < L) : (he i % 2 = 0 ∧ T (he i / 2) = q i ∧ F (he i / 2) = q (pa i) ∧ wE C p (he i) = C (he i / 2) - p (he i / 2)) ∨ (¬ he i % 2 = 0 ∧ ¬ T (he i / 2) = q i ∧ T (he i / 2) = q (pa i) ∧ wE C p (he i) = p (he i / 2)) := by
  obtain ⟨b1, b2, b3, b4, b5, b6⟩ := b.2.2.2.2.2.2 i h0 hi
  by_cases c : he i % 2 = 0
  · left
    unfold sE at b4 b5
    rw [if_pos c] at b4 b5
    exact ⟨c, b4, b5, by unfold wE; rw [if_pos c]⟩
  · right
    unfold sE at b5
    rw [if_neg c] at b5
    refine ⟨c, fun z => ?_, b5, by unfold wE; rw [if_neg c]⟩
    rw [b5] at z
    have := b.2.2.2.1 (pa i) i (by omega) hi z
    omega
theorem l_249a {s : ST} {x2 : Int32} {X : Int32 → Int32 → Int32 → ST → Prop} {K : Int32 → ST → Prop} (hn : n ≤ 400) (hm : m ≤ 600) (e : EB s n m F T C p) (b : BJ s n m F T C p q he pa L src) (hp : ∀ k, k < m → 0 ≤ p k ∧ p k ≤ C k) (hC : ∀ k, k < m → C k ≤ 1000000000) : ∀ (N f i : Nat) (a : Int32), i ≤ f → i < L → i < N → 0 < a.toInt → (∀ a1 : Int32, 0 < a1.toInt → a1.toInt ≤ a.toInt → (∀ j, j ∈ pth pa f i → a1.toInt ≤ wE C p (he j)) → X (nI src) x2 a1 s) → w_249_L122 N (nI src) x2 a (nI (q i)) s X K := by
  intro N
  induction N with
  | zero => intro f i a _ _ z; omega
  | succ N ih =>
    intro f i a hf hi hN ha hX
    have lq := b.2.2.1 i hi
    have l0 := b.2.2.1 0 b.1
    rw [b.2.1] at l0
    rw [w_249_L122, nI_eq (show q i < 2 ^ 31 by omega) (show src < 2 ^ 31 by omega)]
    by_cases c : i = 0
    · rw [c, b.2.1]
      refine br_t rfl (hX a ha (by omega) (fun j hj => ?_))
      rw [c, pth_0] at hj
      exact absurd hj List.not_mem_nil
    · obtain ⟨f, rfl⟩ : ∃ g, f = g + 1 := ⟨f - 1, by omega⟩
      have nq : ¬ q i = src := fun z => c (b.2.2.2.1 i 0 hi b.1 (by rw [b.2.1]; exact z))
      obtain ⟨b1, b2, b3, b4, b5, b6⟩ := b.2.2.2.2.2.2 i (by omega) hi
      have dr := BJ_dir b (by omega) hi
      have he2 : he i / 2 < m := by omega
      obtain ⟨g1, g2, g3, g4⟩ := e.2.2 (he i / 2) he2
      have hpe := hp _ he2
      have hCe := hC _ he2
      have ep : pth pa (f + 1) i = i :: pth pa f (pa i) := if_neg c
      have go : ∀ a2 : Int32, 0 < a2.toInt → a2.toInt ≤ a.toInt → a2.toInt ≤ wE C p (he i) → w_249_L122 N (nI src) x2 a2 (nI (q (pa i))) s X K := by
        intro a2 z1 z2 z3
        refine ih f (pa i) a2 (by omega) (by omega) (by omega) z1 ?_
        intro a1 y1 y2 y3
        refine hX a1 y1 (by omega) (fun j hj => ?_)
        rw [ep, List.mem_cons] at hj
        rcases hj with rfl | hj
        · omega
        · exact y3 j hj
      have lT : T (he i / 2) < 2 ^ 31 := by
        have h1 := b.2.2.1 (pa i) (by omega)
        rcases dr with ⟨_, d, _⟩ | ⟨_, _, d, _⟩ <;> omega
      have pe : pin (nI (he i / 2)) 700 = true := pin_nI (by omega) (by omega)
      rw [nI_clamp (show q i < 2 ^ 31 by omega), b3, nI_clamp (show he i / 2 < 2 ^ 31 by omega), g1, g2, nI_eq lT (show q i < 2 ^ 31 by omega)]
      refine br_f nq ⟨pin_nI (by omega) (by omega), pe, ?_⟩
      rcases dr with ⟨_, d1, d2, d3⟩ | ⟨_, d1, d2, d3⟩
      · have r1 : (s.2.1 98 (he i / 2) - s.2.1 99 (he i / 2)).toInt = C (he i / 2) - p (he i / 2) := by rw [t_sub] <;> rw [g3, g4] <;> omega
        rw [d2]
        refine br_f (fun z => z d1) ⟨pe, pe, ?_⟩
        by_cases y : a ≤ s.2.1 98 (he i / 2) - s.2.1 99 (he i / 2)
        · refine br_t y ⟨pe, br_f (fun z => z d1) ⟨pe, go a ha (by omega) ?_⟩⟩
          rw [i_le, r1] at y
          omega
        · refine br_f y ⟨pe, br_f (fun z => z d1) ⟨pe, go _ ?_ ?_ ?_⟩⟩ <;> rw [i_le, r1] at y <;> omega
      · rw [d2] at d1 ⊢
        refine br_t d1 ⟨pe, ?_⟩
        by_cases y : a ≤ s.2.1 99 (he i / 2)
        · refine br_t y ⟨pe, br_t d1 ⟨pe, go a ha (by omega) ?_⟩⟩
          rw [i_le, g4] at y
          omega
        · refine br_f y ⟨pe, br_t d1 ⟨pe, go _ ?_ ?_ ?_⟩⟩ <;> rw [i_le, g4] at y <;> omega
theorem EB_p {s : ST} {k : Nat} {x : Int32} (e : EB s n m F T C p) : EB (sA s 99 (upd (s.2.1 99) k x)) n m F T C (uf p k x.toInt) := by
  obtain ⟨h1, h2, h3⟩ := e
  refine ⟨h1, h2, fun j hj => ?_⟩
  obtain ⟨g1, g2, g3, g4⟩ := h3 j hj
  refine ⟨g1, g2, g3, ?_⟩
  show (upd (s.2.1 99) k x j).toInt = _
  by_cases z : j = k
  · rw [z, pk_us, uf_s]
  · rw [pk_un z, uf_n z]; exact g4
theorem wE_nn {e j : Nat} {p : Nat → Int} {d : Int} (hd : 0 < d) (he : e < 2 * m) (hde : d ≤ wE C p e) (h0 : ∀ j, j < 2 * m → 0 ≤ wE C p j) (hj : j < 2 * m) : 0 ≤ wE C (pfl p e d) j := by
  have w1 := h0 j hj
  have w2 := h0 _ (xr_lt he)
  rw [wE_pfl, uf_n (f := wE C p) xr_ne]
  by_cases a : j = xr e
  · rw [a, uf_s]; omega
  · rw [uf_n a]
    by_cases y : j = e
    · rw [y, uf_s]; omega
    · rw [uf_n y]; exact w1
theorem l_249b {S0 : ST} {d : Int32} {X : Int32 → ST → Prop} {K : Int32 → ST → Prop} (hn : n ≤ 400) (hm : m ≤ 600) (b : BJ S0 n m F T C p q he pa L src) (hC : ∀ k, k < m → C k ≤ 1000000000) (hd : 0 < d.toInt) : ∀ (N f i : Nat) (s : ST) (p0 : Nat → Int), i ≤ f → i < L → i < N → Fr fqLf S0 s → EB s n m F T C p0 → (∀ j, j < 2 * m → 0 ≤ wE C p0 j) → (∀ j, j ∈ pth pa f i → d.toInt ≤ wE C p0 (he j)) → (∀ s1 p1, Fr fqLf S0 s1 → EB s1 n m F T C p1 → (∀ j, j < 2 * m → 0 ≤ wE C p1 j) → (∀ t : Nat → Int, pot m F T p1 t = pot m F T p0 t + d.toInt * (t (q i) - t src)) → X d s1) → w_249_L177 N (nI src) d (nI (q i)) s X K := by
  intro N
  induction N with
  | zero => intro f i s p0 _ _ z; omega
  | succ N ih =>
    intro f i s p0 hf hi hN fr e h0 hp hX
    have lq := b.2.2.1 i hi
    have l0 := b.2.2.1 0 b.1
    rw [b.2.1] at l0
    rw [w_249_L177, nI_eq (show q i < 2 ^ 31 by omega) (show src < 2 ^ 31 by omega)]
    by_cases c : i = 0
    · rw [c, b.2.1]
      refine br_t rfl (hX s p0 fr e h0 (fun t => ?_))
      rw [c, b.2.1, Int.sub_self, Int.mul_zero, Int.add_zero]
    · obtain ⟨f, rfl⟩ : ∃ g, f = g + 1 := ⟨f - 1, by omega⟩
      have nq : ¬ q i = src := fun z => c (b.2.2.2.1 i 0 hi b.1 (by rw [b.2.1]; exact z))
      obtain ⟨b1, b2, b3, b4, b5, b6⟩ := b.2.2.2.2.2.2 i (by omega) hi
      have dr := BJ_dir b (by omega) hi
      have he2 : he i / 2 < m := by omega
      obtain ⟨g1, g2, g3, g4⟩ := e.2.2 (he i / 2) he2
      have hpe := wE_b h0 _ he2
      have hCe := hC _ he2
      have ep : pth pa (f + 1) i = i :: pth pa f (pa i) := if_neg c
      rw [ep] at hp
      have hde := hp i List.mem_cons_self
      have go : ∀ x : Int32, uf p0 (he i / 2) x.toInt = pfl p0 (he i) d.toInt → w_249_L177 N (nI src) d (nI (q (pa i))) (sA s 99 (upd (s.2.1 99) (he i / 2) x)) X K := by
        intro x ex
        have e2 := EB_p (k := he i / 2) (x := x) e
        rw [ex] at e2
        refine ih f (pa i) _ (pfl p0 (he i) d.toInt) (by omega) (by omega) (by omega) (fr_sA 99 fr) e2 (fun j hj => wE_nn hd b1 hde h0 hj) ?_ ?_
        · intro j hj
          obtain ⟨j0, j1⟩ := pth_mem (fun i h1 h2 => (b.2.2.2.2.2.2 i h1 h2).2.1) f (pa i) j (by omega) hj
          obtain ⟨d1, d2, d3, d4, d5, d6⟩ := b.2.2.2.2.2.2 j j0 (by omega)
          have inj := b.2.2.2.1
          have n1 : ¬ he j = he i := fun z => by
            rw [z, b4] at d4
            have := inj i j hi (by omega) d4
            omega
          have n2 : ¬ he j = xr (he i) := fun z => by
            rw [z, sE_xr, b4] at d5
            have := inj i (pa j) hi (by omega) d5
            omega
          rw [wE_pfl, uf_n n2, uf_n n1]
          exact hp j (List.mem_cons_of_mem _ hj)
        · intro s1 p1 f1 y1 y2 y3
          refine hX s1 p1 f1 y1 y2 (fun t => ?_)
          rw [y3 t, pot_pfl b1, b4, b5]
          simp only [Int.mul_sub]
          omega
      have lT : T (he i / 2) < 2 ^ 31 := by
        have h1 := b.2.2.1 (pa i) (by omega)
        rcases dr with ⟨_, d, _⟩ | ⟨_, _, d, _⟩ <;> omega
      have pe : pin (nI (he i / 2)) 700 = true := pin_nI (by omega) (by omega)
      rw [nI_clamp (show q i < 2 ^ 31 by omega), fr.2.1 100 rfl, b3, nI_clamp (show he i / 2 < 2 ^ 31 by omega), g1, g2, nI_eq lT (show q i < 2 ^ 31 by omega)]
      refine br_f nq ⟨pin_nI (by omega) (by omega), pe, ?_⟩
      rcases dr with ⟨d0, d1, d2, _⟩ | ⟨d0, d1, d2, _⟩
      · have d3 : wE C p0 (he i) = C (he i / 2) - p0 (he i / 2) := if_pos d0
        rw [d2]
        refine br_f (fun z => z d1) ⟨pe, pe, pe, go _ ?_⟩
        have r1 : (s.2.1 99 (he i / 2) + d).toInt = p0 (he i / 2) + d.toInt := by rw [t_add] <;> rw [g4] <;> omega
        unfold pfl
        rw [if_pos d0, r1]
      · have d3 : wE C p0 (he i) = p0 (he i / 2) := if_neg d0
        rw [d2] at d1 ⊢
        refine br_t d1 ⟨pe, pe, pe, go _ ?_⟩
        have r1 : (s.2.1 99 (he i / 2) - d).toInt = p0 (he i / 2) - d.toInt := by rw [t_sub] <;> rw [g4] <;> omega
        unfold pfl
        rw [if_neg d0, r1]
end Wk
abbrev fqLd : FS := ([], [99, 100], [], false, false)
theorem b_wE {m : Nat} {C p : Nat → Int} (h : ∀ k, k < m → 0 ≤ p k ∧ p k ≤ C k) (j : Nat) (hj : j < 2 * m) : 0 ≤ wE C p j := by
  have := h (j / 2) (by omega)
  unfold wE
  split <;> omega
def CutB (m : Nat) (F T : Nat → Nat) (C p : Nat → Int) (s t : Nat) : Prop := ∃ c : Nat → Bool, c s = true ∧ c t = false ∧ (∀ k, k < m → c (F k) = true → c (T k) = false → p k = C k) ∧ (∀ k, k < m → c (F k) = false → c (T k) = true → p k = 0)
theorem mp_249 {s : ST} {n m src tt : Nat} {F T : Nat → Nat} {C p : Nat → Int} {lim : Int32} {K : Int32 → ST → Prop} (e : EB s n m F T C p) (hn : n ≤ 400) (hm : m ≤ 600) (hF : ∀ k, k < m → F k < n ∧ T k < n) (hC : ∀ k, k < m → C k ≤ 1000000000) (hp : ∀ k, k < m → 0 ≤ p k ∧ p k ≤ C k) (hs : src < n) (ht : tt < n) (hl : 0 < lim.toInt) (k0 : ∀ s1, Fr fqLd s s1 → EB s1 n m F T C p → CutB m F T C p src tt → K 0 s1) (k1 : ∀ (d : Int32) s1 p1, Fr fqLd s s1 → EB s1 n m F T C p1 → (∀ k, k < m → 0 ≤ p1 k ∧ p1 k ≤ C k) → 0 < d.toInt → d.toInt ≤ lim.toInt → (∀ t : Nat → Int, pot m F T p1 t = pot m F T p t + d.toInt * (t tt - t src)) → K d s1) : w_249 (nI src) (nI tt) lim s K := by
  unfold w_249
  refine ⟨n + 1, l_249c (S0 := s) (m := m) (F := F) (T := T) (C := C) (p := p) hn ?_ (n + 1) 0 s (by omega) (by omega) (fr_rfl _ _) e (fun i hi => absurd hi (by omega))⟩
  intro s1 f1 e1 h1
  refine ⟨pin_nI (by omega) (by omega), n + 2, ?_⟩
  rw [nI_clamp (show src < 2 ^ 31 by omega), e1.2.1]
  have fs : Fr fqLb s1 (sA s1 100 (upd (s1.2.1 100) src (nI m))) := fr_sA 100 (fr_rfl _ _)
  have bj0 : BJ (sA s1 100 (upd (s1.2.1 100) src (nI m))) n m F T C p (fun _ => src) (fun _ => 0) (fun _ => 0) 1 src := by
    refine ⟨by omega, rfl, fun i _ => hs, fun i j hi hj _ => by omega, ?_, fun v hv hn0 => ?_, fun i h0 hi => absurd hi (by omega)⟩
    · show upd (s1.2.1 100) src (nI m) src = nI m
      exact pk_us
    · show upd (s1.2.1 100) src (nI m) v = -1
      have := hn0 0 (by omega)
      rw [pk_un (fun z => this z.symm)]
      exact h1 v hv
  refine l_249w (S0 := s) (src := src) hn hm ht hF ?_ (n + 2) _ 1 _ _ _ 1 (fr_tr (F := fqLb) rfl f1 fs) (EB_fr fs e1) bj0 (Or.inr ⟨rfl, by omega⟩)
  intro s3 q he pa L f3 e3 b3 cl
  refine ⟨pin_nI (by omega) (by omega), ?_⟩
  rw [nI_clamp (show tt < 2 ^ 31 by omega)]
  by_cases z : s3.2.1 100 tt = -1
  · refine br_f (fun w => w z) (k0 s3 (fr_weak rfl f3) e3 ⟨fun u => decide (u ∈ qlL q L), ?_, ?_, ?_, ?_⟩)
    · exact decide_eq_true ((qlL_mem L).mpr ⟨0, b3.1, b3.2.1⟩)
    · exact decide_eq_false (fun w => (BJ_in b3 (by omega) ht).mp ((qlL_mem L).mp w) z)
    · intro k hk u1 u2
      have u1 := (qlL_mem L).mp (of_decide_eq_true u1)
      have u2 : ¬ ∃ i, i < L ∧ q i = T k := fun w => of_decide_eq_false u2 ((qlL_mem L).mpr w)
      have bk := hp k hk
      rcases cl with cl | cl
      · rcases (cl k hk).1 u1 with w | w
        · exact absurd w u2
        · omega
      · exact absurd z cl
    · intro k hk u2 u1
      have u1 := (qlL_mem L).mp (of_decide_eq_true u1)
      have u2 : ¬ ∃ i, i < L ∧ q i = F k := fun w => of_decide_eq_false u2 ((qlL_mem L).mpr w)
      have bk := hp k hk
      rcases cl with cl | cl
      · rcases (cl k hk).2 u1 with w | w
        · exact absurd w u2
        · omega
      · exact absurd z cl
  · obtain ⟨i, hi, hq⟩ := (BJ_in b3 (by omega) ht).mpr z
    refine br_t z ⟨L + 1, ?_⟩
    have wa := l_249a (s := s3) (x2 := nI tt) (X := fun y1 y2 y5 s4 => ∃ m, w_249_L177 m y1 y5 y2 s4 (fun y5 s5 => K y5 s5) K) (K := K) hn hm e3 b3 hp hC (L + 1) L i lim (by omega) hi (by omega) hl ?_
    · rw [hq] at wa
      exact wa
    · intro a1 y1 y2 y3
      refine ⟨L + 1, ?_⟩
      have wb := l_249b (S0 := s3) (d := a1) (X := fun y5 s5 => K y5 s5) (K := K) hn hm b3 hC y1 (L + 1) L i s3 p (by omega) hi (by omega) (fr_rfl _ _) e3 (b_wE hp) y3 ?_
      · rw [hq] at wb
        exact wb
      · intro s5 p1 f5 e5 h5 ht5
        refine k1 a1 s5 p1 (fr_tr (F := fqLf) rfl (fr_weak rfl f3) f5) e5 (wE_b h5) y1 y2 (fun t => ?_)
        rw [ht5 t, hq]
