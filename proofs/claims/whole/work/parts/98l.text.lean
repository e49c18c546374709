/-! ===== the class's clauses: letters of a step; a clause is added ===== -/
def ltB (x : Nat) : Nat := if x = 112 then 1 else if x = 119 then 2 else if x = 111 then 4 else 0
def pLt (sg : Nat → Nat) : Nat → Nat → Nat → Prs
  | 0, a, w => .inr (a, [(w, 0)])
  | k + 1, a, w => if ltB (sg a) = 0 then .inr (a, [(w, 0)]) else if w &&& ltB (sg a) = 0 then pLt sg k (a + 1) (w ||| ltB (sg a)) else .inl (6, a)
theorem bits8 : ∀ w : Fin 8, ∀ b : Fin 5, ((nI w.val &&& nI b.val = 0) ↔ (w.val &&& b.val = 0)) ∧ nI w.val ||| nI b.val = nI (w.val ||| b.val) ∧ w.val ||| b.val < 8 := by decide +kernel
theorem ltB_v (x : Nat) : ltB x < 5 ∧ (¬ ltB x = 0 → ¬ x = 256) := by
  unfold ltB
  refine ⟨?_, fun h z => h (by rw [z]; rfl)⟩
  split <;> (try split) <;> (try split) <;> omega
section Cl
variable {S0 : ST} {T : Nat → Nat} {n : Nat}
theorem mp_68 {x : Nat} {s : ST} {K : Int32 → ST → Prop} (hx : x ≤ 256) (k : K (nI (ltB x)) s) : w_68 (sgI x) s K := by
  have e : ∀ c : Nat, c < 256 → sgI x = nI c → K (nI (ltB c)) s := fun c hc z => by
    have : x = c := Classical.byContradiction (fun y => sg_n c y hx hc z)
    rw [← this]
    exact k
  unfold w_68
  refine ⟨e 111 (by omega), e 112 (by omega), e 119 (by omega), fun z1 z2 z3 => ?_⟩
  have n1 : ¬ x = 111 := fun z => z1 (sg_y 111 z (by omega))
  have n2 : ¬ x = 112 := fun z => z2 (sg_y 112 z (by omega))
  have n3 : ¬ x = 119 := fun z => z3 (sg_y 119 z (by omega))
  have e0 : ltB x = 0 := by unfold ltB; rw [if_neg n2, if_neg n3, if_neg n1]
  rw [e0] at k
  exact k
theorem w68m {s : ST} {K : Int32 → ST → Prop} (k : K 0 s) : w_68 (-1) s K := mp_68 (x := 256) (by omega) k
theorem l_67 {X K : Int32 → ST → Prop} (hT : TX S0 T n) : ∀ (M k j w : Nat) (s : ST) (r : Prs) (x1 : Int32), CX S0 n s r → 0 < M → (∀ a G, r = .inr (a, G) → k ≤ a ∧ n - a < M ∧ n - a < j ∧ x1 = nI w) → w < 8 → (∀ y s1, CX S0 n s1 (pb r (fun a G => pb (pLt (sgn T n) j a w) (fun a1 _ => .inr (a1, G)))) → (∀ a G a1 L, r = .inr (a, G) → pLt (sgn T n) j a w = .inr (a1, L) → ∃ w1, L = [(w1, 0)] ∧ y = nI w1 ∧ w1 < 8) → X y s1) → w_67_L4 M x1 (nI k) s X X K := by
  have hn := hT.1
  intro M
  induction M with
  | zero => intro k j w s r x1 _ z; omega
  | succ M ih =>
    intro k j w s r x1 h _ hb hw hX
    rw [w_67_L4]
    cases r with
    | inl e =>
      have ok : X x1 s := hX x1 s h (fun a G a1 L z => by cases z)
      refine ⟨fun _ => ok, fun _ => ?_⟩
      rw [w81l h]
      exact w68m (br_f (fun z => z rfl) ok)
    | inr z =>
      obtain ⟨a, G⟩ := z
      obtain ⟨b1, b2, b3, b4⟩ := hb a G rfl
      obtain ⟨j, rfl⟩ : ∃ i, j = i + 1 := ⟨j - 1, by omega⟩
      have h4 : a ≤ n := h.2.2.2.2.1
      have h2 : s.1 3504 = nI a := h.2.2.1
      have hX : ∀ y s1, CX S0 n s1 (pb (pLt (sgn T n) (j + 1) a w) (fun a1 _ => .inr (a1, G))) → (∀ a1 L, pLt (sgn T n) (j + 1) a w = .inr (a1, L) → ∃ w1, L = [(w1, 0)] ∧ y = nI w1 ∧ w1 < 8) → X y s1 := fun y s1 q1 q2 => hX y s1 q1 (fun a' G' a1 L e1 e2 => by
        obtain ⟨z1, z2⟩ := inr_inv e1
        rw [← z1] at e2
        exact q2 a1 L e2)
      unfold pLt at hX
      rw [len_eq hT h, nI_leI (by omega) (by omega), b4]
      have stop : ltB (sgn T n a) = 0 → X (nI w) s := by
        intro c
        rw [if_pos c] at hX
        exact hX _ s h (fun a1 L e1 => ⟨w, (inr_inv e1).2.symm, rfl, hw⟩)
      by_cases c : n ≤ k
      · exact br_t c (stop (by rw [sgn_out (by omega)]; rfl))
      refine br_f c ?_
      rw [w81r hT h]
      refine mp_68 (sgn_le hT) ?_
      obtain ⟨l5, lne⟩ := ltB_v (sgn T n a)
      by_cases d : ltB (sgn T n a) = 0
      · exact br_f (fun z => z (by rw [d]; rfl)) (stop d)
      · rw [if_neg d] at hX
        have ha := sgn_in hT (lne d)
        obtain ⟨t1, t2, t3⟩ := bits8 ⟨w, hw⟩ ⟨ltB (sgn T n a), l5⟩
        have t1 : (nI w &&& nI (ltB (sgn T n a)) = 0) ↔ (w &&& ltB (sgn T n a) = 0) := t1
        have t2 : nI w ||| nI (ltB (sgn T n a)) = nI (w ||| ltB (sgn T n a)) := t2
        have t3 : w ||| ltB (sgn T n a) < 8 := t3
        refine br_t (by rw [i_eq, nI_toInt (by omega), l_0]; omega) ?_
        rw [t1, t2, nI_1]
        by_cases g : w &&& ltB (sgn T n a) = 0
        · rw [if_pos g] at hX
          refine br_t g (ih (k + 1) j (w ||| ltB (sgn T n a)) _ _ _ (CX_adv h ha) (by omega) (fun a' G' e1 => ?_) t3 ?_)
          · obtain ⟨z1, z2⟩ := inr_inv e1
            exact ⟨by omega, by omega, by omega, rfl⟩
          · exact fun y s1 q1 q2 => hX y s1 q1 (fun a1 L e1 => q2 _ _ a1 L rfl e1)
        · rw [if_neg g] at hX
          refine br_f g ?_
          rw [h2]
          refine mp_85 6 a hT h (by omega) (fun s1 h1 => ih (k + 1) j (w ||| ltB (sgn T n a)) _ _ _ (CX_at h1) (by omega) (fun a' G' e1 => by cases e1) t3 ?_)
          exact fun y s2 q1 q2 => hX y s2 q1 (fun a1 L e1 => by cases e1)
theorem mp_67 {s : ST} {r : Prs} {K : Int32 → ST → Prop} (hT : TX S0 T n) (h : CX S0 n s r) (k : ∀ y s1, CX S0 n s1 (pb r (fun a G => pb (pLt (sgn T n) (n + 1) a 0) (fun a1 _ => .inr (a1, G)))) → (∀ a G a1 L, r = .inr (a, G) → pLt (sgn T n) (n + 1) a 0 = .inr (a1, L) → ∃ w1, L = [(w1, 0)] ∧ y = nI w1 ∧ w1 < 8) → K y s1) : w_67 s K := by
  unfold w_67
  exact ⟨n + 2, l_67 hT (n + 2) 0 (n + 1) 0 s r 0 h (by omega) (fun a G _ => ⟨by omega, by omega, by omega, rfl⟩) (by omega) k⟩
end Cl
abbrev Clz : Type := Nat × List Pc
def cdL (z : Clz) : List Pc := if z.1 = 40 then z.2.tail else z.2
def ClC (dy : PH) (c : Nat) (z : Clz) : Prop := ∃ (m : Nat) (tg tc : Int32), dy[c]? = some (.inr (1, [.int (nI z.1), .ref (m + 118), .int tg, .int tc])) ∧ (z.1 = 120 → ∃ v1 v2, z.2 = [(v1, 0), (v2, 0)] ∧ tg = nI v1 ∧ tc = nI v2 ∧ v1 ≤ 19 ∧ v2 ≤ 9) ∧ (z.1 = 40 → ∃ w G, z.2 = (w, 0) :: G ∧ tg = nI w ∧ w < 8) ∧ (¬ z.1 = 120 → ∃ f, dy[m]? = some (.inl (0, (cdL z).length, .inl f)) ∧ ∀ p (hp : p < (cdL z).length), f p = nI (16 * (cdL z)[p].2 + (cdL z)[p].1))
def LI (dy : PH) (L0 : Nat) (fr to : Int32) (C : List Clz) : Prop := dy[L0]? = some (.inr (9, [.ref (L0 + 1 + 118), .int fr, .int to])) ∧ ∃ g, Lst dy L0 (L0 + 1) C.length g ∧ ∀ j (hj : j < C.length), ∃ c, g j = some (c + 118) ∧ ClC dy c C[j]
def Ext (dy dy1 : PH) : Prop := dy.length ≤ dy1.length ∧ ∀ (i : Nat) (x : PC), dy[i]? = some x → dy1[i]? = some x
theorem Ext_rf {dy : PH} : Ext dy dy := ⟨Nat.le_refl _, fun _ _ h => h⟩
theorem Ext_tr {a b c : PH} (h : Ext a b) (k : Ext b c) : Ext a c := ⟨Nat.le_trans h.1 k.1, fun i x q => k.2 i x (h.2 i x q)⟩
theorem Ext_app {dy e : PH} : Ext dy (dy ++ e) := ⟨by rw [List.length_append]; omega, fun i x q => q_ao q⟩
theorem Ext_set {dy dy1 : PH} {c : Nat} {x : PC} (h : Ext dy dy1) (hc : dy.length ≤ c) : Ext dy (dy1.set c x) := ⟨by rw [List.length_set]; exact h.1, fun i y q => q_sn (h.2 i y q) (by have := q_lt q; omega)⟩
theorem Kp_ext {L0 v : Nat} {dy dy1 : PH} (h : Ext dy dy1) : Kp L0 v dy dy1 := ⟨h.1, fun i x q _ _ => h.2 i x q⟩
theorem ClC_ext {dy dy1 : PH} {c : Nat} {z : Clz} (h : Ext dy dy1) (k : ClC dy c z) : ClC dy1 c z := by
  obtain ⟨m, tg, tc, k1, k2, k3, k4⟩ := k
  refine ⟨m, tg, tc, h.2 _ _ k1, k2, k3, fun z => ?_⟩
  obtain ⟨f, f1, f2⟩ := k4 z
  exact ⟨f, h.2 _ _ f1, f2⟩
theorem Lst_ext {dy dy1 : PH} {L0 v n : Nat} {g : Nat → Option Nat} (h : Ext dy dy1) (k : Lst dy L0 v n g) : Lst dy1 L0 v n g := by
  obtain ⟨k1, ⟨mc, k2⟩, k3⟩ := k
  refine ⟨k1, ⟨mc, ?_⟩, fun j hj => ?_⟩
  · rcases k2 with ⟨z1, z2⟩ | ⟨b, cap, z1, z2, z3⟩
    · exact Or.inl ⟨z1, h.2 _ _ z2⟩
    · exact Or.inr ⟨b, cap, h.2 _ _ z1, h.2 _ _ z2, z3⟩
  · obtain ⟨c, o, q1, q2⟩ := k3 j hj
    exact ⟨c, o, q1, h.2 _ _ q2⟩
theorem LI_ext {dy dy1 : PH} {L0 : Nat} {fr to : Int32} {C : List Clz} (h : Ext dy dy1) (k : LI dy L0 fr to C) : LI dy1 L0 fr to C := by
  obtain ⟨k1, g, k2, k3⟩ := k
  refine ⟨h.2 _ _ k1, g, Lst_ext h k2, fun j hj => ?_⟩
  obtain ⟨c, c1, c2⟩ := k3 j hj
  exact ⟨c, c1, ClC_ext h c2⟩
theorem Lst_v {dy : PH} {L0 v n : Nat} {g : Nat → Option Nat} (h : Lst dy L0 v n g) : ∃ fs, dy[v]? = some (.inr (13, fs)) := by
  obtain ⟨_, ⟨mc, k2⟩, _⟩ := h
  rcases k2 with ⟨_, z2⟩ | ⟨b, cap, z1, _⟩
  · exact ⟨_, z2⟩
  · exact ⟨_, z1⟩
theorem ClC_v {dy : PH} {c v : Nat} {z : Clz} {fs : List Value} (h : ClC dy c z) (hv : dy[v]? = some (.inr (13, fs))) : ¬ c = v := by
  obtain ⟨m, tg, tc, k1, _⟩ := h
  intro e
  rw [e, hv] at k1
  cases k1
theorem ClC_kp {dy dy1 : PH} {L0 v c : Nat} {z : Clz} {fs : List Value} (h : Kp L0 v dy dy1) (hv : dy[v]? = some (.inr (13, fs))) (k : ClC dy c z) : ClC dy1 c z := by
  have cv := ClC_v k hv
  obtain ⟨m, tg, tc, k1, k2, k3, k4⟩ := k
  refine ⟨m, tg, tc, h.2 _ _ k1 cv (Or.inr notR_o), k2, k3, fun z => ?_⟩
  obtain ⟨f, f1, f2⟩ := k4 z
  refine ⟨f, h.2 _ _ f1 ?_ (Or.inr notR_i), f2⟩
  intro e
  rw [e, hv] at f1
  cases f1
/-- a clause is added -/
theorem fin_add {s : ST} {L0 c : Nat} {fr to : Int32} {C : List Clz} {fs : List Value} {Q : ST → Prop} (hI : LI s.2.2.2.2 L0 fr to C) (hC : C.length ≤ 10) (hc : s.2.2.2.2[c]? = some (.inr (1, fs))) (k : ∀ dy1, Kp L0 (L0 + 1) s.2.2.2.2 dy1 → dy1.length ≤ s.2.2.2.2.length + 1 → psl dy1 ≤ psl s.2.2.2.2 + 15 → (∀ z, ClC s.2.2.2.2 c z → LI dy1 L0 fr to (C ++ [z])) → Q (sD s dy1)) : ∃ f16, pob s.2.2.2.2 (L0 + 1) 13 = some f16 ∧ w_301 (L0 + 1) c s (fun r15 s14 => Q s14) := by
  obtain ⟨h1, g, h2, h3⟩ := hI
  obtain ⟨fv, hv⟩ := Lst_v h2
  have cv : ¬ c = L0 + 1 := fun e => by rw [e, hv] at hc; cases hc
  refine ⟨fv, pob_of hv, mp_301 h2 hC hc cv (fun j hj => ?_) ?_⟩
  · obtain ⟨c1, q1, q2⟩ := h3 j hj
    have q3 := ClC_v q2 hv
    obtain ⟨m, tg, tc, k1, _⟩ := q2
    exact ⟨c1, _, q1, k1, q3⟩
  · intro dy1 g1 z1 z2 z3 z4 z5 z6
    refine k dy1 z1 z2 z3 (fun z hz => ⟨z1.2 _ _ h1 (by omega) (Or.inr notR_o), g1, ?_, fun j hj => ?_⟩)
    · rw [List.length_append]
      exact z4
    · rw [List.length_append] at hj
      have hj : j < C.length + 1 := hj
      by_cases e : j = C.length
      · subst e
        refine ⟨c, z6, ?_⟩
        rw [List.getElem_append_right (Nat.le_refl _)]
        simp only [Nat.sub_self, List.getElem_cons_zero]
        exact ClC_kp z1 hv hz
      · obtain ⟨c1, q1, q2⟩ := h3 j (by omega)
        refine ⟨c1, (z5 j (by omega)).trans q1, ?_⟩
        rw [List.getElem_append_left (by omega)]
        exact ClC_kp z1 hv q2
