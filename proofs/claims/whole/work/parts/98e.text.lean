/-! ===== the reference's reader: sums that are open, numbers, letters ===== -/
def opx : List Pc → Nat → Nat
  | [], _ => 0
  | w :: W, i => if i = W.length then w.1 else opx W i
theorem WL_opx {f : Nat → Int32} : ∀ (W : List Pc) (i : Nat), WL f W → i < W.length → ∃ v, v < 180 ∧ opx W i ≤ 14 ∧ f i = nI (16777216 * opx W i + v)
  | [], i, _, h => absurd h (by show ¬ i < 0; omega)
  | w :: W, i, hw, h => by
    have h : i < W.length + 1 := h
    by_cases c : i = W.length
    · have e : opx (w :: W) i = w.1 := if_pos c
      rw [e, c]
      exact ⟨w.2, hw.2.2.1, hw.2.1, hw.1⟩
    · have e : opx (w :: W) i = opx W i := if_neg c
      rw [e]
      exact WL_opx W i hw.2.2.2 (by omega)
theorem opx_14 {W0 : List Pc} : ∀ V : List Pc, (∃ i, W0.length ≤ i ∧ i < (V ++ W0).length ∧ opx (V ++ W0) i = 14) ↔ ∃ v, v ∈ V ∧ v.1 = 14
  | [] => ⟨fun ⟨i, h1, h2, _⟩ => absurd h1 (by have : i < W0.length := h2; omega), fun ⟨v, h, _⟩ => absurd h List.not_mem_nil⟩
  | w :: V => by
    have ih := opx_14 (W0 := W0) V
    constructor
    · rintro ⟨i, h1, h2, h3⟩
      have h2 : i < (V ++ W0).length + 1 := h2
      have h3 : (if i = (V ++ W0).length then w.1 else opx (V ++ W0) i) = 14 := h3
      by_cases c : i = (V ++ W0).length
      · rw [if_pos c] at h3
        exact ⟨w, List.mem_cons_self, h3⟩
      · rw [if_neg c] at h3
        obtain ⟨v, v1, v2⟩ := ih.mp ⟨i, h1, by omega, h3⟩
        exact ⟨v, List.mem_cons_of_mem _ v1, v2⟩
    · rintro ⟨v, v1, v2⟩
      rw [List.mem_cons] at v1
      rcases v1 with v1 | v1
      · refine ⟨(V ++ W0).length, by rw [List.length_append]; omega, by show _ < (V ++ W0).length + 1; omega, ?_⟩
        show (if (V ++ W0).length = (V ++ W0).length then w.1 else _) = 14
        rw [if_pos rfl, ← v1]
        exact v2
      · obtain ⟨i, h1, h2, h3⟩ := ih.mpr ⟨v, v1, v2⟩
        refine ⟨i, h1, by show _ < (V ++ W0).length + 1; omega, ?_⟩
        show (if i = (V ++ W0).length then w.1 else opx (V ++ W0) i) = 14
        rw [if_neg (by omega)]
        exact h3
section Re
variable {R0 s : ST} {T : Nat → Nat} {n b a d : Nat} {G W : List Pc}
theorem l_214 {X18 X14 : ST → Prop} {K : Int32 → ST → Prop} (h : RX R0 b s a G W d) (hW : W.length ≤ 180) : ∀ (N k : Nat), k ≤ W.length → W.length - k < N → ((∀ i, k ≤ i → i < W.length → ¬ opx W i = 14) → X18 s) → ((∃ i, k ≤ i ∧ i < W.length ∧ opx W i = 14) → X14 s) → w_214_L2 N (nI k) s X18 X14 K := by
  obtain ⟨f, h1, h2, h3, h4, h5, h6, h7⟩ := h
  intro N
  induction N with
  | zero => intro k _ z; omega
  | succ N ih =>
    intro k hk hN x18 x14
    rw [w_214_L2, h3, nI_leI (by omega) (by omega)]
    by_cases c : W.length ≤ k
    · exact br_t c (x18 (fun i i1 i2 => absurd i2 (by omega)))
    refine br_f c ⟨pin_nI (by omega) (by omega), by decide, ?_⟩
    obtain ⟨v, v1, v2, v3⟩ := WL_opx W k h7 (by omega)
    rw [nI_clamp (by omega), v3, show (16777216 : Int32) = nI 16777216 from rfl, pk_div (by omega) (by omega) (by omega), show (16777216 * opx W k + v) / 16777216 = opx W k by omega, show (14 : Int32) = nI 14 from rfl, nI_eq (by omega) (by omega), nI_1]
    by_cases e : opx W k = 14
    · exact br_f (fun z => z e) (x14 ⟨k, by omega, by omega, e⟩)
    · refine br_t e (ih (k + 1) (by omega) (by omega) (fun z => x18 (fun i i1 i2 => ?_)) (fun ⟨i, i1, i2, i3⟩ => x14 ⟨i, by omega, i2, i3⟩))
      by_cases g : i = k
      · rw [g]; exact e
      · exact z i (by omega) i2
theorem mp_214 {V W0 : List Pc} {K : Int32 → ST → Prop} (h : RX R0 b s a G (V ++ W0) d) (hW : (V ++ W0).length ≤ 180) (k1 : (∃ v, v ∈ V ∧ v.1 = 14) → K 1 s) (k0 : (¬ ∃ v, v ∈ V ∧ v.1 = 14) → K 0 s) : w_214 (nI W0.length) s K := by
  unfold w_214
  have hl : W0.length ≤ (V ++ W0).length := by rw [List.length_append]; omega
  refine ⟨(V ++ W0).length + 1, l_214 h hW _ W0.length hl (by omega) (fun z => k0 (fun y => ?_)) (fun z => k1 ((opx_14 V).mp z))⟩
  obtain ⟨i, i1, i2, i3⟩ := (opx_14 V).mpr y
  exact z i i1 i2 i3
theorem RX_n {x : Int32} (h : RX R0 b s a G W d) : RX R0 b (sI s 5533 x) a G W d := by
  obtain ⟨f, h1⟩ := h
  exact ⟨fr_sI 5533 f, h1⟩
theorem l_206 {x1 : Int32} {fr : Nat} {X48 : Int32 → Int32 → ST → Prop} {X24 : ST → Prop} {K : Int32 → ST → Prop} (hT : TR R0 T n) : ∀ (N k a v : Nat) (s : ST), a = fr + k → k ≤ 7 → 7 - k < N → a ≤ n → RX R0 b s a G W d → s.1 5533 = nI v → (¬ (48 ≤ sgn T n (pnL (sgn T n) (7 - k) a v).1 ∧ sgn T n (pnL (sgn T n) (7 - k) a v).1 ≤ 57) → ∀ s1, RX R0 b s1 (pnL (sgn T n) (7 - k) a v).1 G W d → s1.1 5533 = nI (pnL (sgn T n) (7 - k) a v).2 → X48 x1 (nI fr) s1) → ((48 ≤ sgn T n (pnL (sgn T n) (7 - k) a v).1 ∧ sgn T n (pnL (sgn T n) (7 - k) a v).1 ≤ 57) → ∀ s1, RX R0 b s1 (pnL (sgn T n) (7 - k) a v).1 G W d → X24 s1) → w_206_L15 N x1 (nI fr) s X48 X24 K := by
  have hn := hT.1
  intro N
  induction N with
  | zero => intro k a v s _ _ z; omega
  | succ N ih =>
    intro k a v s ea hk hN ha h h33 x48 x24
    have h1 : s.1 5526 = nI a := h.2.1
    rw [w_206_L15, w203v hT h ha, h1, show (7 : Int32) = nI 7 from rfl, nI_add, nI_eq (by omega) (by omega)]
    by_cases c : 48 ≤ sgn T n a ∧ sgn T n a ≤ 57
    · rw [if_pos c]
      refine br_f (by decide) ?_
      by_cases e : k = 7
      · rw [e, show 7 - 7 = 0 from rfl] at x24
        exact br_f (fun z => z (by omega)) (x24 c s h)
      · refine br_t (by omega) ?_
        rw [w202v hT h ha, h33]
        have ep : pnL (sgn T n) ((7 - (k + 1)) + 1) a v = pnL (sgn T n) (7 - (k + 1)) (a + 1) (10 * v + (sgn T n a - 48)) := if_pos c
        rw [show 7 - k = (7 - (k + 1)) + 1 by omega, ep] at x48 x24
        have e1 : (10 : Int32) * nI v + sgI (sgn T n a) - 48 = nI (10 * v + (sgn T n a - 48)) := by
          have : sgI (sgn T n a) = nI (sgn T n a) := if_neg (by omega)
          rw [this, show (10 : Int32) = nI 10 from rfl, show (48 : Int32) = nI 48 from rfl, pk_mul, nI_add, pk_sub (by omega), show 10 * v + sgn T n a - 48 = 10 * v + (sgn T n a - 48) by omega]
        rw [e1]
        have hl := sgr_in (T := T) (n := n) (a := a) (by omega)
        have h2 := RX_adv (RX_n (x := nI (10 * v + (sgn T n a - 48))) h)
        exact ih (k + 1) (a + 1) _ _ (by omega) (by omega) (by omega) (by omega) h2 rfl x48 x24
    · rw [if_neg c]
      refine br_t rfl ?_
      have ep : pnL (sgn T n) (7 - k) a v = (a, v) := by
        cases hk7 : 7 - k with
        | zero => rfl
        | succ j => exact if_neg c
      rw [ep] at x48
      exact x48 c s h h33
theorem mp_206 {most : Nat} {K : Int32 → ST → Prop} (hT : TR R0 T n) (h : RX R0 b s a G W d) (ha : a ≤ n) (hm : most < 2 ^ 31) (kg : ∀ s1, (∀ f, pNum (sgn T n) a f = f (pnL (sgn T n) 7 a 0).1 (pnL (sgn T n) 7 a 0).2) → (48 ≤ sgn T n a ∧ sgn T n a ≤ 57) → (pnL (sgn T n) 7 a 0).2 ≤ most → RX R0 b s1 (pnL (sgn T n) 7 a 0).1 G W d → s1.1 5533 = nI (pnL (sgn T n) 7 a 0).2 → K 1 s1) (k3 : ∀ s1, (∀ f, pNum (sgn T n) a f = f (pnL (sgn T n) 7 a 0).1 (pnL (sgn T n) 7 a 0).2) → most < (pnL (sgn T n) 7 a 0).2 → FX R0 s1 (3, a) → K 0 s1) (kb : ∀ e s1, (∀ f, pNum (sgn T n) a f = .inl e) → FX R0 s1 e → K 0 s1) : w_206 (nI most) s K := by
  have h1 : s.1 5526 = nI a := h.2.1
  have hn := hT.1
  unfold w_206
  have h0 := RX_n (x := 0) h
  rw [w203v hT h0 ha, h1]
  by_cases c : 48 ≤ sgn T n a ∧ sgn T n a ≤ 57
  · have b7 := pnL_1 (n := n) (sg := sgn T n) (fun _ h => sgn_out h) c
    rw [if_pos c]
    refine br_t (by decide) ⟨8, l_206 (fr := a) hT 8 0 a 0 _ rfl (by omega) (by omega) ha h0 rfl ?_ ?_⟩
    · intro nd s1 r1 r2
      have hf : ∀ f, pNum (sgn T n) a f = f (pnL (sgn T n) 7 a 0).1 (pnL (sgn T n) 7 a 0).2 := fun f => by unfold pNum; rw [if_pos c]; exact if_neg nd
      have r2 : s1.1 5533 = nI (pnL (sgn T n) 7 a 0).2 := r2
      show ((s1.1 5533 ≤ nI most → _) ∧ (¬ s1.1 5533 ≤ nI most → _))
      rw [r2, nI_leI (by omega) hm]
      by_cases e : (pnL (sgn T n) 7 a 0).2 ≤ most
      · exact br_t e (kg s1 hf c e r1 r2)
      · exact br_f e (mp_204 3 a r1.1 (fun s2 fx => br_t rfl (k3 s2 hf (by omega) fx)))
    · intro nd s1 r1
      have hf : ∀ f, pNum (sgn T n) a f = .inl (2, (pnL (sgn T n) 7 a 0).1) := fun f => by unfold pNum; rw [if_pos c]; exact if_pos nd
      have r0 : s1.1 5526 = nI (pnL (sgn T n) 7 a 0).1 := r1.2.1
      show w_204 2 (s1.1 5526) s1 _
      rw [r0]
      exact mp_204 2 _ r1.1 (fun s2 fx => kb _ s2 hf fx)
  · rw [if_neg c]
    refine br_f (fun z => z rfl) ?_
    have e5 : (sI s 5533 0).1 5526 = nI a := h1
    rw [e5]
    exact mp_204 1 a h0.1 (fun s2 fx => kb _ s2 (fun f => by unfold pNum; rw [if_neg c]) fx)
theorem mp_210 {x : Nat} {K : Int32 → ST → Prop} (hx : x ≤ 256) (k : K (ltI x) s) : w_210 (sgI x) s K := by
  have e : ∀ c : Nat, c < 256 → sgI x = nI c → K (ltI c) s := fun c hc z => by
    have : x = c := Classical.byContradiction (fun y => sg_n c y hx hc z)
    rw [← this]
    exact k
  unfold w_210
  refine ⟨fun z => ?_, e 97 (by omega), e 98 (by omega), e 99 (by omega), e 100 (by omega), e 101 (by omega), e 102 (by omega), e 103 (by omega), e 104 (by omega), e 105 (by omega), e 106 (by omega), e 107 (by omega), e 108 (by omega), e 109 (by omega), e 110 (by omega), e 111 (by omega), e 112 (by omega), e 113 (by omega), e 114 (by omega), e 115 (by omega), e 116 (by omega), e 117 (by omega), e 118 (by omega), e 119 (by omega)⟩
  have ex := sgI_toInt hx
  rw [ex] at z
  have z : x < 97 ∨ 119 < x := by split at z <;> omega
  have : fcN x = 13 := by
    unfold fcN
    rw [if_neg (by omega), if_neg (by omega), if_neg (by omega), if_neg (by omega), if_neg (by omega), if_neg (by omega), if_neg (by omega), if_neg (by omega), if_neg (by omega), if_neg (by omega), if_neg (by omega), if_neg (by omega), if_neg (by omega)]
  have e2 : ltI x = -1 := by unfold ltI; rw [this]; rfl
  rw [e2] at k
  exact k
theorem fc_dig {x : Nat} (h : 48 ≤ x ∧ x ≤ 57) : ¬ fcN x < 13 := by
  unfold fcN
  rw [if_neg (by omega), if_neg (by omega), if_neg (by omega), if_neg (by omega), if_neg (by omega), if_neg (by omega), if_neg (by omega), if_neg (by omega), if_neg (by omega), if_neg (by omega), if_neg (by omega), if_neg (by omega), if_neg (by omega)]
  omega
def rf10 (KK : Int32 → ST → Prop) : ST → Prop := (fun s5 => w_203 s5 (fun r7 s6 => ((r7 = 0 → w_202 s6 (fun r9 s8 => w_210 r9 s8 (fun r11 s10 => ((¬ r11 = (-1 : Int32) → w_207 (1 : Int32) r11 s10 (fun s12 => KK (1 : Int32) (sI s12 5526 ((s12.1 5526) + (1 : Int32))))) ∧ (¬ (¬ r11 = (-1 : Int32)) → w_204 (1 : Int32) (s10.1 5526) s10 (fun r15 s14 => KK r15 s14)))))) ∧ (¬ (r7 = 0) → w_206 (9999999 : Int32) s6 (fun r17 s16 => ((¬ r17 = 0 → w_207 (0 : Int32) (s16.1 5533) s16 (fun s18 => KK (1 : Int32) s18)) ∧ (¬ (¬ r17 = 0) → KK (0 : Int32) s16)))))))
theorem mp_rf {e : Nat} {inner : PF} {KK : Int32 → ST → Prop} (hT : TR R0 T n) (h : RX R0 b s a G W d) (ha : a ≤ n) (hb : b + G.length ≤ a) (c : ¬ sgn T n a = 91) (kg : ∀ a1 G1, pFac (sgn T n) e inner a G = .inr (a1, G1) → ∀ s1, RX R0 b s1 a1 G1 W d → KK 1 s1) (kb : ∀ x, pFac (sgn T n) e inner a G = .inl x → ∀ s1, FX R0 s1 x → KK 0 s1) : rf10 KK s := by
  have hn := hT.1
  have hl := sgr_le hT (a := a)
  have h1 : s.1 5526 = nI a := h.2.1
  unfold pFac at kg kb
  rw [if_neg c] at kg kb
  unfold rf10
  rw [w203v hT h ha]
  by_cases dg : 48 ≤ sgn T n a ∧ sgn T n a ≤ 57
  · rw [if_neg (fc_dig dg)] at kg kb
    rw [if_pos dg]
    have b7 := pnL_1 (n := n) (sg := sgn T n) (fun _ h => sgn_out h) dg
    refine br_f (by decide) (mp_206 (most := 9999999) hT h ha (by omega) ?_ ?_ ?_)
    · intro s1 hf _ _ r1 r2
      rw [hf] at kg
      refine br_t (by decide) ?_
      rw [r2]
      exact mp_207 (o := 0) r1 (by omega) (enR_op (by omega) 0 rfl _) (fun s2 h2 => kg _ _ rfl s2 h2)
    · intro s1 hf lt _
      omega
    · intro x s1 hf fx
      rw [hf] at kb
      exact br_f (fun z => z rfl) (kb x rfl s1 fx)
  · rw [if_neg dg]
    refine br_t rfl ?_
    rw [w202v hT h ha]
    refine mp_210 hl ?_
    by_cases lt : fcN (sgn T n a) < 13
    · rw [if_pos lt] at kg
      have e1 : ltI (sgn T n a) = nI (fcN (sgn T n a)) := if_pos lt
      have hal := sgr_in (T := T) (n := n) (a := a) (fun z => by rw [z] at lt; exact absurd lt (by decide))
      rw [e1]
      refine br_t (nI_nm1 (by omega)) (mp_207 (o := 1) h (by omega) (enR_op (by omega) 1 rfl _) (fun s2 h2 => kg _ _ rfl _ (RX_adv h2)))
    · rw [if_neg lt] at kb
      have e1 : ltI (sgn T n a) = -1 := if_neg lt
      rw [e1, h1]
      exact br_f (fun z => z rfl) (mp_204 1 a h.1 (fun s2 fx => kb (1, a) (by unfold pNum; rw [if_neg dg]) s2 fx))
theorem w211n {x : Nat} {K : Int32 → ST → Prop} (hx : x ≤ 256) (h1 : mop x = 0) (h2 : aop x = 0) : w_211 (sgI x) s K = K (-1) s := by
  have n1 : ¬ x = 42 := fun z => by rw [z] at h1; exact absurd h1 (by decide)
  have n2 : ¬ x = 47 := fun z => by rw [z] at h1; exact absurd h1 (by decide)
  have n3 : ¬ x = 37 := fun z => by rw [z] at h1; exact absurd h1 (by decide)
  have n4 : ¬ x = 43 := fun z => by rw [z] at h2; exact absurd h2 (by decide)
  have n5 : ¬ x = 45 := fun z => by rw [z] at h2; exact absurd h2 (by decide)
  unfold w_211
  exact propext ⟨fun h => ((((h.1 (sg_n 43 n4 hx (by omega))).1 (sg_n 45 n5 hx (by omega))).1 (sg_n 42 n1 hx (by omega))).1 (sg_n 47 n2 hx (by omega))).1 (sg_n 37 n3 hx (by omega)), fun h => br_t (sg_n 43 n4 hx (by omega)) (br_t (sg_n 45 n5 hx (by omega)) (br_t (sg_n 42 n1 hx (by omega)) (br_t (sg_n 47 n2 hx (by omega)) (br_t (sg_n 37 n3 hx (by omega)) h))))⟩
theorem mop_v {x : Nat} (h : ¬ mop x = 0) : (x = 42 ∨ x = 47 ∨ x = 37) ∧ 7 ≤ mop x ∧ mop x ≤ 9 := by
  unfold mop at h ⊢
  by_cases a : x = 42
  · rw [if_pos a]; omega
  · rw [if_neg a] at h ⊢
    by_cases b : x = 47
    · rw [if_pos b]; omega
    · rw [if_neg b] at h ⊢
      by_cases c : x = 37
      · rw [if_pos c]; omega
      · rw [if_neg c] at h; omega
theorem aop_v {x : Nat} (h : ¬ aop x = 0) : (x = 43 ∨ x = 45) ∧ 5 ≤ aop x ∧ aop x ≤ 6 := by
  unfold aop at h ⊢
  by_cases a : x = 43
  · rw [if_pos a]; omega
  · rw [if_neg a] at h ⊢
    by_cases b : x = 45
    · rw [if_pos b]; omega
    · rw [if_neg b] at h; omega
theorem mp_211m {x : Nat} {K : Int32 → ST → Prop} (h1 : ¬ mop x = 0) (k : K (nI (mop x - 3)) s) : w_211 (sgI x) s K := by
  obtain ⟨hx, _⟩ := mop_v h1
  unfold w_211
  rcases hx with rfl | rfl | rfl
  · exact br_t (by decide) (br_t (by decide) (br_f (by decide) k))
  · exact br_t (by decide) (br_t (by decide) (br_t (by decide) (br_f (by decide) k)))
  · exact br_t (by decide) (br_t (by decide) (br_t (by decide) (br_t (by decide) (br_f (by decide) k))))
theorem mp_211a {x : Nat} {K : Int32 → ST → Prop} (h1 : ¬ aop x = 0) (k : K (nI (aop x - 3)) s) : w_211 (sgI x) s K := by
  obtain ⟨hx, _⟩ := aop_v h1
  unfold w_211
  rcases hx with rfl | rfl
  · exact br_f (by decide) k
  · exact br_t (by decide) (br_f (by decide) k)
end Re
