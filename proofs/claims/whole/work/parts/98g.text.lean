/-! ===== the reference's comparisons; what ends a piece; where leaps land ===== -/
def NT (k : Nat) : List Pc := List.replicate k (10, 0)
def em2 (k : Nat) : List Pc := List.replicate k (2, 0)
theorem em2_len {k : Nat} : (em2 k).length = k := List.length_replicate
theorem NT_len {k : Nat} : (NT k).length = k := List.length_replicate
def pCmp (sg : Nat → Nat) (su : PF) : PF := fun a G => pb (su a G) (fun a1 G1 => if cop (sg a1) = 0 then .inl (1, a1) else pb (su (a1 + 1) G1) (fun a2 G2 => .inr (a2, G2 ++ [(cop (sg a1), 0)])))
def wtC (b : Nat) (PC : List Pc) : List Pc := PC.map (fun p => (mpo p.1, b + p.2))
def lnd (PC : List Pc) (G : List Pc) : List Pc := PC.foldl (fun G p => G.set p.2 (p.1, G.length)) G
theorem lnd_len : ∀ (PC G : List Pc), (lnd PC G).length = G.length
  | [], G => rfl
  | p :: PC, G => by
    show (lnd PC (G.set p.2 (p.1, G.length))).length = _
    rw [lnd_len PC, List.length_set]
section Rg
variable {R0 s : ST} {T : Nat → Nat} {n b a d : Nat} {G W : List Pc}
theorem mp_215 {su : PF} {K : Int32 → ST → Prop} (hT : TR R0 T n) (hd : d ≤ 6) (hg : GP n su) (hf : RSs R0 T n b su d) (h : RX R0 b s a G W d) (ht : 10 ≤ (tpI W).toInt) (ha : a ≤ n) (hb : b + G.length ≤ a) (hW : W.length ≤ 4 * d + 2) (k1 : ∀ a1 G1, su a G = .inr (a1, G1) → ∀ s1, RX R0 b s1 a1 G1 W d → K 1 s1) (k0 : ∀ e, su a G = .inl e → ∀ s1, FX R0 s1 e → K 0 s1) : w_215 s K := by
  have hn := hT.1
  unfold w_215 w_213
  rw [h.2.2.2.1]
  refine ⟨n + 1, hf K (fun r2 s1 => ((¬ r2 = 0 → ∃ m, L8 K W.length m s1) ∧ (¬ (¬ r2 = 0) → K 0 s1))) s a G [] W (n + 1) (n + 1) h ht ha hb hW (by omega) (by omega) ⟨fun s1 hL => br_t (by decide) ⟨n + 1, hL⟩, fun s1 k => br_f (fun z => z rfl) k⟩ ?_ (fun e er s1 fx => k0 e er s1 fx)⟩
  intro a1 G1 er N1 s1 Gr P hN1 eG hP1 hP2 m0 p0 h1
  have g := hg _ _ _ _ er
  have hl1 := sgr_le hT (a := a1)
  have eL : G1.length = Gr.length + P.length := by rw [eG, List.length_append, emP_len]
  obtain ⟨N1, rfl⟩ : ∃ i, N1 = i + 1 := ⟨N1 - 1, by omega⟩
  have h1 : RX R0 b s1 a1 Gr (wtP P ++ W) d := h1
  have hlen : (wtP P ++ W).length ≤ 180 := by rw [List.length_append, wtP_len]; omega
  have n14 : ¬ ∃ v, v ∈ wtP P ∧ v.1 = 14 := by
    rintro ⟨v, v1, v2⟩
    obtain ⟨o, o1, o2⟩ := List.mem_map.mp v1
    have := hP2 o o1
    rw [← o2] at v2
    have v2 : mpo o = 14 := v2
    rw [mpo_s (by omega)] at v2
    omega
  have fin : xx78 K (nI W.length) s1 := by
    unfold xx78
    refine mp_214 h1 hlen (fun z => absurd z n14) (fun _ => br_t rfl ?_)
    unfold w_212
    refine ⟨P.length + 1, l_212 (al := true) (W := W) rfl (Or.inr (Or.inl (by omega))) (by omega) (P.length + 1) P Gr s1 (by omega) hP1 h1 (fun o ho => Or.inr ⟨rfl, hP2 o ho⟩) (by omega) ?_⟩
    intro s2 h2
    rw [← eG] at h2
    exact k1 a1 G1 er s2 h2
  unfold L8
  rw [w_215_L8, w202v hT h1 (by omega), w211n hl1 m0 p0]
  refine br_t rfl ?_
  rw [w202v hT h1 (by omega)]
  by_cases c2 : sgn T n a1 = 93
  · exact br_f (fun z => z (sg_y 93 c2 (by omega))) (mp_214 h1 hlen (fun z => absurd z n14) (fun _ => br_t rfl fin))
  · exact br_t (sg_n 93 c2 hl1 (by omega)) fin
theorem l_216 {X K : ST → Prop} (ht : ¬ tpI W = 10) (hW : W.length + 6 ≤ 180) : ∀ (N k : Nat) (G : List Pc) (s : ST), k < N → k ≤ 6 → RX R0 b s a G (NT k ++ W) (d + k) → b + G.length + k ≤ 180 → (∀ s1, RX R0 b s1 a (G ++ em2 k) W d → X s1) → w_216_L0 N s X K := by
  intro N
  induction N with
  | zero => intro k G s z; omega
  | succ N ih =>
    intro k G s hN hk h hb hX
    have hlen : (NT k ++ W).length ≤ 180 := by rw [List.length_append, NT_len]; omega
    rw [w_216_L0, w209v h hlen]
    cases k with
    | zero =>
      have hX : ∀ s1, RX R0 b s1 a G W d → X s1 := by
        have := hX
        rw [show G ++ em2 0 = G from List.append_nil G] at this
        exact this
      exact br_t ht (hX s h)
    | succ k =>
      refine br_f (fun z => z rfl) (mp_207 (o := 2) (v := 0) h (by omega) (enR_op (by omega) 10 rfl 0) (fun s1 h1 => ?_))
      refine ih k (G ++ [(2, 0)]) _ (by omega) (by omega) (RX_pop2 (W := NT k ++ W) h1) ?_ ?_
      · rw [List.length_append]
        show b + (G.length + 1) + k ≤ 180
        omega
      · intro s2 h2
        rw [List.append_assoc] at h2
        exact hX s2 h2
theorem mp_216 {k : Nat} {K : ST → Prop} (ht : ¬ tpI W = 10) (hW : W.length + 6 ≤ 180) (hk : k ≤ 6) (h : RX R0 b s a G (NT k ++ W) (d + k)) (hb : b + G.length + k ≤ 180) (kk : ∀ s1, RX R0 b s1 a (G ++ em2 k) W d → K s1) : w_216 s K := by
  unfold w_216
  exact ⟨k + 1, l_216 ht hW (k + 1) k G s (by omega) hk h hb kk⟩
theorem tp_NT {k : Nat} (ht : 11 ≤ (tpI W).toInt) : 10 ≤ (tpI (NT k ++ W)).toInt := by
  cases k with
  | zero => show 10 ≤ (tpI W).toInt; omega
  | succ k => show 10 ≤ (nI 10).toInt; decide
theorem tp_n10 (ht : 11 ≤ (tpI W).toInt) : ¬ tpI W = 10 := by
  intro z
  rw [z] at ht
  exact absurd ht (by decide)
theorem cop_v {x : Nat} (h : ¬ cop x = 0) : (x = 60 ∨ x = 62 ∨ x = 61) := by
  unfold cop at h
  by_cases a : x = 60
  · omega
  · rw [if_neg a] at h
    by_cases b : x = 62
    · omega
    · rw [if_neg b] at h
      by_cases c : x = 61
      · omega
      · rw [if_neg c] at h; omega
theorem mp_219 {k : Nat} {su : PF} {K : Int32 → ST → Prop} (hT : TR R0 T n) (hd : d + k ≤ 6) (hg : GP n su) (hf : RSs R0 T n b su (d + k)) (h : RX R0 b s a G (NT k ++ W) (d + k)) (ht : 11 ≤ (tpI W).toInt) (ha : a ≤ n) (hb : b + G.length ≤ a) (hW : (NT k ++ W).length ≤ 4 * (d + k) + 2) (k1 : ∀ a1 G1, pCmp (sgn T n) su a G = .inr (a1, G1) → ∀ s1, RX R0 b s1 a1 (G1 ++ em2 k) W d → K 1 s1) (k0 : ∀ e, pCmp (sgn T n) su a G = .inl e → ∀ s1, FX R0 s1 e → K 0 s1) : w_219 s K := by
  have hn := hT.1
  have t10 := tp_NT (k := k) ht
  have tn := tp_n10 ht
  have lW : W.length ≤ 4 * (d + k) + 2 := by rw [List.length_append] at hW; omega
  unfold pCmp at k1 k0
  unfold w_219
  refine mp_215 hT hd hg hf h t10 ha hb hW ?_ ?_
  · intro a1 G1 er s1 h1
    rw [er] at k1 k0
    have g := hg _ _ _ _ er
    have hl1 := sgr_le hT (a := a1)
    have h1a : s1.1 5526 = nI a1 := h1.2.1
    have k1 : ∀ a2 G2, (if cop (sgn T n a1) = 0 then (.inl (1, a1) : Prs) else pb (su (a1 + 1) G1) (fun a2 G2 => .inr (a2, G2 ++ [(cop (sgn T n a1), 0)]))) = .inr (a2, G2) → ∀ s1, RX R0 b s1 a2 (G2 ++ em2 k) W d → K 1 s1 := k1
    have k0 : ∀ e, (if cop (sgn T n a1) = 0 then (.inl (1, a1) : Prs) else pb (su (a1 + 1) G1) (fun a2 G2 => .inr (a2, G2 ++ [(cop (sgn T n a1), 0)]))) = .inl e → ∀ s1, FX R0 s1 e → K 0 s1 := k0
    have go : ∀ p : Nat, ¬ cop (sgn T n a1) = 0 → p = mpo (cop (sgn T n a1)) → w_215 (sI s1 5526 (s1.1 5526 + 1)) (fun r10 s9 => ((¬ r10 = 0 → w_207 (nI p) (0 : Int32) s9 (fun s11 => w_216 s11 (fun s13 => K (1 : Int32) s13))) ∧ (¬ (¬ r10 = 0) → K (0 : Int32) s9))) := by
      intro p c ep
      rw [if_neg c] at k1 k0
      have cl := cop_lt (sgn T n a1)
      have c10 : 10 ≤ cop (sgn T n a1) := by
        rcases cop_v c with z | z | z <;> rw [z] <;> decide
      have hal := sgr_in (T := T) (n := n) (a := a1) (cl.2 c)
      refine mp_215 hT hd hg hf (RX_adv h1) t10 (by omega) (by omega) hW ?_ ?_
      · intro a2 G2 er2 s2 h2
        rw [er2] at k1
        have g2 := hg _ _ _ _ er2
        refine br_t (by decide) (mp_207 (v := 0) h2 (by omega) (enR_op (o := cop (sgn T n a1)) (by omega) p ep 0) (fun s3 h3 => ?_))
        refine mp_216 tn (by omega) (by omega) h3 ?_ (fun s4 h4 => k1 _ _ rfl s4 h4)
        rw [List.length_append]
        show b + (G2.length + 1) + k ≤ 180
        omega
      · intro x er2 s2 fx
        rw [er2] at k0
        exact br_f (fun z => z rfl) (k0 x rfl s2 fx)
    refine br_t (by decide) ?_
    rw [w202v hT h1 (by omega)]
    by_cases c1 : sgn T n a1 = 60
    · exact br_f (fun z => z (sg_y 60 c1 (by omega))) (br_t (by decide) (go 7 (by rw [c1]; decide) (by rw [c1]; rfl)))
    refine br_t (sg_n 60 c1 hl1 (by omega)) ?_
    rw [w202v hT h1 (by omega)]
    by_cases c2 : sgn T n a1 = 62
    · exact br_f (fun z => z (sg_y 62 c2 (by omega))) (br_t (by decide) (go 8 (by rw [c2]; decide) (by rw [c2]; rfl)))
    refine br_t (sg_n 62 c2 hl1 (by omega)) ?_
    rw [w202v hT h1 (by omega)]
    by_cases c3 : sgn T n a1 = 61
    · exact br_f (fun z => z (sg_y 61 c3 (by omega))) (br_t (by decide) (go 9 (by rw [c3]; decide) (by rw [c3]; rfl)))
    have c0 : cop (sgn T n a1) = 0 := Classical.byContradiction (fun z => by rcases cop_v z with y | y | y <;> omega)
    rw [if_pos c0] at k0
    refine br_t (sg_n 61 c3 hl1 (by omega)) (br_f (fun z => z rfl) ?_)
    rw [h1a]
    exact mp_204 1 a1 h1.1 (fun s2 fx => k0 _ rfl s2 fx)
  · intro x er s1 fx
    rw [er] at k0
    exact br_f (fun z => z rfl) (k0 x rfl s1 fx)
theorem RX_land {o g v : Nat} {w : Pc} (h : RX R0 b s a G (w :: W) d) (ho : o = 3 ∨ o = 4) (hg : G[g]? = some (o, v)) : RX R0 b (sA (sI s 5531 (s.1 5531 - 1)) 76 (upd (s.2.1 76) (b + g) (nI (encR b (o, G.length))))) a (G.set g (o, G.length)) W d := by
  have h9 := RX_pop h
  obtain ⟨f, h1, h2, h3, h4, h5, h6, h7⟩ := h9
  have hgl : g < G.length := (List.getElem?_eq_some_iff.mp hg).1
  refine ⟨fr_sA 76 f, h1, ?_, h3, h4, fun i hi => ?_, fun i hi => ?_, h7⟩
  · rw [List.length_set]; exact h2
  · rw [List.length_set] at hi
    show upd (s.2.1 76) (b + g) (nI (encR b (o, G.length))) (b + i) = _
    by_cases c : i = g
    · subst c
      rw [pk_us, List.getElem_set_self]
    · rw [pk_un (by omega), List.getElem_set_ne (fun z => c z.symm)]
      exact h5 i hi
  · show upd (s.2.1 76) (b + g) (nI (encR b (o, G.length))) i = _
    rw [pk_un (by omega)]
    exact h6 i hi
theorem l_217 {x1 : Int32} {al : Bool} {X K : ST → Prop} (hx : x1 = (if al = true then 1 else 0)) (hs : ¬ tpI W = 11 ∧ (al = true → ¬ tpI W = 12)) (hW : W.length + 2 ≤ 180) : ∀ (N : Nat) (PC G : List Pc) (s : ST), PC.length < N → PC.length ≤ 2 → RX R0 b s a G (wtC b PC ++ W) d → b + G.length ≤ 160 → (∀ p, p ∈ PC → (p.1 = 3 ∨ (al = true ∧ p.1 = 4)) ∧ ∃ v, v < 1000000 ∧ G[p.2]? = some (p.1, v)) → (∀ s1, RX R0 b s1 a (lnd PC G) W d → X s1) → w_217_L0 N x1 s X K := by
  intro N
  induction N with
  | zero => intro PC G s z; omega
  | succ N ih =>
    intro PC G s hN hP h hb hc hX
    have hlen : (wtC b PC ++ W).length ≤ 180 := by
      rw [List.length_append]
      unfold wtC
      rw [List.length_map]
      omega
    have tp := fun (K : Int32 → ST → Prop) => w209v (K := K) h hlen
    rw [w_217_L0, tp]
    cases PC with
    | nil =>
      have h : RX R0 b s a G W d := h
      have et : tpI (wtC b [] ++ W) = tpI W := rfl
      rw [et] at tp ⊢
      refine br_f hs.1 ?_
      cases al with
      | false => exact br_t hx (hX s h)
      | true =>
        refine br_f (by rw [hx]; decide) ?_
        rw [tp]
        exact br_t (hs.2 rfl) (hX s h)
    | cons p PC =>
      obtain ⟨o, g⟩ := p
      obtain ⟨c1, v, c2, c3⟩ := hc (o, g) List.mem_cons_self
      have c1 : o = 3 ∨ (al = true ∧ o = 4) := c1
      have c3 : G[g]? = some (o, v) := c3
      have ho : o = 3 ∨ o = 4 := by rcases c1 with z | z <;> omega
      have hgl : g < G.length := (List.getElem?_eq_some_iff.mp c3).1
      have hgv : G[g] = (o, v) := (List.getElem?_eq_some_iff.mp c3).2
      have hP : PC.length + 1 ≤ 2 := hP
      have hN : PC.length + 1 < N + 1 := hN
      have hm : mpo o = 11 ∨ mpo o = 12 := by rcases ho with z | z <;> rw [z] <;> decide
      have h := h
      have hW2 : RX R0 b s a G ((mpo o, b + g) :: (wtC b PC ++ W)) d := h
      obtain ⟨f, q1, q2, q3, q4, q5, q6, q7⟩ := hW2
      have lW : (wtC b PC ++ W).length ≤ 179 := by
        have : (wtC b PC ++ W).length + 1 ≤ 180 := hlen
        omega
      have e1 : s.1 5531 - 1 = nI (wtC b PC ++ W).length := by
        rw [q3]
        exact pk_sub (a := (wtC b PC ++ W).length + 1) (b := 1) (by omega)
      have e2 : s.2.1 77 (wtC b PC ++ W).length = nI (16777216 * mpo o + (b + g)) := q7.1
      have e3 : s.2.1 77 (wtC b PC ++ W).length - s.2.1 77 (wtC b PC ++ W).length / 16777216 * 16777216 = nI (b + g) := by
        rw [e2, show (16777216 : Int32) = nI 16777216 from rfl, pk_rem (by omega) (by omega) (by omega), show (16777216 * mpo o + (b + g)) % 16777216 = b + g by omega]
      have e4 : s.2.1 76 (b + g) / 16777216 = nI (mpo o) := by
        rw [q5 g hgl, hgv, show (16777216 : Int32) = nI 16777216 from rfl]
        have : ∃ x, x < 16777216 ∧ encR b (o, v) = 16777216 * mpo o + x := by
          unfold encR
          refine ⟨_, ?_, rfl⟩
          show (if o = 3 ∨ o = 4 then (if v = 0 then 0 else b + v) else v) < 16777216
          rw [if_pos ho]
          split <;> omega
        obtain ⟨x, x1, x2⟩ := this
        rw [x2, pk_div (by omega) (by omega) (by omega), show (16777216 * mpo o + x) / 16777216 = mpo o by omega]
      have e5 : (16777216 : Int32) * nI (mpo o) + s.1 5530 = nI (encR b (o, G.length)) := by
        rw [q2, show (16777216 : Int32) = nI 16777216 from rfl, pk_mul, nI_add]
        unfold encR
        show _ = nI (16777216 * mpo o + (if o = 3 ∨ o = 4 then (if G.length = 0 then 0 else b + G.length) else G.length))
        rw [if_pos ho, if_neg (by omega)]
      have pB : pin (nI (b + g)) 180 = true := pin_nI (by omega) (by omega)
      have pW : pin (nI (wtC b PC ++ W).length) 180 = true := pin_nI (by omega) (by omega)
      have nz : ¬ (16777216 : Int32) = 0 := by decide
      have hl := RX_land (W := wtC b PC ++ W) (w := (mpo o, b + g)) h ho c3
      rw [e1] at hl
      have go : w_217_L0 N x1 (sA (sI s 5531 (nI (wtC b PC ++ W).length)) 76 (upd (s.2.1 76) (b + g) (nI (encR b (o, G.length))))) X K := by
        refine ih PC (G.set g (o, G.length)) _ (by omega) (by omega) hl (by rw [List.length_set]; exact hb) (fun p hp => ?_) hX
        obtain ⟨u1, u2, u3, u4⟩ := hc p (List.mem_cons_of_mem _ hp)
        refine ⟨u1, ?_⟩
        by_cases cg : p.2 = g
        · rw [cg, c3] at u4
          have eo : o = p.1 := by injection u4 with z; exact (Prod.mk.inj z).1
          refine ⟨G.length, by omega, ?_⟩
          rw [cg, List.getElem?_set_self hgl, eo]
        · refine ⟨u2, u3, ?_⟩
          rw [List.getElem?_set_ne (fun z => cg z.symm)]
          exact u4
      have et : tpI (wtC b ((o, g) :: PC) ++ W) = nI (mpo o) := rfl
      rw [et] at tp ⊢
      rcases c1 with z | ⟨z1, z2⟩
      · refine br_t (by rw [z]; rfl) ?_
        rw [e1, nI_clamp (show (wtC b PC ++ W).length < 2 ^ 31 by omega), e3, nI_clamp (show b + g < 2 ^ 31 by omega), e4, e5]
        exact ⟨pW, nz, pB, nz, pB, go⟩
      · refine br_f (by rw [z2]; decide) (br_f (by rw [hx, z1]; decide) ?_)
        rw [tp]
        refine br_f (fun y => y (by rw [z2]; rfl)) ?_
        rw [e1, nI_clamp (show (wtC b PC ++ W).length < 2 ^ 31 by omega), e3, nI_clamp (show b + g < 2 ^ 31 by omega), e4, e5]
        exact ⟨pW, nz, pB, nz, pB, go⟩
theorem mp_217 {x1 : Int32} {al : Bool} {PC : List Pc} {K : ST → Prop} (hx : x1 = (if al = true then 1 else 0)) (hs : ¬ tpI W = 11 ∧ (al = true → ¬ tpI W = 12)) (hW : W.length + 2 ≤ 180) (hP : PC.length ≤ 2) (h : RX R0 b s a G (wtC b PC ++ W) d) (hb : b + G.length ≤ 160) (hc : ∀ p, p ∈ PC → (p.1 = 3 ∨ (al = true ∧ p.1 = 4)) ∧ ∃ v, v < 1000000 ∧ G[p.2]? = some (p.1, v)) (k : ∀ s1, RX R0 b s1 a (lnd PC G) W d → K s1) : w_217 x1 s K := by
  unfold w_217
  exact ⟨PC.length + 1, l_217 hx hs hW (PC.length + 1) PC G s (by omega) hP h hb hc k⟩
theorem mp_218 {o p : Nat} {K : ST → Prop} (h : RX R0 b s a G W d) (ho : o = 3 ∨ o = 4) (ep : p = mpo o) (hW : W.length < 180) (hb : b + G.length < 160) (k : ∀ s1, RX R0 b s1 (a + 1) (G ++ [(o, 0)]) ((mpo o, b + G.length) :: W) d → K s1) : w_218 (nI p) s K := by
  obtain ⟨f, h1, h2, h3, h4, h5, h6, h7⟩ := h
  have hm : mpo o ≤ 14 := by rcases ho with z | z <;> rw [z] <;> decide
  unfold w_218
  rw [h2, h3, nI_1, nI_clamp (show W.length < 2 ^ 31 by omega), ep, show (16777216 : Int32) = nI 16777216 from rfl, pk_mul, nI_add]
  refine ⟨pin_nI hW (by omega), ?_⟩
  have hp : RX R0 b (sA (sI s 5531 (nI (W.length + 1))) 77 (upd (s.2.1 77) W.length (nI (16777216 * mpo o + (b + G.length))))) a G ((mpo o, b + G.length) :: W) d := ⟨fr_sA 77 (fr_sI 5531 f), h1, h2, rfl, h4, h5, h6, pk_us, hm, by show b + G.length < 180; omega, WL_up W _ (Nat.le_refl _) h7⟩
  refine mp_207 (o := o) (v := 0) hp (by omega) ?_ (fun s1 g1 => k _ (RX_adv g1))
  rw [show (16777216 : Int32) = nI 16777216 from rfl, show (0 : Int32) = nI 0 from rfl, pk_mul, nI_add]
  unfold encR
  show _ = nI (16777216 * mpo o + (if o = 3 ∨ o = 4 then (if 0 = 0 then 0 else b + 0) else 0))
  rw [if_pos ho, if_pos rfl]
end Rg
