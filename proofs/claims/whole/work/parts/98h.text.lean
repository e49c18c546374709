/-! ===== the reference's conditions are the grammar's ===== -/
def x88 (K : Int32 → ST → Prop) : ST → Prop := fun s66 => w_204 (1 : Int32) (s66.1 5526) s66 (fun r68 s67 => K r68 s67)
def Aw (K : Int32 → ST → Prop) (N : Nat) (s : ST) : Prop := w_220_L22 N s (fun s65 => K (0 : Int32) s65) (x88 K) (fun s69 => K (1 : Int32) s69) (fun s70 => K (0 : Int32) s70) K
def tl47 (K : Int32 → ST → Prop) (N : Nat) : ST → Prop := (fun s17 => w_202 s17 (fun r19 s18 => ((r19 = (38 : Int32) → w_202 s18 (fun r21 s20 => ((¬ r21 = (124 : Int32) → w_217 (0 : Int32) s20 (fun s22 => w_202 s22 (fun r25 s24 => ((¬ r25 = (38 : Int32) → w_218 (12 : Int32) s24 (fun s26 => Aw K N s26)) ∧ (¬ (¬ r25 = (38 : Int32)) → w_218 (11 : Int32) s24 (fun s28 => Aw K N s28)))))) ∧ (¬ (¬ r21 = (124 : Int32)) → w_217 (1 : Int32) s20 (fun s30 => w_202 s30 (fun r33 s32 => ((¬ r33 = (38 : Int32) → w_218 (12 : Int32) s32 (fun s34 => Aw K N s34)) ∧ (¬ (¬ r33 = (38 : Int32)) → w_218 (11 : Int32) s32 (fun s36 => Aw K N s36))))))))) ∧ (¬ (r19 = (38 : Int32)) → w_202 s18 (fun r39 s38 => ((r39 = (124 : Int32) → w_202 s38 (fun r41 s40 => ((¬ r41 = (124 : Int32) → w_217 (0 : Int32) s40 (fun s42 => w_202 s42 (fun r45 s44 => ((¬ r45 = (38 : Int32) → w_218 (12 : Int32) s44 (fun s46 => Aw K N s46)) ∧ (¬ (¬ r45 = (38 : Int32)) → w_218 (11 : Int32) s44 (fun s48 => Aw K N s48)))))) ∧ (¬ (¬ r41 = (124 : Int32)) → w_217 (1 : Int32) s40 (fun s50 => w_202 s50 (fun r53 s52 => ((¬ r53 = (38 : Int32) → w_218 (12 : Int32) s52 (fun s54 => Aw K N s54)) ∧ (¬ (¬ r53 = (38 : Int32)) → w_218 (11 : Int32) s52 (fun s56 => Aw K N s56))))))))) ∧ (¬ (r39 = (124 : Int32)) → x88 K s38)))))))
def Bm (K : Int32 → ST → Prop) (N m : Nat) (s : ST) : Prop := w_220_L47 m s (tl47 K N) (fun s58 => K (1 : Int32) s58) K
def RPs (R0 : ST) (n b : Nat) (f : PF) (d : Nat) : Prop := ∀ (K : Int32 → ST → Prop) (s : ST) (a : Nat) (G : List Pc) (k dd : Nat) (W : List Pc) (N : Nat), d = dd + k → RX R0 b s a G (NT k ++ W) d → 11 ≤ (tpI W).toInt → a ≤ n → b + G.length + k ≤ a → (NT k ++ W).length ≤ 4 * d + 2 → n - a < N → (∀ a1 G1, f a G = .inr (a1, G1) → ∀ N1 m s1, n - a1 < N1 → n - a1 < m → RX R0 b s1 a1 (G1 ++ em2 k) W dd → Bm K N1 m s1) → (∀ e, f a G = .inl e → ∀ s1, FX R0 s1 e → K 0 s1) → Aw K N s
def RAs (R0 : ST) (T : Nat → Nat) (n b : Nat) (f : PF) (d : Nat) : Prop := ∀ (K : Int32 → ST → Prop) (s : ST) (a : Nat) (G W : List Pc) (N : Nat), RX R0 b s a G W d → 12 ≤ (tpI W).toInt → a ≤ n → b + G.length ≤ a → W.length ≤ 4 * d + 1 → n - a < N → (∀ a1 G1, f a G = .inr (a1, G1) → ∀ N1 m s1 Gr PA, n - a1 < N1 → n - a1 < m → G1 = lnd PA Gr → (PA = [] ∨ ∃ g v, PA = [(3, g)] ∧ v < 1000000 ∧ Gr[g]? = some (3, v)) → ¬ sgn T n a1 = 38 → RX R0 b s1 a1 Gr (wtC b PA ++ W) d → Bm K N1 m s1) → (∀ e, f a G = .inl e → ∀ s1, FX R0 s1 e → K 0 s1) → Aw K N s
def RCs (R0 : ST) (T : Nat → Nat) (n b : Nat) (f : PF) (d : Nat) : Prop := ∀ (K : Int32 → ST → Prop) (s : ST) (a : Nat) (G W : List Pc) (N : Nat), RX R0 b s a G W d → 13 ≤ (tpI W).toInt → a ≤ n → b + G.length ≤ a → W.length ≤ 4 * d → n - a < N → (∀ a1 G1, f a G = .inr (a1, G1) → ∀ N1 m s1 Gr PC, n - a1 < N1 → n - a1 < m → G1 = lnd PC Gr → PC.length ≤ 2 → (∀ p, p ∈ PC → (p.1 = 3 ∨ p.1 = 4) ∧ ∃ v, v < 1000000 ∧ Gr[p.2]? = some (p.1, v)) → ¬ sgn T n a1 = 38 → ¬ sgn T n a1 = 124 → RX R0 b s1 a1 Gr (wtC b PC ++ W) d → Bm K N1 m s1) → (∀ e, f a G = .inl e → ∀ s1, FX R0 s1 e → K 0 s1) → Aw K N s
section Rh
variable {R0 : ST} {T : Nat → Nat} {n b : Nat}
theorem wtC_len {PC : List Pc} : (wtC b PC).length = PC.length := List.length_map _
theorem tp_ne {W : List Pc} {k c : Nat} (h : (k : Int) ≤ (tpI W).toInt) (hc : c < k) (hk : k < 100) : ¬ tpI W = nI c := by
  intro z
  rw [z, nI_toInt (by omega)] at h
  omega
theorem rp_pc {e d : Nat} {su pi co : PF} (hT : TR R0 T n) (hd : e + d = 6) (gs : GP n su) (gp : ¬ e = 0 → GP n pi) (gc : ¬ e = 0 → GP n co) (hs : RSs R0 T n b su d) (hp : ¬ e = 0 → RPs R0 n b pi (d + 1)) (hc : ¬ e = 0 → RCs R0 T n b co (d + 1)) : RPs R0 n b (pPc (sgn T n) e su pi co) d := by
  intro K s a G k dd W N edd h ht ha hb hW hN hok hbad
  have hn := hT.1
  have hl := sgr_le hT (a := a)
  have lW : k + W.length ≤ 4 * d + 2 := by rw [List.length_append, NT_len] at hW; exact hW
  obtain ⟨N, rfl⟩ : ∃ i, N = i + 1 := ⟨N - 1, by omega⟩
  unfold pPc at hok hbad
  unfold Aw
  rw [w_220_L22, w202v hT h ha]
  by_cases c1 : sgn T n a = 33
  · have hal := sgr_in (T := T) (n := n) (a := a) (by omega)
    rw [if_pos c1] at hok hbad
    refine br_t (sg_y 33 c1 (by omega)) ?_
    rw [w202v hT h ha]
    refine br_f (fun z => z (sg_y 33 c1 (by omega))) (mp_208 (p := 10) h (by omega) (by omega) (by omega) ?_ ?_)
    · intro d6 s1 h1
      have e0 : ¬ e = 0 := by omega
      rw [if_neg e0] at hok hbad
      refine br_t (by decide) (hp e0 K s1 (a + 1) G (k + 1) dd W N (by omega) h1 ht (by omega) (by omega) ?_ (by omega) ?_ ?_)
      · rw [List.length_append, NT_len]; omega
      · intro a1 G1 er N1 m s2 hN1 hm h2
        rw [er] at hok
        refine hok a1 _ rfl N1 m s2 hN1 hm ?_
        rw [List.append_assoc]
        exact h2
      · intro x er s2 fx
        rw [er] at hbad
        exact hbad x rfl s2 fx
    · intro d6 s1 fx
      have e0 : e = 0 := by omega
      rw [if_pos e0] at hbad
      exact br_f (fun z => z rfl) (hbad _ rfl s1 fx)
  rw [if_neg c1] at hok hbad
  refine br_f (sg_n 33 c1 hl (by omega)) ?_
  rw [w202v hT h ha]
  by_cases c2 : sgn T n a = 40
  · have hal := sgr_in (T := T) (n := n) (a := a) (by omega)
    rw [if_pos c2] at hok hbad
    refine br_f (fun z => z (sg_y 40 c2 (by omega))) ?_
    rw [w202v hT h ha]
    refine br_t (sg_n 33 c1 hl (by omega)) (mp_208 (p := 13) h (by omega) (by omega) (by omega) ?_ ?_)
    · intro d6 s1 h1
      have e0 : ¬ e = 0 := by omega
      rw [if_neg e0] at hok hbad
      refine br_t (by decide) (hc e0 K s1 (a + 1) G ((13, 0) :: (NT k ++ W)) N h1 (by show 13 ≤ (nI 13).toInt; decide) (by omega) (by omega) (by show (NT k ++ W).length + 1 ≤ _; omega) (by omega) ?_ ?_)
      · intro a1 G1 er N1 m s2 Gr PC hN1 hm eG hP1 hP2 n38 n124 h2
        rw [er] at hok hbad
        have hok : ∀ a2 G2, (if sgn T n a1 = 41 then (.inr (a1 + 1, G1) : Prs) else .inl (1, a1)) = .inr (a2, G2) → ∀ N1 m s1, n - a2 < N1 → n - a2 < m → RX R0 b s1 a2 (G2 ++ em2 k) W dd → Bm K N1 m s1 := hok
        have hbad : ∀ x, (if sgn T n a1 = 41 then (.inr (a1 + 1, G1) : Prs) else .inl (1, a1)) = .inl x → ∀ s1, FX R0 s1 x → K 0 s1 := hbad
        have g := gc e0 _ _ _ _ er
        have hl1 := sgr_le hT (a := a1)
        have eL : G1.length = Gr.length := by rw [eG, lnd_len]
        obtain ⟨m, rfl⟩ : ∃ i, m = i + 1 := ⟨m - 1, by omega⟩
        unfold Bm
        rw [w_220_L47, w202v hT h2 (by omega)]
        by_cases c3 : sgn T n a1 = 41
        · have hal1 := sgr_in (T := T) (n := n) (a := a1) (by omega)
          rw [if_pos c3] at hok
          refine br_f (fun z => z (sg_y 41 c3 (by omega))) (mp_217 (al := true) (PC := PC) (W := (13, 0) :: (NT k ++ W)) rfl ⟨by show ¬ nI 13 = 11; decide, fun _ => by show ¬ nI 13 = 12; decide⟩ (by show (NT k ++ W).length + 1 + 2 ≤ 180; omega) hP1 h2 (by omega) (fun p hp => ⟨by rcases (hP2 p hp).1 with z | z; exact Or.inl z; exact Or.inr ⟨rfl, z⟩, (hP2 p hp).2⟩) ?_)
          intro s3 h3
          rw [← eG] at h3
          have nW : 1 ≤ W.length := by
            cases W with
            | nil => exact absurd ht (by decide)
            | cons w W => show 1 ≤ W.length + 1; omega
          have e1 : s3.1 5531 - 1 = nI (NT k ++ W).length := by
            rw [h3.2.2.2.1]
            exact pk_sub (a := (NT k ++ W).length + 1) (b := 1) (by omega)
          have lNW : (NT k ++ W).length = k + W.length := by rw [List.length_append, NT_len]
          have h3' : RX R0 b s3 a1 G1 ((13, 0) :: (NT k ++ W)) ((dd + k) + 1) := by rw [← edd]; exact h3
          refine br_t (by rw [e1, i_eq, nI_toInt (by omega), l_0]; omega) ?_
          refine mp_216 (k := k) (tp_n10 ht) (by omega) (by omega) (RX_adv (RX_pop2 h3')) (by omega) (fun s4 h4 => ?_)
          exact hok _ _ rfl N1 m s4 (by omega) (by omega) h4
        · refine br_t (sg_n 41 c3 hl1 (by omega)) ?_
          unfold tl47
          rw [w202v hT h2 (by omega)]
          refine br_f (sg_n 38 n38 hl1 (by omega)) ?_
          rw [w202v hT h2 (by omega)]
          refine br_f (sg_n 124 n124 hl1 (by omega)) ?_
          unfold x88
          rw [h2.2.1]
          exact mp_204 1 a1 h2.1 (fun s3 fx => hbad _ (if_neg c3) s3 fx)
      · intro x er s2 fx
        rw [er] at hbad
        exact hbad x rfl s2 fx
    · intro d6 s1 fx
      have e0 : e = 0 := by omega
      rw [if_pos e0] at hbad
      exact br_f (fun z => z rfl) (hbad _ rfl s1 fx)
  · rw [if_neg c2] at hok hbad
    rw [edd] at h hs hW
    refine br_t (sg_n 40 c2 hl (by omega)) (mp_219 (k := k) hT (by omega) gs hs h ht ha (by omega) hW (fun a1 G1 er s1 h1 => br_t (by decide) ⟨n + 1, hok a1 G1 er N (n + 1) s1 ?_ (by omega) h1⟩) (fun x er s1 fx => br_f (fun z => z rfl) (hbad x er s1 fx)))
    have g := GP_pc (sg := sgn T n) (fun _ h => sgn_out h) gs gp gc a G a1 G1 (by unfold pPc; rw [if_neg c1, if_neg c2]; exact er)
    omega
/-- a leap is taken behind a part or a piece, and the next one is read -/
theorem l_pa {d : Nat} {pc : PF} {K : Int32 → ST → Prop} {W : List Pc} (hT : TR R0 T n) (hd : d ≤ 6) (hg : GP n pc) (hx : PX pc) (hf : RPs R0 n b pc d) (ht : 12 ≤ (tpI W).toInt) (hW : W.length ≤ 4 * d + 1) : ∀ (j a : Nat) (Gr PA : List Pc) (N m : Nat) (s : ST), n - a < j → n - a < N → n - a < m → a ≤ n → b + Gr.length ≤ a → (PA = [] ∨ ∃ g v, PA = [(3, g)] ∧ v < 1000000 ∧ Gr[g]? = some (3, v)) → RX R0 b s a Gr (wtC b PA ++ W) d → (∀ a1 G1, pLL (sgn T n) 38 3 pc j a (lnd PA Gr) = .inr (a1, G1) → ∀ N1 m s1 Gr PA, n - a1 < N1 → n - a1 < m → G1 = lnd PA Gr → (PA = [] ∨ ∃ g v, PA = [(3, g)] ∧ v < 1000000 ∧ Gr[g]? = some (3, v)) → ¬ sgn T n a1 = 38 → RX R0 b s1 a1 Gr (wtC b PA ++ W) d → Bm K N1 m s1) → (∀ e, pLL (sgn T n) 38 3 pc j a (lnd PA Gr) = .inl e → ∀ s1, FX R0 s1 e → K 0 s1) → Bm K N m s := by
  have hn := hT.1
  intro j
  induction j with
  | zero => intro a Gr PA N m s z; omega
  | succ j ih =>
    intro a Gr PA N m s hj hN hm ha hb hPA h hok hbad
    unfold pLL at hok hbad
    have hl := sgr_le hT (a := a)
    by_cases c : sgn T n a = 38
    · rw [if_pos c] at hok hbad
      have hal := sgr_in (T := T) (n := n) (a := a) (by omega)
      obtain ⟨m, rfl⟩ : ∃ i, m = i + 1 := ⟨m - 1, by omega⟩
      have hPl : PA.length ≤ 1 := by
        rcases hPA with z | ⟨g, v, z, _⟩ <;> rw [z]
        · show 0 ≤ 1; omega
        · show 1 ≤ 1; omega
      unfold Bm
      rw [w_220_L47, w202v hT h ha]
      refine br_t (sg_n 41 (by omega) hl (by omega)) ?_
      unfold tl47
      rw [w202v hT h ha]
      refine br_t (sg_y 38 c (by omega)) ?_
      rw [w202v hT h ha]
      refine br_t (sg_n 124 (by omega) hl (by omega)) (mp_217 (al := false) (PC := PA) (W := W) rfl ⟨tp_ne (k := 12) (c := 11) ht (by omega) (by omega), fun z => absurd z (by decide)⟩ (by omega) (by omega) h (by omega) (fun p hp => ?_) ?_)
      · rcases hPA with z | ⟨g, v, z, z1, z2⟩
        · rw [z] at hp; exact absurd hp List.not_mem_nil
        · rw [z] at hp
          rw [List.mem_singleton.mp hp]
          exact ⟨Or.inl rfl, v, z1, z2⟩
      · intro s1 h1
        have lG : (lnd PA Gr).length = Gr.length := lnd_len PA Gr
        rw [w202v hT h1 ha]
        refine br_f (fun z => z (sg_y 38 c (by omega))) (mp_218 (o := 3) (p := 11) h1 (Or.inl rfl) rfl (by omega) (by omega) (fun s2 h2 => ?_))
        refine hf K s2 (a + 1) (lnd PA Gr ++ [(3, 0)]) 0 d ((11, b + (lnd PA Gr).length) :: W) N rfl h2 (by show 11 ≤ (nI 11).toInt; decide) (by omega) (by rw [List.length_append]; show b + ((lnd PA Gr).length + 1) + 0 ≤ a + 1; omega) (by show W.length + 1 ≤ _; omega) (by omega) ?_ ?_
        · intro a2 G2 er N2 m2 s3 hN2 hm2 h3
          rw [er] at hok hbad
          rw [show G2 ++ em2 0 = G2 from List.append_nil G2] at h3
          have g := hg _ _ _ _ er
          rw [List.length_append] at g
          have l1 : ([(3, 0)] : List Pc).length = 1 := rfl
          obtain ⟨H, eH⟩ := hx _ _ _ _ er
          have eg : G2[(lnd PA Gr).length]? = some (3, 0) := by
            rw [eH, List.append_assoc, List.getElem?_append_right (Nat.le_refl _), Nat.sub_self]
            rfl
          exact ih a2 G2 [(3, (lnd PA Gr).length)] N2 m2 s3 (by omega) hN2 hm2 (by omega) (by omega) (Or.inr ⟨_, 0, rfl, by omega, eg⟩) h3 hok hbad
        · intro x er s3 fx
          rw [er] at hbad
          exact hbad x rfl s3 fx
    · rw [if_neg c] at hok
      exact hok a _ rfl N m s Gr PA hN hm rfl hPA c h
theorem rp_pa {d : Nat} {pc : PF} (hT : TR R0 T n) (hd : d ≤ 6) (hg : GP n pc) (hx : PX pc) (hf : RPs R0 n b pc d) : RAs R0 T n b (pPa (sgn T n) n pc) d := by
  intro K s a G W N h ht ha hb hW hN hok hbad
  unfold pPa at hok hbad
  refine hf K s a G 0 d W N rfl h (by omega) ha (by omega) (by show W.length ≤ _; omega) hN ?_ ?_
  · intro a1 G1 er N1 m s1 hN1 hm h1
    rw [er] at hok hbad
    rw [show G1 ++ em2 0 = G1 from List.append_nil G1] at h1
    have g := hg _ _ _ _ er
    exact l_pa hT hd hg hx hf ht hW (n + 1) a1 G1 [] N1 m s1 (by omega) hN1 hm (by omega) (by omega) (Or.inl rfl) h1 hok hbad
  · intro x er s1 fx
    rw [er] at hbad
    exact hbad x rfl s1 fx
theorem wtC_app {P Q W : List Pc} : wtC b (P ++ Q) ++ W = wtC b P ++ (wtC b Q ++ W) := by
  unfold wtC
  rw [List.map_append, List.append_assoc]
theorem l_co {d : Nat} {pa : PF} {K : Int32 → ST → Prop} {W : List Pc} (hT : TR R0 T n) (hd : d ≤ 6) (hg : GP n pa) (hx : PX pa) (hf : RAs R0 T n b pa d) (ht : 13 ≤ (tpI W).toInt) (hW : W.length ≤ 4 * d) : ∀ (j a : Nat) (Gr PC : List Pc) (N m : Nat) (s : ST), n - a < j → n - a < N → n - a < m → a ≤ n → b + Gr.length ≤ a → PC.length ≤ 2 → (∀ p, p ∈ PC → (p.1 = 3 ∨ p.1 = 4) ∧ ∃ v, v < 1000000 ∧ Gr[p.2]? = some (p.1, v)) → ¬ sgn T n a = 38 → RX R0 b s a Gr (wtC b PC ++ W) d → (∀ a1 G1, pLL (sgn T n) 124 4 pa j a (lnd PC Gr) = .inr (a1, G1) → ∀ N1 m s1 Gr PC, n - a1 < N1 → n - a1 < m → G1 = lnd PC Gr → PC.length ≤ 2 → (∀ p, p ∈ PC → (p.1 = 3 ∨ p.1 = 4) ∧ ∃ v, v < 1000000 ∧ Gr[p.2]? = some (p.1, v)) → ¬ sgn T n a1 = 38 → ¬ sgn T n a1 = 124 → RX R0 b s1 a1 Gr (wtC b PC ++ W) d → Bm K N1 m s1) → (∀ e, pLL (sgn T n) 124 4 pa j a (lnd PC Gr) = .inl e → ∀ s1, FX R0 s1 e → K 0 s1) → Bm K N m s := by
  have hn := hT.1
  intro j
  induction j with
  | zero => intro a Gr PC N m s z; omega
  | succ j ih =>
    intro a Gr PC N m s hj hN hm ha hb hP hPC n38 h hok hbad
    unfold pLL at hok hbad
    have hl := sgr_le hT (a := a)
    by_cases c : sgn T n a = 124
    · rw [if_pos c] at hok hbad
      have hal := sgr_in (T := T) (n := n) (a := a) (by omega)
      obtain ⟨m, rfl⟩ : ∃ i, m = i + 1 := ⟨m - 1, by omega⟩
      unfold Bm
      rw [w_220_L47, w202v hT h ha]
      refine br_t (sg_n 41 (by omega) hl (by omega)) ?_
      unfold tl47
      rw [w202v hT h ha]
      refine br_f (sg_n 38 n38 hl (by omega)) ?_
      rw [w202v hT h ha]
      refine br_t (sg_y 124 c (by omega)) ?_
      rw [w202v hT h ha]
      refine br_f (fun z => z (sg_y 124 c (by omega))) (mp_217 (al := true) (PC := PC) (W := W) rfl ⟨tp_ne (k := 13) (c := 11) ht (by omega) (by omega), fun _ => tp_ne (k := 13) (c := 12) ht (by omega) (by omega)⟩ (by omega) hP h (by omega) (fun p hp => ⟨by rcases (hPC p hp).1 with z | z; exact Or.inl z; exact Or.inr ⟨rfl, z⟩, (hPC p hp).2⟩) ?_)
      intro s1 h1
      have lG : (lnd PC Gr).length = Gr.length := lnd_len PC Gr
      rw [w202v hT h1 ha]
      refine br_t (sg_n 38 n38 hl (by omega)) (mp_218 (o := 4) (p := 12) h1 (Or.inr rfl) rfl (by omega) (by omega) (fun s2 h2 => ?_))
      refine hf K s2 (a + 1) (lnd PC Gr ++ [(4, 0)]) ((12, b + (lnd PC Gr).length) :: W) N h2 (by show 12 ≤ (nI 12).toInt; decide) (by omega) (by rw [List.length_append]; show b + ((lnd PC Gr).length + 1) ≤ a + 1; omega) (by show W.length + 1 ≤ _; omega) (by omega) ?_ ?_
      · intro a2 G2 er N2 m2 s3 Gr2 PA2 hN2 hm2 eG2 hPA2 z38 h3
        rw [er] at hok hbad
        have g := hg _ _ _ _ er
        rw [List.length_append] at g
        have l1 : ([(4, 0)] : List Pc).length = 1 := rfl
        obtain ⟨H, eH⟩ := hx _ _ _ _ er
        have eg : G2[(lnd PC Gr).length]? = some (4, 0) := by
          rw [eH, List.append_assoc, List.getElem?_append_right (Nat.le_refl _), Nat.sub_self]
          rfl
        have eL : G2.length = Gr2.length := by rw [eG2, lnd_len]
        have e4 : Gr2[(lnd PC Gr).length]? = some (4, 0) := by
          rcases hPA2 with z | ⟨g, v, z, z1, z2⟩
          · rw [eG2, z] at eg
            exact eg
          · rw [eG2, z] at eg
            have eg : (Gr2.set g (3, Gr2.length))[(lnd PC Gr).length]? = some (4, 0) := eg
            by_cases y : g = (lnd PC Gr).length
            · rw [y] at z2
              rw [y, List.getElem?_set_self ((List.getElem?_eq_some_iff.mp z2).1)] at eg
              injection eg with q
              exact absurd (Prod.mk.inj q).1 (by decide)
            · rw [List.getElem?_set_ne y] at eg
              exact eg
        have hPl : PA2.length ≤ 1 := by
          rcases hPA2 with z | ⟨g, v, z, _⟩ <;> rw [z]
          · show 0 ≤ 1; omega
          · show 1 ≤ 1; omega
        have eS : G2.set (lnd PC Gr).length (4, G2.length) = lnd (PA2 ++ [(4, (lnd PC Gr).length)]) Gr2 := by
          unfold lnd
          rw [List.foldl_append]
          show _ = (lnd PA2 Gr2).set _ (4, (lnd PA2 Gr2).length)
          rw [← eG2]
        have h3' : RX R0 b s3 a2 Gr2 (wtC b (PA2 ++ [(4, (lnd PC Gr).length)]) ++ W) d := by
          rw [wtC_app]
          exact h3
        refine ih a2 Gr2 (PA2 ++ [(4, (lnd PC Gr).length)]) N2 m2 s3 (by omega) hN2 hm2 (by omega) (by omega) (by rw [List.length_append]; show PA2.length + 1 ≤ 2; omega) (fun p hp => ?_) z38 h3' ?_ ?_
        · rcases List.mem_append.mp hp with y | y
          · rcases hPA2 with z | ⟨g, v, z, z1, z2⟩
            · rw [z] at y; exact absurd y List.not_mem_nil
            · rw [z] at y
              rw [List.mem_singleton.mp y]
              exact ⟨Or.inl rfl, v, z1, z2⟩
          · rw [List.mem_singleton.mp y]
            exact ⟨Or.inr rfl, 0, by omega, e4⟩
        · rw [← eS]; exact hok
        · rw [← eS]; exact hbad
      · intro x er s3 fx
        rw [er] at hbad
        exact hbad x rfl s3 fx
    · rw [if_neg c] at hok
      exact hok a _ rfl N m s Gr PC hN hm rfl hP hPC n38 c h
theorem rp_co {d : Nat} {pc : PF} (hT : TR R0 T n) (hd : d ≤ 6) (hg : GP n pc) (hx : PX pc) (hf : RPs R0 n b pc d) : RCs R0 T n b (pCo (sgn T n) n pc) d := by
  intro K s a G W N h ht ha hb hW hN hok hbad
  unfold pCo at hok hbad
  have fa := rp_pa hT hd hg hx hf
  refine fa K s a G W N h (by omega) ha hb (by omega) hN ?_ ?_
  · intro a1 G1 er N1 m s1 Gr PA hN1 hm eG hPA n38 h1
    rw [er] at hok hbad
    have g := GP_pa (sg := sgn T n) hg _ _ _ _ er
    have eL : G1.length = Gr.length := by rw [eG, lnd_len]
    rw [eG] at hok hbad
    refine l_co hT hd (GP_pa hg) (PX_pa hx) fa ht hW (n + 1) a1 Gr PA N1 m s1 (by omega) hN1 hm (by omega) (by omega) ?_ (fun p hp => ?_) n38 h1 hok hbad
    · rcases hPA with z | ⟨g, v, z, _⟩ <;> rw [z]
      · show 0 ≤ 2; omega
      · show 1 ≤ 2; omega
    · rcases hPA with z | ⟨g, v, z, z1, z2⟩
      · rw [z] at hp; exact absurd hp List.not_mem_nil
      · rw [z] at hp
        rw [List.mem_singleton.mp hp]
        exact ⟨Or.inl rfl, v, z1, z2⟩
  · intro x er s1 fx
    rw [er] at hbad
    exact hbad x rfl s1 fx
theorem rp_pi (hT : TR R0 T n) : ∀ (e d : Nat), e + d = 6 → RPs R0 n b (pPi (sgn T n) n e) d
  | 0, d, hd => rp_pc hT hd (GP_sm (fun _ h => sgn_out h) (GP_fu (fun _ h => sgn_out h) 0)) (fun z => absurd rfl z) (fun z => absurd rfl z) (rf_sm hT (by omega) (GP_fu (fun _ h => sgn_out h) 0) (rf_fu hT 0 d hd)) (fun z => absurd rfl z) (fun z => absurd rfl z)
  | e + 1, d, hd => by
    have hp := rp_pi hT e (d + 1) (by omega)
    have gp := GP_pi (sg := sgn T n) (n := n) (fun _ h => sgn_out h) e
    exact rp_pc hT hd (GP_sm (fun _ h => sgn_out h) (GP_fu (fun _ h => sgn_out h) (e + 1))) (fun _ => gp) (fun _ => GP_co gp) (rf_sm hT (by omega) (GP_fu (fun _ h => sgn_out h) (e + 1)) (rf_fu hT (e + 1) d hd)) (fun _ => hp) (fun _ => rp_co hT (by omega) gp (PX_pi e) hp)
/-- a condition with its brackets -/
theorem mp_220 {s : ST} {a : Nat} {W : List Pc} {d : Nat} {K : Int32 → ST → Prop} (hT : TR R0 T n) (h : RX R0 b s a [] W d) (ha : a ≤ n) (hb : b ≤ a) (k1 : ∀ a1 G1, pEn (sgn T n) n a = .inr (a1, G1) → ∀ s1 W1 d1, RX R0 b s1 a1 G1 W1 d1 → K 1 s1) (k0 : ∀ e, pEn (sgn T n) n a = .inl e → ∀ s1, FX R0 s1 e → K 0 s1) : w_220 s K := by
  have hn := hT.1
  have hl := sgr_le hT (a := a)
  unfold pEn at k1 k0
  unfold w_220
  rw [w202v hT h ha]
  by_cases c : sgn T n a = 40
  · have hal := sgr_in (T := T) (n := n) (a := a) (by omega)
    rw [if_pos c] at k1 k0
    have h0 : RX R0 b (sI (sI s 5529 0) 5531 0) a [] [] 0 := by
      obtain ⟨f, q1, q2, q3, q4, q5, q6, q7⟩ := h
      exact ⟨fr_sI 5531 (fr_sI 5529 f), q1, q2, rfl, rfl, q5, q6, trivial⟩
    refine br_t (sg_y 40 c (by omega)) (mp_208 (p := 13) h0 (by omega) (by show 0 < 180; omega) (by omega) (fun _ s1 h1 => br_t (by decide) ⟨n + 1, ?_⟩) (fun z => absurd z (by omega)))
    refine rp_co (T := T) (n := n) hT (by omega) (GP_pi (fun _ h => sgn_out h) 5) (PX_pi 5) (rp_pi hT 5 1 (by omega)) K s1 (a + 1) [] [(13, 0)] (n + 1) h1 (by show 13 ≤ (nI 13).toInt; decide) (by omega) (by show b + 0 ≤ a + 1; omega) (by show 1 ≤ 4; omega) (by omega) ?_ ?_
    · intro a1 G1 er N1 m s2 Gr PC hN1 hm eG hP1 hP2 n38 n124 h2
      rw [er] at k1 k0
      have k1 : ∀ a2 G2, (if sgn T n a1 = 41 then (.inr (a1 + 1, G1) : Prs) else .inl (1, a1)) = .inr (a2, G2) → ∀ s1 W1 d1, RX R0 b s1 a2 G2 W1 d1 → K 1 s1 := k1
      have k0 : ∀ x, (if sgn T n a1 = 41 then (.inr (a1 + 1, G1) : Prs) else .inl (1, a1)) = .inl x → ∀ s1, FX R0 s1 x → K 0 s1 := k0
      have g := GP_co (sg := sgn T n) (n := n) (GP_pi (fun _ h => sgn_out h) 5) _ _ _ _ er
      have hl1 := sgr_le hT (a := a1)
      have eL : G1.length = Gr.length := by rw [eG, lnd_len]
      have l0 : ([] : List Pc).length = 0 := rfl
      obtain ⟨m, rfl⟩ : ∃ i, m = i + 1 := ⟨m - 1, by omega⟩
      unfold Bm
      rw [w_220_L47, w202v hT h2 (by omega)]
      by_cases c3 : sgn T n a1 = 41
      · rw [if_pos c3] at k1
        refine br_f (fun z => z (sg_y 41 c3 (by omega))) (mp_217 (al := true) (PC := PC) (W := [(13, 0)]) rfl ⟨by show ¬ nI 13 = 11; decide, fun _ => by show ¬ nI 13 = 12; decide⟩ (by show 1 + 2 ≤ 180; omega) hP1 h2 (by omega) (fun p hp => ⟨by rcases (hP2 p hp).1 with z | z; exact Or.inl z; exact Or.inr ⟨rfl, z⟩, (hP2 p hp).2⟩) ?_)
        intro s3 h3
        rw [← eG] at h3
        have e1 : s3.1 5531 - 1 = 0 := by
          rw [h3.2.2.2.1]
          rfl
        exact br_f (fun z => z e1) (k1 _ _ rfl _ _ _ (RX_adv (RX_pop2 h3)))
      · refine br_t (sg_n 41 c3 hl1 (by omega)) ?_
        unfold tl47
        rw [w202v hT h2 (by omega)]
        refine br_f (sg_n 38 n38 hl1 (by omega)) ?_
        rw [w202v hT h2 (by omega)]
        refine br_f (sg_n 124 n124 hl1 (by omega)) ?_
        unfold x88
        rw [h2.2.1]
        exact mp_204 1 a1 h2.1 (fun s3 fx => k0 _ (if_neg c3) s3 fx)
    · intro x er s2 fx
      rw [er] at k0
      exact k0 x rfl s2 fx
  · rw [if_neg c] at k0
    refine br_f (sg_n 40 c hl (by omega)) ?_
    rw [h.2.1]
    exact mp_204 1 a h.1 (fun s2 fx => k0 _ rfl s2 fx)
end Rh
