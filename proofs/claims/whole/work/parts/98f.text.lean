/-! ===== the reference's sums are the grammar's ===== -/
def xx78 (K : Int32 → ST → Prop) : Int32 → ST → Prop := fun y1 s21 => w_214 y1 s21 (fun r23 s22 => ((r23 = 0 → w_212 (1 : Int32) s22 (fun s24 => K (1 : Int32) s24)) ∧ (¬ (r23 = 0) → w_204 (1 : Int32) (s22.1 5526) s22 (fun r27 s26 => K r27 s26))))
def L8 (K : Int32 → ST → Prop) (base N : Nat) (s : ST) : Prop := w_215_L8 N (nI base) s (xx78 K) (fun s28 => K (0 : Int32) s28) K
def RFl (M : Nat) (s : ST) (KK : Int32 → ST → Prop) : Prop := w_213_L0 M s (rf10 KK) (fun s20 => KK (0 : Int32) s20) KK
def KP (K KK : Int32 → ST → Prop) (base N : Nat) : Prop := (∀ s1, L8 K base N s1 → KK 1 s1) ∧ (∀ s1, K 0 s1 → KK 0 s1)
def RFs (R0 : ST) (n b : Nat) (f : PF) (d : Nat) : Prop := ∀ (K KK : Int32 → ST → Prop) (s : ST) (a : Nat) (G V W0 : List Pc) (M N : Nat), RX R0 b s a G (V ++ W0) d → a ≤ n → b + G.length ≤ a → (V ++ W0).length ≤ 4 * d + 4 → n - a < M → n - a < N → KP K KK W0.length N → (∀ a1 G1, f a G = .inr (a1, G1) → ∀ N1 s1, n - a1 < N1 → RX R0 b s1 a1 G1 (V ++ W0) d → L8 K W0.length N1 s1) → (∀ e, f a G = .inl e → ∀ s1, FX R0 s1 e → K 0 s1) → RFl M s KK
def RTs (R0 : ST) (T : Nat → Nat) (n b : Nat) (f : PF) (d : Nat) : Prop := ∀ (K KK : Int32 → ST → Prop) (s : ST) (a : Nat) (G : List Pc) (Pa : List Nat) (V W0 : List Pc) (M N : Nat), RX R0 b s a G (wtP Pa ++ (V ++ W0)) d → Pa.length ≤ 1 → (∀ o, o ∈ Pa → 5 ≤ o ∧ o ≤ 6) → 10 ≤ (tpI (V ++ W0)).toInt → a ≤ n → b + G.length ≤ a → (V ++ W0).length ≤ 4 * d + 2 → n - a < M → n - a < N → KP K KK W0.length N → (∀ a1 G1, f a G = .inr (a1, G1) → ∀ N1 s1 Gr Pm, n - a1 < N1 → G1 = Gr ++ emP Pm → Pm.length ≤ 1 → (∀ o, o ∈ Pm → 7 ≤ o ∧ o ≤ 9) → mop (sgn T n a1) = 0 → RX R0 b s1 a1 Gr (wtP Pm ++ (wtP Pa ++ (V ++ W0))) d → L8 K W0.length N1 s1) → (∀ e, f a G = .inl e → ∀ s1, FX R0 s1 e → K 0 s1) → RFl M s KK
def RSs (R0 : ST) (T : Nat → Nat) (n b : Nat) (f : PF) (d : Nat) : Prop := ∀ (K KK : Int32 → ST → Prop) (s : ST) (a : Nat) (G V W0 : List Pc) (M N : Nat), RX R0 b s a G (V ++ W0) d → 10 ≤ (tpI (V ++ W0)).toInt → a ≤ n → b + G.length ≤ a → (V ++ W0).length ≤ 4 * d + 2 → n - a < M → n - a < N → KP K KK W0.length N → (∀ a1 G1, f a G = .inr (a1, G1) → ∀ N1 s1 Gr P, n - a1 < N1 → G1 = Gr ++ emP P → P.length ≤ 2 → (∀ o, o ∈ P → 5 ≤ o ∧ o ≤ 9) → mop (sgn T n a1) = 0 → aop (sgn T n a1) = 0 → RX R0 b s1 a1 Gr (wtP P ++ (V ++ W0)) d → L8 K W0.length N1 s1) → (∀ e, f a G = .inl e → ∀ s1, FX R0 s1 e → K 0 s1) → RFl M s KK
section Rs
variable {R0 : ST} {T : Nat → Nat} {n b : Nat}
theorem rf_fac {e d : Nat} {inner : PF} (hT : TR R0 T n) (hd : e + d = 6) (hi : ¬ e = 0 → RSs R0 T n b inner (d + 1)) (gi : ¬ e = 0 → GP n inner) : RFs R0 n b (pFac (sgn T n) e inner) d := by
  intro K KK s a G V W0 M N h ha hb hW hM hN hK hok hbad
  obtain ⟨k1, k0⟩ := hK
  have hn := hT.1
  obtain ⟨M, rfl⟩ : ∃ i, M = i + 1 := ⟨M - 1, by omega⟩
  unfold RFl
  rw [w_213_L0, w202v hT h ha]
  have hl := sgr_le hT (a := a)
  by_cases c : sgn T n a = 91
  · have hal := sgr_in (T := T) (n := n) (a := a) (by omega)
    have ef : pFac (sgn T n) e inner a G = (if e = 0 then .inl (5, a) else pb (inner (a + 1) G) (fun a1 G1 => if sgn T n a1 = 93 then .inr (a1 + 1, G1) else .inl (1, a1))) := if_pos c
    refine br_f (fun z => z (sg_y 91 c (by omega))) (mp_208 (p := 14) h (by omega) (by omega) (by omega) ?_ ?_)
    · intro d6 s1 h1
      have e0 : ¬ e = 0 := by omega
      rw [ef, if_neg e0] at hok hbad
      have hlW : ((14, 0) :: V ++ W0 : List Pc).length ≤ 4 * (d + 1) + 2 := by
        show (V ++ W0).length + 1 ≤ _
        omega
      refine br_t (by decide) (hi e0 K KK s1 (a + 1) G ((14, 0) :: V) W0 M N h1 (by show 10 ≤ (nI 14).toInt; decide) (by omega) (by omega) hlW (by omega) (by omega) ⟨k1, k0⟩ ?_ ?_)
      · intro a1 G1 er N1 s2 Gr P hN1 eG hP1 hP2 m0 p0 h2
        rw [er] at hok hbad
        have hok : ∀ a2 G2, (if sgn T n a1 = 93 then (.inr (a1 + 1, G1) : Prs) else .inl (1, a1)) = .inr (a2, G2) → ∀ N1 s1, n - a2 < N1 → RX R0 b s1 a2 G2 (V ++ W0) d → L8 K W0.length N1 s1 := hok
        have hbad : ∀ x, (if sgn T n a1 = 93 then (.inr (a1 + 1, G1) : Prs) else .inl (1, a1)) = .inl x → ∀ s1, FX R0 s1 x → K 0 s1 := hbad
        have g := gi e0 _ _ _ _ er
        have hl1 := sgr_le hT (a := a1)
        have eL : G1.length = Gr.length + P.length := by rw [eG, List.length_append, emP_len]
        obtain ⟨N1, rfl⟩ : ∃ i, N1 = i + 1 := ⟨N1 - 1, by omega⟩
        have h2' : RX R0 b s2 a1 Gr ((wtP P ++ (14, 0) :: V) ++ W0) (d + 1) := by
          rw [List.append_assoc]
          exact h2
        have hlen : ((wtP P ++ (14, 0) :: V) ++ W0).length ≤ 180 := by
          rw [List.append_assoc, List.length_append, wtP_len]
          show P.length + ((14, 0) :: V ++ W0 : List Pc).length ≤ 180
          omega
        have h14 : ∃ v, v ∈ (wtP P ++ (14, 0) :: V) ∧ v.1 = 14 := ⟨(14, 0), List.mem_append_right _ List.mem_cons_self, rfl⟩
        unfold L8
        rw [w_215_L8, w202v hT h2 (by omega), w211n hl1 m0 p0]
        refine br_t rfl ?_
        rw [w202v hT h2 (by omega)]
        by_cases c2 : sgn T n a1 = 93
        · rw [if_pos c2] at hok
          have hal1 := sgr_in (T := T) (n := n) (a := a1) (by omega)
          refine br_f (fun z => z (sg_y 93 c2 (by omega))) (mp_214 h2' hlen (fun _ => br_f (by decide) ?_) (fun z => absurd h14 z))
          unfold w_212
          refine ⟨P.length + 1, l_212 (al := true) (W := (14, 0) :: (V ++ W0)) rfl (Or.inr (Or.inl (by show 7 ≤ (nI 14).toInt; decide))) (by show (V ++ W0).length + 1 + 2 ≤ 180; omega) (P.length + 1) P Gr s2 (by omega) hP1 h2 (fun o ho => Or.inr ⟨rfl, hP2 o ho⟩) (by omega) ?_⟩
          intro s3 h3
          rw [← eG] at h3
          exact hok _ _ rfl N1 _ (by omega) (RX_adv (RX_pop2 h3))
        · refine br_t (sg_n 93 c2 hl1 (by omega)) ?_
          unfold xx78
          refine mp_214 h2' hlen (fun _ => br_f (by decide) ?_) (fun z => absurd h14 z)
          rw [h2.2.1]
          exact mp_204 1 a1 h2.1 (fun s3 fx => hbad (1, a1) (if_neg c2) s3 fx)
      · intro x er s2 fx
        rw [er] at hbad
        exact hbad x rfl s2 fx
    · intro d6 s1 fx
      have e0 : e = 0 := by omega
      rw [ef, if_pos e0] at hbad
      exact br_f (fun z => z rfl) (k0 s1 (hbad _ rfl s1 fx))
  · refine br_t (sg_n 91 c hl (by omega)) (mp_rf hT h ha hb c (fun a1 G1 er s1 h1 => k1 s1 (hok a1 G1 er N s1 ?_ h1)) (fun x er s1 fx => k0 s1 (hbad x er s1 fx)))
    have g := GP_fac (sg := sgn T n) (fun _ h => sgn_out h) gi _ _ _ _ er
    omega
/-- an operation is taken, and what stands behind it is read -/
theorem push_go {o d a N1 : Nat} {G W : List Pc} {s : ST} {K : Int32 → ST → Prop} {base : Nat} (h : RX R0 b s a G W d) (ho : 5 ≤ o ∧ o ≤ 9) (hW : W.length < 180) (k : ∀ s1, RX R0 b s1 (a + 1) G ((mpo o, 0) :: W) d → ∃ M, RFl M s1 (fun r16 s15 => ((¬ r16 = 0 → L8 K base N1 s15) ∧ (¬ (¬ r16 = 0) → K 0 s15)))) : (pin (s.1 5531) 180 = true ∧ w_213 (sA (sI (sI s 5531 ((s.1 5531) + (1 : Int32))) 5526 ((s.1 5526) + (1 : Int32))) 77 (upd (s.2.1 77) ((s.1 5531)).toNatClampNeg ((16777216 : Int32) * nI (o - 3)))) (fun r16 s15 => ((¬ r16 = 0 → w_215_L8 N1 (nI base) s15 (xx78 K) (fun s28 => K (0 : Int32) s28) K) ∧ (¬ (¬ r16 = 0) → (fun s28 => K (0 : Int32) s28) s15)))) := by
  have em : o - 3 = mpo o := (mpo_s ho.1).symm
  have e : (16777216 : Int32) * nI (o - 3) = nI (16777216 * mpo o + 0) := by rw [em, show (16777216 : Int32) = nI 16777216 from rfl, pk_mul, Nat.add_zero]
  have hp := RX_push (w := (mpo o, 0)) h ⟨by show mpo o ≤ 14; omega, by show 0 < 180; omega⟩
  rw [e, h.2.1, h.2.2.2.1, nI_1, nI_1, nI_clamp (by omega)]
  exact ⟨pin_nI hW (by omega), k _ hp⟩
theorem KP_std {K : Int32 → ST → Prop} {base N : Nat} : KP K (fun r16 s15 => ((¬ r16 = 0 → L8 K base N s15) ∧ (¬ (¬ r16 = 0) → K 0 s15))) base N := ⟨fun _ h => br_t (by decide) h, fun _ k => br_f (fun z => z rfl) k⟩
theorem l_tm {d : Nat} {fa : PF} {K : Int32 → ST → Prop} {Pa : List Nat} {V W0 : List Pc} (hT : TR R0 T n) (hd : d ≤ 6) (hg : GP n fa) (hf : RFs R0 n b fa d) (hPa : Pa.length ≤ 1) (hPo : ∀ o, o ∈ Pa → 5 ≤ o ∧ o ≤ 6) (ht : 10 ≤ (tpI (V ++ W0)).toInt) (hW : (V ++ W0).length ≤ 4 * d + 2) : ∀ (j a : Nat) (Gr : List Pc) (Pm : List Nat) (N1 : Nat) (s : ST), n - a < j → n - a < N1 → a ≤ n → b + Gr.length + Pm.length ≤ a → Pm.length ≤ 1 → (∀ o, o ∈ Pm → 7 ≤ o ∧ o ≤ 9) → RX R0 b s a Gr (wtP Pm ++ (wtP Pa ++ (V ++ W0))) d → (∀ a1 G1, pBL (sgn T n) mop fa j a (Gr ++ emP Pm) = .inr (a1, G1) → ∀ N1 s1 Gr Pm, n - a1 < N1 → G1 = Gr ++ emP Pm → Pm.length ≤ 1 → (∀ o, o ∈ Pm → 7 ≤ o ∧ o ≤ 9) → mop (sgn T n a1) = 0 → RX R0 b s1 a1 Gr (wtP Pm ++ (wtP Pa ++ (V ++ W0))) d → L8 K W0.length N1 s1) → (∀ e, pBL (sgn T n) mop fa j a (Gr ++ emP Pm) = .inl e → ∀ s1, FX R0 s1 e → K 0 s1) → L8 K W0.length N1 s := by
  have hn := hT.1
  intro j
  induction j with
  | zero => intro a Gr Pm N1 s z; omega
  | succ j ih =>
    intro a Gr Pm N1 s hj hN ha hb hP hPm h hok hbad
    unfold pBL at hok hbad
    by_cases m : mop (sgn T n a) = 0
    · rw [if_pos m] at hok
      exact hok a _ rfl N1 s Gr Pm hN rfl hP hPm m h
    · rw [if_neg m] at hok hbad
      obtain ⟨mx, m1, m2⟩ := mop_v m
      have hal := sgr_in (T := T) (n := n) (a := a) (fun z => m (by rw [z]; rfl))
      obtain ⟨N1, rfl⟩ : ∃ i, N1 = i + 1 := ⟨N1 - 1, by omega⟩
      have lW1 : (wtP Pa ++ (V ++ W0)).length ≤ 4 * d + 3 := by rw [List.length_append, wtP_len]; omega
      unfold L8
      rw [w_215_L8, w202v hT h ha]
      refine mp_211m m (br_f (nI_nm1 (by omega)) (br_t (by rw [show (4 : Int32) = nI 4 from rfl, nI_leI (by omega) (by omega)]; omega) ?_))
      unfold w_212
      refine ⟨Pm.length + 1, l_212 (al := false) (W := wtP Pa ++ (V ++ W0)) rfl ?_ (by omega) (Pm.length + 1) Pm Gr s (by omega) (by omega) h (fun o ho => Or.inl (hPm o ho)) (by omega) ?_⟩
      · cases Pa with
        | nil => right; left; show 7 ≤ (tpI (V ++ W0)).toInt; omega
        | cons o Pa =>
          right; right
          have ho := hPo o List.mem_cons_self
          refine ⟨rfl, ?_⟩
          show (nI (mpo o)).toInt < 4
          rw [mpo_s (by omega), nI_toInt (by omega)]
          omega
      · intro s1 h1
        have lG : (Gr ++ emP Pm).length = Gr.length + Pm.length := by rw [List.length_append, emP_len]
        refine push_go h1 (by omega) (by omega) (fun s2 h2 => ⟨n + 1, ?_⟩)
        have h2' : RX R0 b s2 (a + 1) (Gr ++ emP Pm) (((mpo (mop (sgn T n a)), 0) :: (wtP Pa ++ V)) ++ W0) d := by
          rw [List.cons_append, List.append_assoc]
          exact h2
        have eW : (((mpo (mop (sgn T n a)), 0) :: (wtP Pa ++ V)) ++ W0 : List Pc) = (mpo (mop (sgn T n a)), 0) :: (wtP Pa ++ (V ++ W0)) := by rw [List.cons_append, List.append_assoc]
        refine hf K _ s2 (a + 1) (Gr ++ emP Pm) _ W0 (n + 1) N1 h2' (by omega) (by omega) (by rw [eW]; show (wtP Pa ++ (V ++ W0)).length + 1 ≤ _; omega) (by omega) (by omega) KP_std ?_ ?_
        · intro a2 G2 er N2 s3 hN2 h3
          rw [er] at hok hbad
          rw [eW] at h3
          have g := hg _ _ _ _ er
          exact ih a2 G2 [mop (sgn T n a)] N2 s3 (by omega) hN2 (by omega) (by show b + G2.length + 1 ≤ a2; omega) (by show 1 ≤ 1; omega) (fun o ho => by rw [List.mem_singleton.mp ho]; omega) h3 hok hbad
        · intro x er s3 fx
          rw [er] at hbad
          exact hbad x rfl s3 fx
theorem rf_tm {d : Nat} {fa : PF} (hT : TR R0 T n) (hd : d ≤ 6) (hg : GP n fa) (hf : RFs R0 n b fa d) : RTs R0 T n b (pTm (sgn T n) n fa) d := by
  intro K KK s a G Pa V W0 M N h hPa hPo ht ha hb hW hM hN hK hok hbad
  unfold pTm at hok hbad
  have h' : RX R0 b s a G ((wtP Pa ++ V) ++ W0) d := by rw [List.append_assoc]; exact h
  refine hf K KK s a G (wtP Pa ++ V) W0 M N h' ha hb (by rw [List.append_assoc, List.length_append, wtP_len]; omega) hM hN hK ?_ ?_
  · intro a1 G1 er N1 s1 hN1 h1
    rw [er] at hok hbad
    rw [List.append_assoc] at h1
    have g := hg _ _ _ _ er
    refine l_tm hT hd hg hf hPa hPo ht hW (n + 1) a1 G1 [] N1 s1 (by omega) hN1 (by omega) (by show b + G1.length + 0 ≤ a1; omega) (by show 0 ≤ 1; omega) (fun o ho => absurd ho List.not_mem_nil) h1 ?_ ?_
    · rw [show G1 ++ emP [] = G1 from List.append_nil G1]
      exact hok
    · rw [show G1 ++ emP [] = G1 from List.append_nil G1]
      exact hbad
  · intro x er s1 fx
    rw [er] at hbad
    exact hbad x rfl s1 fx
theorem wtP_app {P Q : List Nat} {W : List Pc} : wtP (P ++ Q) ++ W = wtP P ++ (wtP Q ++ W) := by
  unfold wtP
  rw [List.map_append, List.append_assoc]
theorem l_sm {d : Nat} {tm : PF} {K : Int32 → ST → Prop} {V W0 : List Pc} (hT : TR R0 T n) (hd : d ≤ 6) (hg : GP n tm) (hf : RTs R0 T n b tm d) (ht : 10 ≤ (tpI (V ++ W0)).toInt) (hW : (V ++ W0).length ≤ 4 * d + 2) : ∀ (j a : Nat) (Gr : List Pc) (P : List Nat) (N1 : Nat) (s : ST), n - a < j → n - a < N1 → a ≤ n → b + Gr.length + P.length ≤ a → P.length ≤ 2 → (∀ o, o ∈ P → 5 ≤ o ∧ o ≤ 9) → mop (sgn T n a) = 0 → RX R0 b s a Gr (wtP P ++ (V ++ W0)) d → (∀ a1 G1, pBL (sgn T n) aop tm j a (Gr ++ emP P) = .inr (a1, G1) → ∀ N1 s1 Gr P, n - a1 < N1 → G1 = Gr ++ emP P → P.length ≤ 2 → (∀ o, o ∈ P → 5 ≤ o ∧ o ≤ 9) → mop (sgn T n a1) = 0 → aop (sgn T n a1) = 0 → RX R0 b s1 a1 Gr (wtP P ++ (V ++ W0)) d → L8 K W0.length N1 s1) → (∀ e, pBL (sgn T n) aop tm j a (Gr ++ emP P) = .inl e → ∀ s1, FX R0 s1 e → K 0 s1) → L8 K W0.length N1 s := by
  have hn := hT.1
  intro j
  induction j with
  | zero => intro a Gr P N1 s z; omega
  | succ j ih =>
    intro a Gr P N1 s hj hN ha hb hP hPo m0 h hok hbad
    unfold pBL at hok hbad
    by_cases m : aop (sgn T n a) = 0
    · rw [if_pos m] at hok
      exact hok a _ rfl N1 s Gr P hN rfl hP hPo m0 m h
    · rw [if_neg m] at hok hbad
      obtain ⟨mx, m1, m2⟩ := aop_v m
      have hal := sgr_in (T := T) (n := n) (a := a) (fun z => m (by rw [z]; rfl))
      obtain ⟨N1, rfl⟩ : ∃ i, N1 = i + 1 := ⟨N1 - 1, by omega⟩
      unfold L8
      rw [w_215_L8, w202v hT h ha]
      refine mp_211a m (br_f (nI_nm1 (by omega)) (br_f (by rw [show (4 : Int32) = nI 4 from rfl, nI_leI (by omega) (by omega)]; omega) ?_))
      unfold w_212
      refine ⟨P.length + 1, l_212 (al := true) (W := V ++ W0) rfl (Or.inr (Or.inl (by omega))) (by omega) (P.length + 1) P Gr s (by omega) (by omega) h (fun o ho => Or.inr ⟨rfl, hPo o ho⟩) (by omega) ?_⟩
      intro s1 h1
      have lG : (Gr ++ emP P).length = Gr.length + P.length := by rw [List.length_append, emP_len]
      refine push_go h1 (by omega) (by omega) (fun s2 h2 => ⟨n + 1, ?_⟩)
      refine hf K _ s2 (a + 1) (Gr ++ emP P) [aop (sgn T n a)] V W0 (n + 1) N1 h2 (by show 1 ≤ 1; omega) (fun o ho => by rw [List.mem_singleton.mp ho]; omega) ht (by omega) (by omega) hW (by omega) (by omega) KP_std ?_ ?_
      · intro a2 G2 er N2 s3 Gr2 Pm2 hN2 eG hPm1 hPm2 mz h3
        rw [er] at hok hbad
        have g := hg _ _ _ _ er
        have eL : G2.length = Gr2.length + Pm2.length := by rw [eG, List.length_append, emP_len]
        rw [← wtP_app] at h3
        have eE : Gr2 ++ emP (Pm2 ++ [aop (sgn T n a)]) = G2 ++ [(aop (sgn T n a), 0)] := by
          rw [eG, List.append_assoc]
          unfold emP
          rw [List.map_append]
          rfl
        refine ih a2 Gr2 (Pm2 ++ [aop (sgn T n a)]) N2 s3 (by omega) hN2 (by omega) ?_ ?_ ?_ mz h3 ?_ ?_
        · rw [List.length_append]; show b + Gr2.length + (Pm2.length + 1) ≤ a2; omega
        · rw [List.length_append]; show Pm2.length + 1 ≤ 2; omega
        · intro o ho
          rcases List.mem_append.mp ho with z | z
          · have := hPm2 o z; omega
          · rw [List.mem_singleton.mp z]; omega
        · rw [eE]; exact hok
        · rw [eE]; exact hbad
      · intro x er s3 fx
        rw [er] at hbad
        exact hbad x rfl s3 fx
theorem rf_sm {d : Nat} {fa : PF} (hT : TR R0 T n) (hd : d ≤ 6) (hg : GP n fa) (hf : RFs R0 n b fa d) : RSs R0 T n b (pSm (sgn T n) n fa) d := by
  intro K KK s a G V W0 M N h ht ha hb hW hM hN hK hok hbad
  unfold pSm at hok hbad
  have tm := rf_tm (T := T) hT hd hg hf
  have gt := GP_tm (sg := sgn T n) (fun _ h => sgn_out h) hg
  refine tm K KK s a G [] V W0 M N h (by show 0 ≤ 1; omega) (fun o ho => absurd ho List.not_mem_nil) ht ha hb hW hM hN hK ?_ ?_
  · intro a1 G1 er N1 s1 Gr Pm hN1 eG hP1 hP2 mz h1
    rw [er] at hok hbad
    have g := gt _ _ _ _ er
    have eL : G1.length = Gr.length + Pm.length := by rw [eG, List.length_append, emP_len]
    refine l_sm hT hd gt tm ht hW (n + 1) a1 Gr Pm N1 s1 (by omega) hN1 (by omega) (by omega) (by omega) (fun o ho => by have := hP2 o ho; omega) mz h1 ?_ ?_
    · rw [← eG]; exact hok
    · rw [← eG]; exact hbad
  · intro x er s1 fx
    rw [er] at hbad
    exact hbad x rfl s1 fx
theorem rf_fu (hT : TR R0 T n) : ∀ (e d : Nat), e + d = 6 → RFs R0 n b (pFu (sgn T n) n e) d
  | 0, d, hd => rf_fac hT hd (fun z => absurd rfl z) (fun z => absurd rfl z)
  | e + 1, d, hd => rf_fac hT hd (fun _ => rf_sm hT (by omega) (GP_fu (fun _ h => sgn_out h) e) (rf_fu hT e (d + 1) (by omega))) (fun _ => GP_sm (fun _ h => sgn_out h) (GP_fu (fun _ h => sgn_out h) e))
end Rs
