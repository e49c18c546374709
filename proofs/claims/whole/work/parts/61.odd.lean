/-! ===== ways, odd ===== -/
theorem nI_s1t {n : Nat} (h : n < 1000000) : (nI n - 1).toInt = (n : Int) - 1 := by
  rw [t_sub (b := 1) (by rw [l_1, nI_toInt (by omega)]; omega) (by rw [l_1, nI_toInt (by omega)]; omega), l_1, nI_toInt (by omega)]
/-- there is something to count by, and not too much -/
def gd (D : ST) (a1 a2 a3 : Int32) (j : Nat) : Prop := (0 ≤ a1.toInt ∧ a1.toInt ≤ 15) ∧ (0 ≤ a2.toInt ∧ a2.toInt ≤ 3) ∧ (0 ≤ a3.toInt ∧ a3.toInt < nU D) ∧ fst D a3.toNatClampNeg j ∧ fcp D (D.1 5500) (pA D a2) (kL D (D.1 5500)).length ≤ 50
abbrev fqE : FS := ([800, 801], [9, 10, 11, 12, 13, 14, 15, 34], [17, 18], false, false)
theorem mp_155 {t : Nat} {s : ST} {a1 a2 a3 : Int32} {K : Int32 → ST → Prop} (hJ : J t s) (k0 : ∀ s1, Fr fqE s s1 → Jvie s1 → (∀ j, ¬ gd s a1 a2 a3 j) → K 0 s1) (k1 : ∀ s1 j, Fr fqE s s1 → Jvie s1 → gd s a1 a2 a3 j → c4N s a1 a2 a3.toNatClampNeg j (kL s (s.1 5500)).length (s1.2.1 34 0) (s1.2.1 34 1) (s1.2.1 34 2) (s1.2.1 34 3) → K 1 s1) : w_155 a1 a2 a3 s K := by
  have hB := J_Bk hJ
  obtain ⟨hnow, hhou, hrow, hord, hmen, htap, hthi, hjud, hask, hrea, hsca, hvie, hrul, hrnd, hroo⟩ := hJ
  have hU := hrul.2.2.1
  unfold w_155 w_297_R20
  simp only [e_183, t_183, e_181, t_181, l_0]
  rw [hrul.1, nI_s1t (by omega)]
  have e3 : (3 : Int32).toInt = 3 := rfl
  rw [e3]
  by_cases c1 : 0 ≤ a1.toInt ∧ a1.toInt ≤ 15
  · refine br_f (fun z => z c1) ?_
    by_cases c2 : 0 ≤ a2.toInt ∧ a2.toInt ≤ 3
    · refine br_f (fun z => z c2) ?_
      by_cases c3 : 0 ≤ a3.toInt ∧ a3.toInt ≤ (nU s : Int) - 1
      · refine br_t (fun z => z c3) ?_
        obtain ⟨r, hr, e⟩ := of_rng (x := a3) (n := nU s) c3.1 (by omega)
        have er : a3.toNatClampNeg = r := by rw [e, nI_clamp (by omega)]
        rw [er] at k1
        unfold gd at k0 k1
        rw [er] at k0 k1
        rw [e]
        refine mp_R20 hrul rfl rfl hr (fun y tx => ?_)
        have tx2 := tx
        obtain ⟨_, _, _, v, mc, b, cap, g, p1, _⟩ := tx2
        refine ⟨_, p1, _, p1, mp_109 tx (by omega) rfl ?_ ?_⟩
        · intro hn
          exact ⟨fun c z => (by cases z), fun _ => k0 s (fr_rfl _ _) hvie (fun j z => hn j z.2.2.2.1)⟩
        · intro j cl hf hcl
          refine ⟨fun c z => ?_, fun z => by cases z⟩
          cases z
          rw [hnow.1]
          refine mp_111 hB (fr_rfl _ _) hvie (fun s1 f1 vw jv => ?_)
          refine mp_302d (fun s2 f2 z2 => ?_)
          have h150 := kL_150 hB (t := s.1 5500)
          have u2 : s2.1 1600 = -1 := by rw [f2.1 1600 rfl, f1.1 1600 rfl]; exact hsca.1
          refine ⟨160, l_155 (hd := a1) (kd := a2) hB hf hcl (by omega) (VW_g f2 vw) u2 ?_ 160 0 s2 (by omega) (by omega) (fr_rfl _ _) ⟨z2 0 (by omega), z2 1 (by omega), z2 2 (by omega), z2 3 (by omega)⟩⟩
          intro s3 f3 hc
          have fE : Fr fqE s s3 := fr_tr (F := fqD) rfl (fr_tr (F := fq34) rfl (fr_tr (F := fqV) rfl (fr_rfl fqE s) f1) f2) f3
          have jv3 : Jvie s3 := Jvie_G f3 (Jvie_G f2 jv)
          have e2 : s3.2.1 34 2 = nI (fcp s (s.1 5500) (pA s a2) (kL s (s.1 5500)).length) := hc.2.2.1
          have hle := fcp_le (D := s) (t := s.1 5500) (p := pA s a2) (k := (kL s (s.1 5500)).length)
          refine ⟨rfl, ?_⟩
          show ((50 : Int32) < s3.2.1 34 2 → _) ∧ (¬ (50 : Int32) < s3.2.1 34 2 → _)
          have e50 : (50 : Int32) = nI 50 := rfl
          rw [e2, e50, nI_ltI (by omega) (by omega)]
          by_cases c5 : 50 < fcp s (s.1 5500) (pA s a2) (kL s (s.1 5500)).length
          · exact br_t c5 (k0 s3 fE jv3 (fun j2 z => by have := z.2.2.2.2; omega))
          · exact br_f c5 (k1 s3 j fE jv3 ⟨c1, c2, ⟨c3.1, by omega⟩, hf, by omega⟩ hc)
      · exact br_f (fun z => z c3) (k0 s (fr_rfl _ _) hvie (fun j z => c3 ⟨z.2.2.1.1, by have := z.2.2.1.2; omega⟩))
    · exact br_t c2 (k0 s (fr_rfl _ _) hvie (fun j z => c2 z.2.1))
  · exact br_t c1 (k0 s (fr_rfl _ _) hvie (fun j z => c1 z.1))
abbrev fqF : FS := ([5520, 5571, 5572, 5573, 5574], [72, 73, 74], [92, 93], false, false)
theorem mp_260 {D s : ST} {a1 a2 a3 : Int32} {K : Int32 → ST → Prop} (hB : Bk D) (hrul : Jrul D) (f : Fr fsS D s) (hu : s.1 5552 = -2) (k0 : ∀ s1, Fr fqF s s1 → (∀ j, ¬ gd D a1 a2 a3 j) → K 0 s1) (k1 : ∀ s1 j, Fr fqF s s1 → gd D a1 a2 a3 j → c4N D a1 a2 a3.toNatClampNeg j (kL D (D.1 5500)).length (s1.1 5573) (s1.1 5574) (s1.1 5571) (s1.1 5572) → K 1 s1) : w_260 a1 a2 a3 s K := by
  have hU := hrul.2.2.1
  have hC := Jrul_C hrul
  have e5541 : s.1 5541 = nI (nU D) := by rw [f.1 5541 rfl]; exact hrul.2.1
  unfold w_260
  simp only [e_191, t_191, e_186, t_186, l_0, e5541]
  rw [nI_s1t (by omega)]
  have e3 : (3 : Int32).toInt = 3 := rfl
  rw [e3]
  by_cases c1 : 0 ≤ a1.toInt ∧ a1.toInt < 16
  · refine br_f (fun z => z c1) ?_
    by_cases c2 : 0 ≤ a2.toInt ∧ a2.toInt ≤ 3
    · refine br_f (fun z => z c2) ?_
      by_cases c3 : 0 ≤ a3.toInt ∧ a3.toInt ≤ (nU D : Int) - 1
      · refine br_t (fun z => z c3) ?_
        obtain ⟨r, hr, e⟩ := of_rng (x := a3) (n := nU D) c3.1 (by omega)
        have er : a3.toNatClampNeg = r := by rw [e, nI_clamp (by omega)]
        rw [er] at k1
        unfold gd at k0 k1
        rw [er] at k0 k1
        rw [e, nI_clamp (by omega), f.2.1 86 rfl, (hC r hr).1]
        have hk10 := (hC r hr).2.2.1
        have e10 : (10 : Int32) * nI r = nI (10 * r + 0) := by
          show nI 10 * nI r = _
          rw [pk_mul]; rfl
        have e11 : nI (10 * r + 0) + nI (nK D r) = nI (10 * r + nK D r) := by rw [nI_add]; rfl
        rw [e10, e11]
        refine ⟨pin_nI (by omega) (by omega), nK D r + 1, l_260c hC hr hU (f.2.1 87 rfl) ?_ ?_ (nK D r) 0 (by omega) (fun i hi => absurd hi (Nat.not_lt_zero _))⟩
        · intro hn
          exact br_f (fun z => z rfl) (k0 s (fr_rfl _ _) (fun j z => hn j z.2.2.2.1))
        · intro j hf
          have hj := hf.1
          refine br_t (fun z => ?_) ?_
          · rw [nI_eq (by omega) (by omega)] at z; omega
          have k5500 : s.1 5500 = D.1 5500 := f.1 5500 rfl
          rw [k5500]
          refine mp_197 hB f (fun s1 f1 rw1 => ?_)
          have h150 := kL_150 hB (t := D.1 5500)
          have fS1 : Fr fsS D s1 := fr_tr (F := fq197) rfl f f1
          have f2 : Fr fqP s1 (sI (sI (sI (sI s1 5571 0) 5572 0) 5573 0) 5574 0) := fr_sI 5574 (fr_sI 5573 (fr_sI 5572 (fr_sI 5571 (fr_rfl _ s1))))
          refine ⟨160, l_260 (hd := a1) (kd := a2) hB hC hf hr hU (fr_tr (F := fqP) rfl fS1 f2) (RW_g f2 rw1) ?_ ?_ 160 0 _ (by omega) (by omega) (fr_rfl _ _) ⟨rfl, rfl, rfl, rfl⟩⟩
          · rw [f2.1 5552 rfl, f1.1 5552 rfl]; exact hu
          intro s3 f3 hc
          have fF : Fr fqF s s3 := fr_tr (F := fqP) rfl (fr_tr (F := fqP) rfl (fr_tr (F := fq197) rfl (fr_rfl fqF s) f1) f2) f3
          have e2 : s3.1 5571 = nI (fcp D (D.1 5500) (pA D a2) (kL D (D.1 5500)).length) := hc.2.2.1
          have hle := fcp_le (D := D) (t := D.1 5500) (p := pA D a2) (k := (kL D (D.1 5500)).length)
          have e50 : (50 : Int32) = nI 50 := rfl
          rw [e2, e50, nI_ltI (by omega) (by omega)]
          by_cases c5 : 50 < fcp D (D.1 5500) (pA D a2) (kL D (D.1 5500)).length
          · exact br_t c5 (k0 s3 fF (fun j2 z => by have := z.2.2.2.2; omega))
          · exact br_f c5 (k1 s3 j fF ⟨⟨c1.1, by omega⟩, c2, ⟨c3.1, by omega⟩, hf, by omega⟩ hc)
      · exact br_f (fun z => z c3) (k0 s (fr_rfl _ _) (fun j z => c3 ⟨z.2.2.1.1, by have := z.2.2.1.2; omega⟩))
    · exact br_t c2 (k0 s (fr_rfl _ _) (fun j z => c2 z.2.1))
  · exact br_t c1 (k0 s (fr_rfl _ _) (fun j z => c1 ⟨z.1.1, by have := z.1.2; omega⟩))
def rv (O P A M w : Nat) : Int64 := if w = 0 then wT O P A M else if w = 1 then lN (ch A O) else if w = 2 then lN O else if w = 3 then lN P else if w = 4 then lN A else lN M
theorem in_153 {O P A M : Nat} {s : ST} {K : Int64 → ST → Prop} (w : Nat) (hw : w < 6) (h0 : s.2.1 34 0 = nI O) (h1 : s.2.1 34 1 = nI P) (h2 : s.2.1 34 2 = nI A) (h3 : s.2.1 34 3 = nI M) (hP : P ≤ O) (hO : O ≤ 50) (hA : A ≤ 50) (hM : M ≤ A) (k : K (rv O P A M w) s) : ((nI w = (0 : Int32) → w_157 s (fun r6 s5 => K r6 s5)) ∧ (nI w = (1 : Int32) → (pin (2 : Int32) 4 = true ∧ (pin (0 : Int32) 4 = true ∧ w_158 ((s.2.1 34) ((2 : Int32)).toNatClampNeg) ((s.2.1 34) ((0 : Int32)).toNatClampNeg) s (fun r8 s7 => K r8 s7)))) ∧ (¬ nI w = (0 : Int32) → ¬ nI w = (1 : Int32) → (pin (nI w - (2 : Int32)) 4 = true ∧ K ((((s.2.1 34) ((nI w - (2 : Int32))).toNatClampNeg)).toInt64) s))) := by
  match w, hw with
  | 0, _ => exact ⟨fun _ => mp_157 h0 h1 h2 h3 hP hO hA hM k, fun z => absurd z (by decide), fun z => absurd rfl z⟩
  | 1, _ =>
    refine ⟨fun z => absurd z (by decide), fun _ => ⟨rfl, rfl, ?_⟩, fun _ z => absurd rfl z⟩
    show w_158 (s.2.1 34 2) (s.2.1 34 0) s _
    rw [h2, h0]
    exact mp_158 hA hO k
  | 2, _ =>
    refine ⟨fun z => absurd z (by decide), fun z => absurd z (by decide), fun _ _ => ⟨rfl, ?_⟩⟩
    show K ((s.2.1 34 0).toInt64) s
    rw [h0, nI_l (by omega)]
    exact k
  | 3, _ =>
    refine ⟨fun z => absurd z (by decide), fun z => absurd z (by decide), fun _ _ => ⟨rfl, ?_⟩⟩
    show K ((s.2.1 34 1).toInt64) s
    rw [h1, nI_l (by omega)]
    exact k
  | 4, _ =>
    refine ⟨fun z => absurd z (by decide), fun z => absurd z (by decide), fun _ _ => ⟨rfl, ?_⟩⟩
    show K ((s.2.1 34 2).toInt64) s
    rw [h2, nI_l (by omega)]
    exact k
  | 5, _ =>
    refine ⟨fun z => absurd z (by decide), fun z => absurd z (by decide), fun _ _ => ⟨rfl, ?_⟩⟩
    show K ((s.2.1 34 3).toInt64) s
    rw [h3, nI_l (by omega)]
    exact k
  | n + 6, h => omega
theorem in_262 {O P A M : Nat} {s : ST} {K : Int64 → ST → Prop} (w : Nat) (hw : w < 6) (h0 : s.1 5573 = nI O) (h1 : s.1 5574 = nI P) (h2 : s.1 5571 = nI A) (h3 : s.1 5572 = nI M) (hP : P ≤ O) (hO : O ≤ 50) (hA : A ≤ 50) (hM : M ≤ A) (k : ∀ s1, Fr fq107 s s1 → K (rv O P A M w) s1) : (((nI w).toInt < 0 ∨ 4 < (nI w).toInt → K (((s.1 5572)).toInt64) s) ∧ (nI w = (0 : Int32) → w_261 s (fun r6 s5 => K r6 s5)) ∧ (nI w = (1 : Int32) → w_259 s (fun s7 => (pin (((51 : Int32) * (s7.1 5571)) + (s7.1 5573)) 2601 = true ∧ K ((s7.2.2.1 107) ((((51 : Int32) * (s7.1 5571)) + (s7.1 5573))).toNatClampNeg) s7))) ∧ (nI w = (2 : Int32) → K (((s.1 5573)).toInt64) s) ∧ (nI w = (3 : Int32) → K (((s.1 5574)).toInt64) s) ∧ (nI w = (4 : Int32) → K (((s.1 5571)).toInt64) s)) := by
  have kk := k s (fr_rfl _ _)
  rw [nI_toInt (by omega), h0, h1, h2, h3, nI_l (by omega), nI_l (by omega), nI_l (by omega), nI_l (by omega)]
  match w, hw with
  | 0, _ =>
    refine ⟨fun z => by omega, fun _ => mp_261 h0 h1 h2 h3 hP hO hA hM (fun s1 f1 _ => k s1 f1), fun z => absurd z (by decide), fun z => absurd z (by decide), fun z => absurd z (by decide), fun z => absurd z (by decide)⟩
  | 1, _ =>
    refine ⟨fun z => by omega, fun z => absurd z (by decide), fun _ => mp_259 (fun s1 f1 hc => ?_), fun z => absurd z (by decide), fun z => absurd z (by decide), fun z => absurd z (by decide)⟩
    rw [f1.1 5571 rfl, f1.1 5573 rfl, h2, h0, ix51, nI_clamp (by omega), hc A O hA hO]
    exact ⟨pin_nI (by omega) (by omega), k s1 f1⟩
  | 2, _ => exact ⟨fun z => by omega, fun z => absurd z (by decide), fun z => absurd z (by decide), fun _ => kk, fun z => absurd z (by decide), fun z => absurd z (by decide)⟩
  | 3, _ => exact ⟨fun z => by omega, fun z => absurd z (by decide), fun z => absurd z (by decide), fun z => absurd z (by decide), fun _ => kk, fun z => absurd z (by decide)⟩
  | 4, _ => exact ⟨fun z => by omega, fun z => absurd z (by decide), fun z => absurd z (by decide), fun z => absurd z (by decide), fun z => absurd z (by decide), fun _ => kk⟩
  | 5, _ => exact ⟨fun _ => kk, fun z => absurd z (by decide), fun z => absurd z (by decide), fun z => absurd z (by decide), fun z => absurd z (by decide), fun z => absurd z (by decide)⟩
  | n + 6, h => omega
theorem c4_b {D : ST} {a1 a2 : Int32} {r j : Nat} (h : fcp D (D.1 5500) (pA D a2) (kL D (D.1 5500)).length ≤ 50) : fcp D (D.1 5500) (pOM D a1 a2 r j) (kL D (D.1 5500)).length ≤ fcp D (D.1 5500) (pO D a1 a2) (kL D (D.1 5500)).length ∧ fcp D (D.1 5500) (pO D a1 a2) (kL D (D.1 5500)).length ≤ 50 ∧ fcp D (D.1 5500) (pM D a2 r j) (kL D (D.1 5500)).length ≤ fcp D (D.1 5500) (pA D a2) (kL D (D.1 5500)).length := by
  have m1 : fcp D (D.1 5500) (pOM D a1 a2 r j) (kL D (D.1 5500)).length ≤ fcp D (D.1 5500) (pO D a1 a2) (kL D (D.1 5500)).length := fcp_mono (fun x z => (Bool.and_eq_true_iff.mp z).1)
  have m2 : fcp D (D.1 5500) (pO D a1 a2) (kL D (D.1 5500)).length ≤ fcp D (D.1 5500) (pA D a2) (kL D (D.1 5500)).length := fcp_mono (fun x z => (Bool.and_eq_true_iff.mp z).1)
  have m3 : fcp D (D.1 5500) (pM D a2 r j) (kL D (D.1 5500)).length ≤ fcp D (D.1 5500) (pA D a2) (kL D (D.1 5500)).length := fcp_mono (fun x z => (Bool.and_eq_true_iff.mp z).1)
  exact ⟨m1, by omega, m3⟩
theorem lgc {a : Int64} : lg_cmp a a = 0 := by
  unfold lg_cmp
  simp
theorem sp_18 {t : Nat} {s : ST} {X F : ST → Prop} (a1 : Int32) (a2 : Int32) (a3 : Int32) (a4 : Int32) (h : J t s) (hX : ∀ s1, J (t + 1) s1 → X s1) : st_18 a1 a2 a3 a4 s X F := by
  have hB := J_Bk h
  have hrul := J_rul h
  have hsca := J_sca h
  have hvie : Jvie s := by
    obtain ⟨hnow, hhou, hrow, hord, hmen, htap, hthi, hjud, hask, hrea, hsca, hvie, hrul, hrnd, hroo⟩ := h
    exact hvie
  have e5 : (5 : Int32).toInt = 5 := rfl
  unfold st_18 w_153 w_262
  simp only [e_181, t_181, e_186, t_186, l_0, e5]
  by_cases c : 0 ≤ a4.toInt ∧ a4.toInt ≤ 5
  · refine br_f (fun z => z c) ?_
    obtain ⟨w, hw, rfl⟩ := of_rng (x := a4) (n := 6) c.1 (by omega)
    have jj : ∀ s1 s2, Fr fqE s s1 → Jvie s1 → Fr ([5520, 5571, 5572, 5573, 5574], [72, 73, 74], [92, 93, 107], false, false) s1 s2 → X s2 := by
      intro s1 s2 f1 jv f2
      have fQ : Fr fsQ s s2 := fr_tr (F := ([5520, 5571, 5572, 5573, 5574], [72, 73, 74], [92, 93, 107], false, false)) rfl (fr_weak rfl f1) f2
      exact hX _ (J_Q fQ h (Jvie_G f2 jv))
    refine mp_155 h ?_ ?_
    · intro s1 f1 jv hn
      refine br_f (fun z => z rfl) ?_
      refine br_f (fun z => z c) ?_
      refine mp_260 hB hrul (fr_weak rfl f1) (by rw [f1.1 5552 rfl]; exact hsca.2) ?_ ?_
      · intro s2 f2 _
        exact br_f (fun z => z rfl) (br_t lgc (jj s1 s2 f1 jv (fr_weak rfl f2)))
      · intro s2 j f2 hg
        exact absurd hg (hn j)
    · intro s1 j f1 jv hg hc
      have hA := hg.2.2.2.2
      obtain ⟨b1, b2, b3⟩ := c4_b (a1 := a1) (r := a3.toNatClampNeg) (j := j) hA
      refine br_t (by decide) ?_
      refine in_153 w hw hc.1 hc.2.1 hc.2.2.1 hc.2.2.2 b1 b2 hA b3 ?_
      refine br_f (fun z => z c) ?_
      refine mp_260 hB hrul (fr_weak rfl f1) (by rw [f1.1 5552 rfl]; exact hsca.2) ?_ ?_
      · intro s2 f2 hn
        exact absurd hg (hn j)
      · intro s2 j2 f2 hg2 hc2
        have : j = j2 := fst_u hg.2.2.2.1 hg2.2.2.2.1
        subst this
        refine br_t (by decide) ?_
        refine in_262 (K := fun r4 s3 => ((lg_cmp (rv _ _ _ _ w) r4) = 0 → X s3) ∧ (¬ ((lg_cmp (rv _ _ _ _ w) r4) = 0) → F s3)) w hw hc2.1 hc2.2.1 hc2.2.2.1 hc2.2.2.2 b1 b2 hA b3 ?_
        intro s3 f3
        exact br_t lgc (jj s1 s3 f1 jv (fr_tr (F := fq107) rfl (fr_weak rfl f2) f3))
  · exact br_t c (br_t c (br_t lgc (hX _ (J_s h))))
theorem sp_19 {t : Nat} {s : ST} {X F : ST → Prop} (a1 : Int32) (a2 : Int32) (a3 : Int32) (a4 : Int32) (h : J t s) (hX : ∀ s1, J (t + 1) s1 → X s1) : st_19 a1 a2 a3 a4 s X F := by
  have hB := J_Bk h
  have hrul := J_rul h
  have hsca := J_sca h
  have e5 : (1000 : Int32).toInt = 1000 := rfl
  unfold st_19 w_154 w_263
  simp only [e_181, t_181, e_186, t_186, l_0, e5]
  by_cases c : 0 ≤ a4.toInt ∧ a4.toInt ≤ 1000
  · refine br_f (fun z => z c) ?_
    have jj : ∀ s1 s2, Fr fqE s s1 → Jvie s1 → Fr ([5520, 5571, 5572, 5573, 5574], [72, 73, 74], [92, 93, 107], false, false) s1 s2 → X s2 := by
      intro s1 s2 f1 jv f2
      have fQ : Fr fsQ s s2 := fr_tr (F := ([5520, 5571, 5572, 5573, 5574], [72, 73, 74], [92, 93, 107], false, false)) rfl (fr_weak rfl f1) f2
      exact hX _ (J_Q fQ h (Jvie_G f2 jv))
    refine mp_155 h ?_ ?_
    · intro s1 f1 jv hn
      refine br_f (fun z => z rfl) ?_
      refine br_f (fun z => z c) ?_
      refine mp_260 hB hrul (fr_weak rfl f1) (by rw [f1.1 5552 rfl]; exact hsca.2) ?_ ?_
      · intro s2 f2 _
        exact br_f (fun z => z rfl) (br_t (by trivial) (jj s1 s2 f1 jv (fr_weak rfl f2)))
      · intro s2 j f2 hg
        exact absurd hg (hn j)
    · intro s1 j f1 jv hg hc
      have hA := hg.2.2.2.2
      obtain ⟨b1, b2, b3⟩ := c4_b (a1 := a1) (r := a3.toNatClampNeg) (j := j) hA
      have go : ∀ y : Int32, (y = if 0 < lg_cmp (wT (fcp s (s.1 5500) (pO s a1 a2) (kL s (s.1 5500)).length) (fcp s (s.1 5500) (pOM s a1 a2 a3.toNatClampNeg j) (kL s (s.1 5500)).length) (fcp s (s.1 5500) (pA s a2) (kL s (s.1 5500)).length) (fcp s (s.1 5500) (pM s a2 a3.toNatClampNeg j) (kL s (s.1 5500)).length) * 1000) (lN (ch (fcp s (s.1 5500) (pA s a2) (kL s (s.1 5500)).length) (fcp s (s.1 5500) (pO s a1 a2) (kL s (s.1 5500)).length)) * a4.toInt64) then 0 else 1) → w_260 a1 a2 a3 s1 (fun r4 s3 => ((¬ r4 = 0 → w_261 s3 (fun r6 s5 => (pin (((51 : Int32) * (s5.1 5571)) + (s5.1 5573)) 2601 = true ∧ ((0 < (lg_cmp (r6 * (1000 : Int64)) (((s5.2.2.1 107) ((((51 : Int32) * (s5.1 5571)) + (s5.1 5573))).toNatClampNeg) * ((a4).toInt64))) → ((y = 0 → X s5) ∧ (¬ y = 0 → F s5))) ∧ (¬ (0 < (lg_cmp (r6 * (1000 : Int64)) (((s5.2.2.1 107) ((((51 : Int32) * (s5.1 5571)) + (s5.1 5573))).toNatClampNeg) * ((a4).toInt64)))) → ((y = 1 → X s5) ∧ (¬ y = 1 → F s5))))))) ∧ (¬ (¬ r4 = 0) → ((y = -1 → X s3) ∧ (¬ y = -1 → F s3))))) := by
        intro y hy
        refine mp_260 hB hrul (fr_weak rfl f1) (by rw [f1.1 5552 rfl]; exact hsca.2) ?_ ?_
        · intro s2 f2 hn
          exact absurd hg (hn j)
        · intro s2 j2 f2 hg2 hc2
          have : j = j2 := fst_u hg.2.2.2.1 hg2.2.2.2.1
          subst this
          refine br_t (by decide) ?_
          refine mp_261 hc2.1 hc2.2.1 hc2.2.2.1 hc2.2.2.2 b1 b2 hA b3 ?_
          intro s3 f3 hch
          have x3 := jj s1 s3 f1 jv (fr_tr (F := fq107) rfl (fr_weak rfl f2) f3)
          rw [f3.1 5571 rfl, f3.1 5573 rfl, hc2.2.2.1, hc2.1, ix51, nI_clamp (by omega), hch _ _ hA b2]
          refine ⟨pin_nI (by omega) (by omega), ?_⟩
          split at hy
          · rename_i q
            exact br_t q (br_t hy x3)
          · rename_i q
            exact br_f q (br_t hy x3)
      refine br_t (by decide) ?_
      refine mp_157 hc.1 hc.2.1 hc.2.2.1 hc.2.2.2 b1 b2 hA b3 ⟨rfl, rfl, ?_⟩
      show w_158 (s1.2.1 34 2) (s1.2.1 34 0) s1 _
      rw [hc.2.2.1, hc.1]
      refine mp_158 hA b2 ?_
      refine ⟨fun q => br_f (fun z => z c) ?_, fun q => br_f (fun z => z c) ?_⟩
      · have g := go 0 (by rw [if_pos q])
        simp only [] at g
        exact g
      · have g := go 1 (by rw [if_neg q])
        simp only [] at g
        exact g
  · exact br_t c (br_t c (br_t (by trivial) (hX _ (J_s h))))
