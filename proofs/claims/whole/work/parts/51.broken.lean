/-! ===== the reference's brokenBy ===== -/
abbrev fq94 : FS := ([], [94], [], false, false)
def SkR (g : Nat → Int32) (S : Nat → Bool) : Prop := ∀ x, x < 200 → (g x = 0 ↔ S x = false)
theorem l_234z {D : ST} {x1 : Int32} {X : Int32 → ST → Prop} {K : ST → Prop} (hX : ∀ s, Fr fq94 D s → (∀ i, i < 200 → s.2.1 94 i = 0) → X x1 s) : ∀ n k s, k ≤ 200 → 200 - k < n → Fr fq94 D s → (∀ i, i < k → s.2.1 94 i = 0) → w_234_L2 n x1 (nI k) s X K := by
  intro n
  induction n with
  | zero => intro k s _ z; omega
  | succ n ih =>
    intro k s hk hn f hs
    have e200 : (200 : Int32) = nI 200 := rfl
    rw [w_234_L2]
    rw [e200, nI_leI (by omega) (by omega), nar0]
    by_cases c : 200 ≤ k
    · exact br_t c (hX s f (fun i hi => hs i (by omega)))
    refine br_f c ⟨pin_nI (by omega) (by omega), ?_⟩
    rw [nI_clamp (by omega), nI_1]
    refine ih (k + 1) _ (by omega) (by omega) (fr_sA 94 f) ?_
    intro i hi
    show upd (s.2.1 94) k 0 i = 0
    by_cases e : i = k
    · subst e; exact pk_us
    · rw [pk_un e]; exact hs i (by omega)
theorem w233 {D s : ST} {i : Nat} {day : Int32} {K : Int32 → ST → Prop} (h84 : s.2.1 84 = D.2.1 84) (h85 : s.2.1 85 = D.2.1 85) (hi : i < 20) (k1 : inF D i day = true → ∀ r : Int32, ¬ r = 0 → K r s) (k0 : ¬ inF D i day = true → K 0 s) : w_233 (nI i) day s K := by
  have p := pin_nI hi (show 20 < 2 ^ 31 by omega)
  unfold w_233
  refine ⟨p, p, ?_⟩
  rw [e_186, nI_clamp (by omega), h84, h85]
  by_cases c : inF D i day = true
  · refine k1 c _ (fun z => (t_186.mp z) ?_)
    unfold inF at c
    exact of_decide_eq_true c
  · have z : v_186 day (D.2.1 84 i) (D.2.1 85 i) s = 0 := t_186.mpr (fun y => c (decide_eq_true y))
    rw [z]
    exact k0 c
theorem ix10 {i j : Nat} (hi : i < 26) (hj : j < 10) : (10 : Int32) * nI i + nI j = nI (10 * i + j) := by
  have e : (10 : Int32) = nI 10 := rfl
  rw [e, pk_mul, nI_add]
theorem l_234j {D S0 : ST} {day : Int32} {i : Nat} {S : Nat → Bool} {X : Int32 → Int32 → ST → Prop} {K : ST → Prop} (hJ : Jrul D) (f0 : Fr fsS D S0) (hi : i < nU D) (hX : ∀ s, Fr fq94 S0 s → SkR (s.2.1 94) (if inF D i day = true then skc D day i S (nK D i) else S) → X day (nI i) s) : ∀ n j s, j ≤ nK D i → nK D i - j < n → Fr fq94 S0 s → SkR (s.2.1 94) (if inF D i day = true then skc D day i S j else S) → w_234_L21 n day (nI i) (nI j) s X K := by
  have hC := Jrul_C hJ
  have hU := hJ.2.2.1
  obtain ⟨c1, c2, c3, c4⟩ := hC i hi
  intro n
  induction n with
  | zero => intro j s _ z; omega
  | succ n ih =>
    intro j s hj hn f hs
    have fD : Fr fsS D s := fr_tr (F := fq94) rfl f0 f
    rw [w_234_L21, nI_clamp (show i < 2 ^ 31 by omega), fD.2.1 86 rfl, c1, nI_leI (by omega) (by omega)]
    refine ⟨pin_nI (by omega) (by omega), ?_⟩
    by_cases c : nK D i ≤ j
    · have : j = nK D i := by omega
      subst this
      exact br_t c (hX s f hs)
    refine br_f c ?_
    refine w233 (D := D) (fD.2.1 84 rfl) (fD.2.1 85 rfl) (by omega) (fun iF r3 hr3 => ?_) (fun iF => ?_)
    · refine br_f hr3 ?_
      rw [if_pos iF] at hs
      rw [ix10 (by omega) (by omega), nI_clamp (by omega), fD.2.1 87 rfl, fD.2.1 90 rfl]
      have p260 : pin (nI (10 * i + j)) 260 = true := pin_nI (by omega) (by omega)
      have p200 : pin (nI (10 * i + j)) 200 = true := pin_nI (by omega) (by omega)
      refine ⟨p260, ?_⟩
      have nx : ∀ s2, Fr fq94 S0 s2 → SkR (s2.2.1 94) (skc D day i S (j + 1)) → w_234_L21 n day (nI i) (nI j + 1) s2 X K := by
        intro s2 f2 z
        rw [nI_1]
        refine ih (j + 1) s2 (by omega) (by omega) f2 ?_
        rw [if_pos iF]
        exact z
      rw [skc] at nx
      have hk := skc_keep (x := 10 * i + j) (day := day) (S := S) hC hi (by omega) j (by omega)
      have hz := hs (10 * i + j) (by omega)
      rw [hk] at hz
      by_cases d : D.2.1 87 (10 * i + j) = 120
      · refine br_f (fun z => z d) ⟨p200, ?_⟩
        obtain ⟨a1, a2, a3, a4⟩ := (c4 j (by omega)).1 d
        by_cases e : s.2.1 94 (10 * i + j) = 0
        · refine br_f (fun z => z e) ⟨p260, ?_⟩
          rw [a1, nI_leI (by omega) (by omega)]
          by_cases q : i ≤ tgN D i j
          · rw [if_neg (fun z => by have := z.2.2.1; omega)] at nx
            exact br_t q (nx s f hs)
          · refine br_f q ⟨p260, w233 (D := D) (fD.2.1 84 rfl) (fD.2.1 85 rfl) (by omega) (fun iT r5 hr5 => ?_) (fun iT => ?_)⟩
            · rw [if_pos ⟨d, hz.mp e, by omega, iT⟩] at nx
              rw [fD.2.1 90 rfl, fD.2.1 91 rfl, a1, a3, ix10 (by omega) (by omega), nI_clamp (by omega), nar1]
              refine br_f hr5 ⟨p260, p260, pin_nI (by omega) (by omega), ?_⟩
              refine nx _ (fr_sA 94 f) ?_
              intro x hx
              show upd (s.2.1 94) (10 * tgN D i j + tcN D i j) 1 x = 0 ↔ (if x = 10 * tgN D i j + tcN D i j then true else skc D day i S j x) = false
              by_cases w : x = 10 * tgN D i j + tcN D i j
              · rw [if_pos w, w, pk_us]
                exact ⟨fun y => absurd y (by decide), fun y => absurd y (by decide)⟩
              · rw [if_neg w, pk_un w]
                exact hs x hx
            · rw [if_neg (fun z => iT z.2.2.2)] at nx
              exact br_t rfl (nx s f hs)
        · rw [if_neg (fun z => e (hz.mpr z.2.1))] at nx
          exact br_t e (nx s f hs)
      · rw [if_neg (fun z => d z.1)] at nx
        exact br_t d (nx s f hs)
    · rw [if_neg iF] at hs
      refine br_t rfl (hX s f ?_)
      rw [if_neg iF]
      exact hs
theorem l_234 {D S0 : ST} {day : Int32} {X K : ST → Prop} (hJ : Jrul D) (f0 : Fr fsS D S0) (hX : ∀ s, Fr fq94 S0 s → SkR (s.2.1 94) (skr D day (nU D)) → X s) : ∀ m n s, m ≤ nU D → m < n → Fr fq94 S0 s → SkR (s.2.1 94) (skr D day (nU D - m)) → w_234_L17 n day (nI m + (-1)) s X K := by
  have hC := Jrul_C hJ
  have hU := hJ.2.2.1
  intro m
  induction m with
  | zero =>
    intro n s _ hn f hs
    obtain ⟨n, rfl⟩ : ∃ q, n = q + 1 := ⟨n - 1, by omega⟩
    rw [w_234_L17]
    exact br_t (by decide) (hX s f hs)
  | succ m ih =>
    intro n s hm hn f hs
    obtain ⟨n, rfl⟩ : ∃ q, n = q + 1 := ⟨n - 1, by omega⟩
    rw [w_234_L17, pk_m1]
    have fD : Fr fsS D s := fr_tr (F := fq94) rfl f0 f
    have hk := (hC m (by omega)).2.2.1
    refine br_f (nI_pos (by omega)) ⟨11, l_234j (S0 := s) (S := skr D day (nU D - (m + 1))) hJ fD (by omega) ?_ 11 0 s (by omega) (by omega) (fr_rfl _ _) ?_⟩
    · intro s1 f1 h1
      have e1 : nU D - m = nU D - (m + 1) + 1 := by omega
      have e2 : nU D - 1 - (nU D - (m + 1)) = m := by omega
      refine ih n s1 (by omega) (by omega) (fr_tr (F := fq94) rfl f f1) ?_
      rw [e1, skr, e2]
      by_cases c : inF D m day = true
      · rw [if_pos c] at h1 ⊢; exact h1
      · rw [if_neg c] at h1 ⊢; exact h1
    · by_cases c : inF D m day = true
      · rw [if_pos c]; exact hs
      · rw [if_neg c]; exact hs
theorem mp_234 {D s : ST} {day : Int32} {K : ST → Prop} (hJ : Jrul D) (f : Fr fsS D s) (k : ∀ s1, Fr fq94 s s1 → SkR (s1.2.1 94) (skr D day (nU D)) → K s1) : w_234 day s K := by
  have hU := hJ.2.2.1
  unfold w_234
  refine ⟨201, l_234z (D := s) ?_ 201 0 s (by omega) (by omega) (fr_rfl _ _) (fun i hi => absurd hi (by omega))⟩
  intro s1 f1 z1
  have fD1 : Fr fsS D s1 := fr_tr (F := fq94) rfl f f1
  have e : s1.1 5541 - 1 = nI (nU D) + (-1) := by
    rw [fD1.1 5541 rfl, hJ.2.1]
    exact Int32.sub_eq_add_neg _ _
  rw [e]
  refine ⟨22, l_234 (S0 := s1) hJ fD1 (fun s2 f2 h2 => k s2 (fr_tr (F := fq94) rfl f1 f2) h2) (nU D) 22 s1 (Nat.le_refl _) (by omega) (fr_rfl _ _) ?_⟩
  rw [Nat.sub_self]
  intro x hx
  rw [z1 x hx]
  exact ⟨fun _ => rfl, fun _ => rfl⟩
theorem l_235 {D s0 : ST} {I : Nat} {kd : Int32} {S : Nat → Bool} {fx : Nat → Int64} {X33 X29 : ST → Prop} {K : Int32 → ST → Prop} (hJ : Jrul D) (f0 : Fr fsS D s0) (hI : I < nU D) (hk : ¬ kd = 120) (hS : SkR (s0.2.1 94) S) (hfx : ∀ k, k < 13 → s0.2.2.1 93 k = fx k) (h1 : ∀ s, Fr fq92 s0 s → hsB D I kd (fun j => S (10 * I + j)) fx (nK D I) = false → X33 s) (h2 : ∀ s, Fr fq92 s0 s → hsB D I kd (fun j => S (10 * I + j)) fx (nK D I) = true → X29 s) : ∀ n j s, j ≤ nK D I → nK D I - j < n → Fr fq92 s0 s → hsB D I kd (fun j => S (10 * I + j)) fx j = false → w_235_L2 n (nI I) kd (nI j) s X33 X29 K := by
  have hC := Jrul_C hJ
  have hU := hJ.2.2.1
  obtain ⟨c1, c2, c3, c4⟩ := hC I hI
  intro n
  induction n with
  | zero => intro j s _ z; omega
  | succ n ih =>
    intro j s hj hn f hs
    have fD : Fr fsS D s := fr_tr (F := fq92) rfl f0 f
    rw [w_235_L2, nI_clamp (show I < 2 ^ 31 by omega), fD.2.1 86 rfl, c1, nI_leI (by omega) (by omega)]
    refine ⟨pin_nI (by omega) (by omega), ?_⟩
    by_cases c : nK D I ≤ j
    · have : j = nK D I := by omega
      subst this
      exact br_t c (h1 s f hs)
    refine br_f c ?_
    rw [ix10 (by omega) (by omega), nI_clamp (by omega), fD.2.1 87 rfl]
    have p260 : pin (nI (10 * I + j)) 260 = true := pin_nI (by omega) (by omega)
    have p200 : pin (nI (10 * I + j)) 200 = true := pin_nI (by omega) (by omega)
    refine ⟨p260, ?_⟩
    have nx : hsB D I kd (fun j => S (10 * I + j)) fx (j + 1) = false → ∀ s2, Fr fq92 s0 s2 → w_235_L2 n (nI I) kd (nI j + 1) s2 X33 X29 K := by
      intro z s2 f2
      rw [nI_1]
      exact ih (j + 1) s2 (by omega) (by omega) f2 z
    rw [hsB, hs, Bool.false_or] at nx
    have hz := hS (10 * I + j) (by omega)
    rw [f.2.1 94 rfl]
    by_cases d : D.2.1 87 (10 * I + j) = kd
    · refine br_f (fun z => z d) ⟨p200, ?_⟩
      by_cases e : s0.2.1 94 (10 * I + j) = 0
      · refine br_f (fun z => z e) ?_
        obtain ⟨⟨st, hw⟩, g1, g2, g3, g4, g5⟩ := (c4 j (by omega)).2 (by rw [d]; exact hk)
        have e88 : s.2.1 88 = D.2.1 88 := fD.2.1 88 rfl
        have e89 : s.2.1 89 = D.2.1 89 := fD.2.1 89 rfl
        have e83 : s.2.1 83 = D.2.1 83 := fD.2.1 83 rfl
        refine mp_232 (I := I) (j := j) (cf := cfN D I j) (L := Ln D I j) (off := ofN D I j) (G := Gd D I j) (fx := fx) (by omega) (by omega) (by rw [e88]; exact g1) (by rw [e89]; exact g2) (by omega) (by unfold ofN; omega) (by unfold ofN; omega) (by rw [e83]; exact g5) hw (by intro k hk2; rw [f.2.2.1 93 rfl]; exact hfx k hk2) ?_
        intro s2 f2
        have f3 : Fr fq92 s0 s2 := fr_tr (F := fq92) rfl f f2
        have et : evT (Gd D I j) (Ln D I j) fx = trv D I j fx := rfl
        rw [et]
        by_cases q : trv D I j fx = true
        · rw [if_pos q]
          refine br_f (by decide) (h2 s2 f3 (hsB_t (j := j + 1) ?_ _ (by omega)))
          rw [hsB, hs, decide_eq_true d, hz.mp e, q]
          rfl
        · rw [if_neg q]
          refine br_t rfl (nx ?_ s2 f3)
          rw [Bool.eq_false_iff.mpr q, Bool.and_false]
      · refine br_t e (nx ?_ s f)
        have : S (10 * I + j) = true := by
          cases w : S (10 * I + j) with
          | true => rfl
          | false => exact absurd (hz.mpr w) e
        rw [this]
        simp
    · refine br_t d (nx ?_ s f)
      rw [decide_eq_false d]
      rfl
theorem mp_235 {D s : ST} {I : Nat} {kd : Int32} {S : Nat → Bool} {fx : Nat → Int64} {K : Int32 → ST → Prop} (hJ : Jrul D) (f0 : Fr fsS D s) (hI : I < nU D) (hk : ¬ kd = 120) (hS : SkR (s.2.1 94) S) (hfx : ∀ k, k < 13 → s.2.2.1 93 k = fx k) (k : ∀ s1, Fr fq92 s s1 → K (if hsB D I kd (fun j => S (10 * I + j)) fx (nK D I) = true then 1 else 0) s1) : w_235 (nI I) kd s K := by
  have c3 := (Jrul_C hJ I hI).2.2.1
  unfold w_235
  refine ⟨11, l_235 hJ f0 hI hk hS hfx ?_ ?_ 11 0 s (by omega) (by omega) (fr_rfl _ _) rfl⟩
  · intro s1 f1 z
    have := k s1 f1
    rw [if_neg (by rw [z]; decide)] at this
    exact this
  · intro s1 f1 z
    have := k s1 f1
    rw [if_pos z] at this
    exact this
theorem l_236 {D s0 : ST} {x : Nat} {fx : Nat → Int64} {X41 : ST → Prop} {X37 : Int32 → ST → Prop} {X30 : ST → Prop} {K : Int32 → ST → Prop} (hJ : Jrul D) (hx : x < 150) (f0 : Fr fsS D s0) (hS : SkR (s0.2.1 94) (skr D (D.2.1 60 x) (nU D))) (hfx : ∀ k, k < 13 → s0.2.2.1 93 k = fx k) {b : Int32} (h1 : ∀ s, Fr fq92 s0 s → b = -2 → X41 s) (h2 : ∀ s m, Fr fq92 s0 s → m < 20 → b = nI m → X37 (nI m) s) (h3 : ∀ s, Fr fq92 s0 s → b = -2 → X30 s) : ∀ m n s, m ≤ nU D → m < n → Fr fq92 s0 s → brk D (D.2.1 60 x) fx m = b → w_236_L14 n (nI x) (nI m + (-1)) s X41 X37 X30 K := by
  have hC := Jrul_C hJ
  have hU := hJ.2.2.1
  intro m
  induction m with
  | zero =>
    intro n s _ hn f hb
    obtain ⟨n, rfl⟩ : ∃ q, n = q + 1 := ⟨n - 1, by omega⟩
    rw [w_236_L14]
    exact br_t (by decide) (h1 s f hb.symm)
  | succ m ih =>
    intro n s hm hn f hb
    obtain ⟨n, rfl⟩ : ∃ q, n = q + 1 := ⟨n - 1, by omega⟩
    have fD : Fr fsS D s := fr_tr (F := fq92) rfl f0 f
    rw [w_236_L14, pk_m1, nI_clamp (show x < 2 ^ 31 by omega), fD.2.1 60 rfl]
    refine br_f (nI_pos (by omega)) ⟨pin_nI hx (by omega), w233 (D := D) (fD.2.1 84 rfl) (fD.2.1 85 rfl) (by omega) (fun iF r6 hr6 => ?_) (fun iF => ?_)⟩
    · rw [brk, if_pos iF] at hb
      refine br_t hr6 ?_
      have kp2 : ∀ j, skr D (D.2.1 60 x) (nU D) (10 * m + j) = skr D (D.2.1 60 x) (nU D - (m + 1)) (10 * m + j) := fun j => skr_keep hC (by omega) (nU D) (by omega) (Nat.le_refl _)
      have hS1 : SkR (s.2.1 94) (skr D (D.2.1 60 x) (nU D)) := by rw [f.2.1 94 rfl]; exact hS
      have hf1 : ∀ k, k < 13 → s.2.2.1 93 k = fx k := fun k hk => by rw [f.2.2.1 93 rfl]; exact hfx k hk
      refine mp_235 hJ fD (by omega) (by decide) hS1 hf1 (fun s1 f1 => ?_)
      rw [hsB_congr kp2]
      have fs1 : Fr fq92 s0 s1 := fr_tr (F := fq92) rfl f f1
      by_cases a : hsB D m 108 (fun j => skr D (D.2.1 60 x) (nU D - (m + 1)) (10 * m + j)) fx (nK D m) = true
      · rw [if_pos a] at hb ⊢
        exact br_f (by decide) (h3 s1 fs1 hb.symm)
      · rw [if_neg a] at hb ⊢
        refine br_t rfl ?_
        have fD1 : Fr fsS D s1 := fr_tr (F := fq92) rfl f0 fs1
        have hS2 : SkR (s1.2.1 94) (skr D (D.2.1 60 x) (nU D)) := by rw [fs1.2.1 94 rfl]; exact hS
        have hf2 : ∀ k, k < 13 → s1.2.2.1 93 k = fx k := fun k hk => by rw [fs1.2.2.1 93 rfl]; exact hfx k hk
        refine mp_235 hJ fD1 (by omega) (by decide) hS2 hf2 (fun s2 f2 => ?_)
        rw [hsB_congr kp2]
        have fs2 : Fr fq92 s0 s2 := fr_tr (F := fq92) rfl fs1 f2
        by_cases a2 : hsB D m 114 (fun j => skr D (D.2.1 60 x) (nU D - (m + 1)) (10 * m + j)) fx (nK D m) = true
        · rw [if_pos a2] at hb ⊢
          exact br_f (by decide) (h2 s2 m fs2 (by omega) hb.symm)
        · rw [if_neg a2] at hb ⊢
          exact br_t rfl (ih n s2 (by omega) (by omega) fs2 hb)
    · rw [brk, if_neg iF] at hb
      exact br_f (fun z => z rfl) (ih n s (by omega) (by omega) f hb)
abbrev fqR : FS := ([], [94], [92, 93], false, false)
theorem RW_fr {D S s : ST} {t : Int32} (f : Fr fqR S s) (h : RW D t S) : RW D t s := by
  unfold RW at h ⊢
  rw [f.1 5520 rfl, f.2.1 72 rfl, f.2.1 73 rfl, f.2.1 74 rfl]
  exact h
theorem mp_236 {D s : ST} {t u : Int32} {x : Nat} {K : Int32 → ST → Prop} (h : Bk D) (hJ : Jrul D) (f : Fr fsS D s) (r : RW D t s) (hu : (if D.2.1 64 x = s.1 5552 then -1 else D.2.1 64 x) = lvI D x u) (hx : x < nR D) (k : ∀ s1, Fr fqR s s1 → K (brkT D t x u) s1) : w_236 (nI x) s K := by
  have hU := hJ.2.2.1
  have hR := (bkR h).2.2
  have hx5 : x < 150 := by omega
  unfold w_236
  rw [nI_clamp (show x < 2 ^ 31 by omega), f.2.1 60 rfl]
  refine ⟨pin_nI hx5 (by omega), mp_234 hJ f (fun s1 f1 h1 => ?_)⟩
  have fR1 : Fr fqR s s1 := fr_weak rfl f1
  have fD1 : Fr fsS D s1 := fr_tr (F := fq94) rfl f f1
  refine mp_230 (u := u) h fD1 (RW_fr fR1 r) (by rw [f1.1 5552 rfl]; exact hu) hx (fun s2 f2 hfx => ?_)
  have fD2 : Fr fsS D s2 := fr_tr (F := fq93) rfl fD1 f2
  have fR2 : Fr fqR s s2 := fr_tr (F := fq93) rfl fR1 f2
  have e : s2.1 5541 - 1 = nI (nU D) + (-1) := by
    rw [fD2.1 5541 rfl, hJ.2.1]
    exact Int32.sub_eq_add_neg _ _
  rw [e]
  have fin : ∀ s3, Fr fq92 s2 s3 → Fr fqR s s3 := fun s3 f3 => fr_tr (F := fq92) rfl fR2 f3
  refine ⟨22, l_236 (b := brkT D t x u) hJ hx5 fD2 (by rw [f2.2.1 94 rfl]; exact h1) hfx ?_ ?_ ?_ (nU D) 22 s2 (Nat.le_refl _) (by omega) (fr_rfl _ _) rfl⟩
  · intro s3 f3 z
    have := k s3 (fin s3 f3)
    rw [z] at this
    exact this
  · intro s3 m f3 _ z
    have := k s3 (fin s3 f3)
    rw [z] at this
    exact this
  · intro s3 f3 z
    have := k s3 (fin s3 f3)
    rw [z] at this
    exact this
