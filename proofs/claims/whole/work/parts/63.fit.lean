/-! ===== the class's fitter: prepare, and what is alike ===== -/
def ro (D : ST) (p : Nat) : Nat := lr D (D.1 5500) p
def nP (D : ST) : Nat := (kL D (D.1 5500)).length
def wP (D : ST) (p : Nat) : Nat := if p < nP D then smN D (D.1 5500) (ro D p) else 0
def dP (D : ST) (p : Nat) : Int := (D.2.1 60 (ro D p)).toInt
def fH (D : ST) (I s p : Nat) : Bool := trv D I s (fxv D (D.1 5500) (ro D p) (-1))
def aN (D : ST) (f p : Nat) : Int32 := (((0 : Int32) ||| (if pyI D (ro D p) = pyI D (ro D f) then 1 else 0)) ||| (if D.2.1 63 (ro D p) = D.2.1 63 (ro D f) then 2 else 0)) ||| (if D.2.1 58 (ro D p) = D.2.1 58 (ro D f) then 4 else 0)
def fA (D : ST) (I f s p : Nat) : Bool := decide ((D.2.1 90 (10 * I + s) &&& (aN D f p ^^^ (-1 : Int32))) = 0)
def fT (D : ST) (I : Nat) (ds : Int) (f s p : Nat) : Bool := fH D I s p && fA D I f s p && decide (dP D p - dP D f ≤ ds)
def gP (D : ST) (I : Nat) (ds : Int) : List Nat → Nat → Bool
  | [], p => fH D I 0 p
  | f :: r, p => fT D I ds f (r.length + 1) p
theorem ro_e {D : ST} {p : Nat} (h : p < nP D) : ro D p = (kL D (D.1 5500))[p]'h := lr_e h
theorem ro_lt {D : ST} (hB : Bk D) {p : Nat} (h : p < nP D) : ro D p < nR D := by rw [ro_e h]; exact (kL_lt hB h).1
theorem nP_150 {D : ST} (hB : Bk D) : nP D ≤ 150 := kL_150 hB
theorem wP_le {D : ST} (hB : Bk D) (p : Nat) : wP D p ≤ 1000000 := by
  unfold wP
  by_cases h : p < nP D
  · rw [if_pos h]
    have r := smI_rng hB (t := D.1 5500) (ro_lt hB h)
    show (smI D (D.1 5500) (ro D p)).toInt.toNat ≤ 1000000
    omega
  · rw [if_neg h]; omega
theorem wP_e {D : ST} (hB : Bk D) {p : Nat} (h : p < nP D) : smI D (D.1 5500) (ro D p) = nI (wP D p) := by
  unfold wP
  rw [if_pos h]
  exact smI_N hB (ro_lt hB h)
theorem day_rng {D : ST} (hB : Bk D) {p : Nat} (h : p < nP D) : 0 ≤ dP D p ∧ dP D p ≤ 3999 := by
  have r := (hB.2.2.1.2.2.2 _ (ro_lt hB h)).2
  unfold Rok at r
  have n := hB.1
  unfold Jnow at n
  unfold dP
  omega
/-- what the class's fitter knows -/
def FI (D : ST) (I q : Nat) (days : Int32) (s : ST) : Prop := VW D (D.1 5500) s ∧ s.1 5007 = nI q ∧ s.1 5008 = days ∧ (∀ k, k < q → s.2.1 54 k = D.2.1 90 (10 * I + k)) ∧ (∀ p, p < nP D → ∀ k, k < q → bt (s.2.1 51 p) k = fH D I k p)
abbrev fq51 : FS := ([], [51], [], false, false)
theorem l_302f {D : ST} {X K : ST → Prop} (hX : ∀ s, Fr fq51 D s → (∀ i, i < 150 → s.2.1 51 i = 0) → X s) : ∀ n k s, k ≤ 150 → 150 - k < n → Fr fq51 D s → (∀ i, i < k → s.2.1 51 i = 0) → w_302_R51_L5 n 0 (nI k) (Int32.ofNat 150) s X K := by
  intro n
  induction n with
  | zero => intro k s _ z; omega
  | succ n ih =>
    intro k s hk hn f hs
    have e20 : Int32.ofNat 150 = nI 150 := rfl
    rw [w_302_R51_L5]
    rw [e20, nI_leI (by omega) (by omega)]
    by_cases c : 150 ≤ k
    · exact br_t c (hX s f (fun i hi => hs i (by omega)))
    refine br_f c ⟨pin_nI (by omega) (by omega), ?_⟩
    rw [nI_clamp (by omega), nI_1]
    refine ih (k + 1) _ (by omega) (by omega) (fr_sA 51 f) ?_
    intro i hi
    show upd (s.2.1 51) k 0 i = 0
    by_cases e : i = k
    · subst e; exact pk_us
    · rw [pk_un e]; exact hs i (by omega)
theorem mp_302f {s : ST} {K : ST → Prop} (k : ∀ s1, Fr fq51 s s1 → (∀ i, i < 150 → s1.2.1 51 i = 0) → K s1) : w_302_R51 0 s K := ⟨151, l_302f k 151 0 s (by omega) (by omega) (fr_rfl _ _) (fun i hi => absurd hi (by omega))⟩
abbrev fqH : FS := ([], [51, 54], [17, 18], false, false)
def HB (D : ST) (I k p : Nat) (s : ST) : Prop := ∀ a, a < nP D → ∀ b, b < 4 → bt (s.2.1 51 a) b = ((decide (b < k) || (decide (b = k) && decide (a < p))) && fH D I b a)
theorem l_26p {D S0 : ST} {I j y cl m : Nat} {st : Nat → List Bool} {ff : Nat → Int32} {X : Nat → Int32 → ST → Prop} {K : ST → Prop} (hB : Bk D) (v0 : VW D (D.1 5500) S0) (hu : S0.1 1600 = -1) (hj : j < 4) (hp : ∃ kd tg tc, pob D.2.2.2.2 cl 1 = some [.int kd, .ref (m + 118), .int tg, .int tc]) (g1 : prow D.2.2.2.2 m 0 = some (Ln D I j, ff)) (g2 : ∀ p, p < Ln D I j → ff p = nI (16 * (Gd D I j p).2 + (Gd D I j p).1)) (hw : wt (Gd D I j) (Ln D I j) st) : ∀ n p s, p ≤ nP D → nP D - p < n → Fr fqH S0 s → HB D I j p s → s.2.1 54 = S0.2.1 54 → (∀ s1, s1.2.1 54 = S0.2.1 54 → Fr fqH S0 s1 → HB D I (j + 1) 0 s1 → X y (nI j) s1) → w_26_L34 n y (nI j) cl (nI p) s X K := by
  have h150 := nP_150 hB
  obtain ⟨kd, tg, tc, o1⟩ := hp
  intro n
  induction n with
  | zero => intro p s _ z; omega
  | succ n ih =>
    intro p s hp hn f hs h54 hX2
    have v := VW_g f v0
    have e801 : s.1 801 = nI (nP D) := v.2.1.2.1
    rw [w_26_L34, e801, nI_leI (by omega) (by omega)]
    by_cases c : nP D ≤ p
    · refine br_t c (hX2 s h54 f ?_)
      intro a ha b hb
      rw [hs a ha b hb]
      have e1 : (decide (b < j) || (decide (b = j) && decide (a < p))) = (decide (b < j + 1) || (decide (b = j + 1) && decide (a < 0))) := by
        rw [decide_eq_true (show a < p by omega), decide_eq_false (show ¬ a < 0 by omega), Bool.and_true, Bool.and_false, Bool.or_false, ← Bool.decide_or]
        exact decide_eq_decide.mpr (by omega)
      rw [e1]
    refine br_f c ?_
    have e150 : (150 : Int32) = nI 150 := rfl
    rw [e150, nI_leI (by omega) (by omega)]
    refine br_f (by omega) ?_
    have hkl : p < (kL D (D.1 5500)).length := by
      have : p < nP D := by omega
      exact this
    rw [w_at hB v.2.1 hkl, nI_1]
    refine mp_20 (u := -1) hB v (by rw [f.1 1600 rfl]; exact hu) hkl (fun s1 f1 hfx => ?_)
    have fD1 : Fr fsS D s1 := fr_tr (F := fq17) rfl v.2.1.1 f1
    have hd1 : s1.2.2.2.2 = D.2.2.2.2 := fD1.2.2.2.2 rfl
    rw [hd1]
    refine ⟨m, pg o1 rfl, mp_21 (G := Gd D I j) (L := Ln D I j) (fx := fxv D (D.1 5500) (kL D (D.1 5500))[p] (-1)) (by rw [hd1]; exact g1) g2 hw hfx ?_⟩
    intro s2 f2
    have eH : evT (Gd D I j) (Ln D I j) (fxv D (D.1 5500) (kL D (D.1 5500))[p] (-1)) = fH D I j p := by
      unfold fH
      rw [ro_e hkl]
      rfl
    rw [eH]
    have fP : Fr fqH S0 s2 := fr_tr (F := fq18) rfl (fr_tr (F := fq17) rfl f f1) f2
    have e51 : s2.2.1 51 = s.2.1 51 := by rw [f2.2.1 51 rfl, f1.2.1 51 rfl]
    have e54 : s2.2.1 54 = S0.2.1 54 := by rw [f2.2.1 54 rfl, f1.2.1 54 rfl]; exact h54
    have sm : ∀ a b, ¬ (a = p ∧ b = j) → (decide (b < j) || (decide (b = j) && decide (a < p))) = (decide (b < j) || (decide (b = j) && decide (a < p + 1))) := by
      intro a b z
      rw [← Bool.decide_and, ← Bool.decide_and, ← Bool.decide_or, ← Bool.decide_or]
      exact decide_eq_decide.mpr (by omega)
    have me : (decide (j < j) || (decide (j = j) && decide (p < p + 1))) = true := by
      rw [← Bool.decide_and, ← Bool.decide_or]
      exact decide_eq_true (by omega)
    have m0 : (decide (j < j) || (decide (j = j) && decide (p < p))) = false := by
      rw [← Bool.decide_and, ← Bool.decide_or]
      exact decide_eq_false (by omega)
    by_cases q : fH D I j p = true
    · rw [if_pos q]
      refine br_f (by decide) ⟨pin_nI (by omega) (by omega), pin_nI (by omega) (by omega), ?_⟩
      rw [nI_clamp (by omega)]
      refine ih (p + 1) _ (by omega) (by omega) (fr_sA 51 fP) ?_ e54 hX2
      intro a ha b hb
      show bt (upd (s2.2.1 51) p (s2.2.1 51 p ||| (1 : Int32) <<< (nI j &&& 31)) a) b = _
      rw [e51]
      by_cases e : a = p
      · subst e
        rw [pk_us, bt_or, hs a ha b hb, bt_shl (by omega) (by omega)]
        by_cases e2 : b = j
        · subst e2
          rw [me, q, decide_eq_true rfl, Bool.or_true, Bool.true_and]
        · rw [decide_eq_false e2, Bool.or_false, Bool.false_and, Bool.false_and]
      · rw [pk_un e, hs a ha b hb, sm a b (fun z => e z.1)]
    · rw [if_neg q]
      refine br_t rfl ?_
      refine ih (p + 1) s2 (by omega) (by omega) fP ?_ e54 hX2
      intro a ha b hb
      rw [e51, hs a ha b hb]
      by_cases e : a = p ∧ b = j
      · obtain ⟨e1, e2⟩ := e
        subst e1
        subst e2
        rw [Bool.eq_false_iff.mpr q, Bool.and_false, Bool.and_false]
      · rw [sm a b e]
theorem l_26 {D S0 : ST} {I y : Nat} {fr to : Int32} {X K : ST → Prop} (hB : Bk D) (tx : TxA D D.2.2.2.2 I y fr to) (hI : 20 ≤ I) (h4 : nK D I ≤ 4) (v0 : VW D (D.1 5500) S0) (hu : S0.1 1600 = -1) (h5007 : S0.1 5007 = nI (nK D I)) (hX : ∀ s, Fr fqH S0 s → HB D I (nK D I) 0 s → (∀ k, k < nK D I → s.2.1 54 k = D.2.1 90 (10 * I + k)) → X s) : ∀ m j s, j + m = nK D I → Fr fqH S0 s → HB D I j 0 s → (∀ k, k < j → s.2.1 54 k = D.2.1 90 (10 * I + k)) → w_26_L16 (m + 1) y (nI j) s X K := by
  obtain ⟨t1, t2, t3, v, mc, b, cap, g, p1, p2, p3, p4, p5⟩ := tx
  have h150 := nP_150 hB
  intro m
  induction m with
  | zero =>
    intro j s hj f hs hl
    have : j = nK D I := by omega
    subst this
    rw [w_26_L16, f.1 5007 rfl, h5007, nI_leI (by omega) (by omega)]
    exact br_t (Nat.le_refl _) (hX s f hs hl)
  | succ m ih =>
    intro j s hj f hs hl
    rw [w_26_L16, f.1 5007 rfl, h5007, nI_leI (by omega) (by omega)]
    refine br_f (by omega) ?_
    have hd : s.2.2.2.2 = D.2.2.2.2 := by rw [f.2.2.2.2 rfl]; exact v0.2.1.1.2.2.2.2 rfl
    rw [hd]
    obtain ⟨cl, c1, kd2, m2, tg, tc, o1, o2, o3, o4, o5⟩ := p5 j (by omega)
    refine ⟨v, pg p1 rfl, _, p2, mp_299 (by rw [hd]; exact p2) (by rw [hd]; exact p3) p4 (by omega) (by omega) c1 ?_⟩
    rw [hd]
    refine ⟨_, o1, tg, pg o1 rfl, pin_nI (by omega) (by omega), 160, ?_⟩
    rw [nI_clamp (by omega)]
    obtain ⟨k40, etg, _, _⟩ := o3 hI
    obtain ⟨⟨⟨st, hw⟩, _⟩, ff, g1, g2⟩ := o5 (by rw [k40]; decide)
    have f1 : Fr fqH S0 (sA s 54 (upd (s.2.1 54) j tg)) := fr_sA 54 f
    have f01 : Fr fqH s (sA s 54 (upd (s.2.1 54) j tg)) := fr_sA 54 (fr_rfl _ _)
    have hs1 : HB D I j 0 (sA s 54 (upd (s.2.1 54) j tg)) := hs
    refine l_26p (S0 := sA s 54 (upd (s.2.1 54) j tg)) (y := y) (m := m2) (ff := ff) hB (VW_g f1 v0) (by rw [f1.1 1600 rfl]; exact hu) (by omega) ⟨kd2, tg, tc, o1⟩ g1 g2 hw (X := fun y1 y3 s13 => w_26_L16 (m + 1) y1 (y3 + 1) s13 X K) 160 0 _ (by omega) (by omega) (fr_rfl _ _) hs1 rfl ?_
    · intro s2 e54 f2 h2
      rw [nI_1]
      refine ih (j + 1) s2 (by omega) (fr_tr (F := fqH) rfl f1 f2) h2 ?_
      intro k hk
      rw [e54]
      show upd (s.2.1 54) j tg k = _
      by_cases e : k = j
      · subst e; rw [pk_us]; exact etg
      · rw [pk_un e]; exact hl k (by omega)
abbrev fqPr : FS := ([5007, 5008], [51, 54], [17, 18], false, false)
theorem mp_26 {D s : ST} {I y : Nat} {fr to days : Int32} {K : ST → Prop} (hB : Bk D) (tx : TxA D D.2.2.2.2 I y fr to) (hI : 20 ≤ I) (h4 : nK D I ≤ 4) (v0 : VW D (D.1 5500) s) (hu : s.1 1600 = -1) (k : ∀ s1, Fr fqPr s s1 → FI D I (nK D I) days s1 → K s1) : w_26 y days s K := by
  have tx2 := tx
  obtain ⟨t1, t2, t3, v, mc, b, cap, g, p1, p2, p3, p4, p5⟩ := tx2
  have hd : s.2.2.2.2 = D.2.2.2.2 := v0.2.1.1.2.2.2.2 rfl
  unfold w_26
  rw [hd]
  refine ⟨v, pg p1 rfl, _, p2, nI (nK D I), by rw [hd]; exact pg p2 rfl, ?_⟩
  have e4 : (4 : Int32) = nI 4 := rfl
  dsimp only
  rw [e4, if_neg (nI_nlt (by omega) (by omega))]
  have f0 : Fr fqPr s (sI (sI s 5007 (nI (nK D I))) 5008 days) := fr_sI 5008 (fr_sI 5007 (fr_rfl _ _))
  refine mp_302f (fun s1 f1 z1 => ?_)
  have f01 : Fr fqPr s s1 := fr_tr (F := fq51) rfl f0 f1
  have v1 : VW D (D.1 5500) s1 := VW_g f01 v0
  have k5007 : s1.1 5007 = nI (nK D I) := f1.1 5007 rfl
  have k5008 : s1.1 5008 = days := f1.1 5008 rfl
  refine ⟨nK D I + 1, l_26 hB tx hI h4 v1 (by rw [f01.1 1600 rfl]; exact hu) k5007 ?_ (nK D I) 0 s1 (by omega) (fr_rfl _ _) ?_ (fun k hk => absurd hk (by omega))⟩
  · intro s2 f2 h2 h54
    refine k s2 (fr_tr (F := fqH) rfl f01 f2) ⟨VW_g f2 v1, by rw [f2.1 5007 rfl]; exact k5007, by rw [f2.1 5008 rfl]; exact k5008, h54, fun p hp a ha => ?_⟩
    rw [h2 p hp a (by omega), decide_eq_true ha, Bool.true_or, Bool.true_and]
  · intro a ha b hb
    have h150 := nP_150 hB
    rw [z1 a (by omega), bt_0, decide_eq_false (by omega), decide_eq_false (show ¬ a < 0 by omega), Bool.and_false, Bool.or_false, Bool.false_and]
/-! what is alike -/
theorem l_33 {D s : ST} {I q f p : Nat} {X : Int32 → ST → Prop} {K : Int32 → ST → Prop} (hq : q ≤ 4) (h7 : s.1 5007 = nI q) (h54 : ∀ k, k < q → s.2.1 54 k = D.2.1 90 (10 * I + k)) (hX : ∀ r, (∀ k, 1 ≤ k → k < q → bt r k = fA D I f k p) → X r s) : ∀ m k x, k + m = 5 → 1 ≤ k → (∀ a, 1 ≤ a → a < k → a < q → bt x a = fA D I f a p) → (∀ a, k ≤ a → a < 10 → bt x a = false) → w_33_L55 (m + 1) (aN D f p) x (nI k) s X K := by
  intro m
  induction m with
  | zero =>
    intro k x hk h1 ha _
    have e4 : (4 : Int32) = nI 4 := rfl
    rw [w_33_L55, h7, e4, nI_leI (by omega) (by omega), nI_leI (by omega) (by omega)]
    by_cases c : q ≤ k
    · exact br_t c (hX x (fun a a1 a2 => ha a a1 (by omega) a2))
    · omega
  | succ m ih =>
    intro k x hk h1 ha hz
    have e4 : (4 : Int32) = nI 4 := rfl
    rw [w_33_L55, h7, e4, nI_leI (by omega) (by omega), nI_leI (by omega) (by omega)]
    by_cases c : q ≤ k
    · exact br_t c (hX x (fun a a1 a2 => ha a a1 (by omega) a2))
    · refine br_f c (br_f (by omega) ⟨pin_nI (by omega) (by omega), ?_⟩)
      rw [nI_clamp (by omega), h54 k (by omega), nI_1]
      by_cases d : (D.2.1 90 (10 * I + k) &&& (aN D f p ^^^ (-1 : Int32))) = 0
      · refine br_f (fun z => z d) ?_
        refine ih (k + 1) _ (by omega) (by omega) (fun a a1 a2 a3 => ?_) (fun a a1 a2 => ?_)
        · rw [bt_or, bt_shl (by omega) (by omega)]
          by_cases e : a = k
          · subst e
            rw [decide_eq_true rfl, Bool.or_true]
            unfold fA
            rw [decide_eq_true d]
          · rw [decide_eq_false e, Bool.or_false]; exact ha a a1 (by omega) a3
        · rw [bt_or, bt_shl (by omega) (by omega), hz a (by omega) a2, decide_eq_false (by omega)]
          rfl
      · refine br_t d ?_
        refine ih (k + 1) x (by omega) (by omega) (fun a a1 a2 a3 => ?_) (fun a a1 a2 => hz a (by omega) a2)
        by_cases e : a = k
        · subst e
          rw [hz a (Nat.le_refl _) (by omega)]
          unfold fA
          rw [decide_eq_false d]
        · exact ha a a1 (by omega) a3
theorem mp_33 {D s : ST} {I q f p : Nat} {days : Int32} {K : Int32 → ST → Prop} (hB : Bk D) (hq : q ≤ 4) (h7 : s.1 5007 = nI q) (h54 : ∀ k, k < q → s.2.1 54 k = D.2.1 90 (10 * I + k)) (fD : Fr fsS D s) (hf : f < nP D) (hp : p < nP D) (k : ∀ r, (∀ k, 1 ≤ k → k < q → bt r k = fA D I f k p) → K r s) : w_33 (nI (ro D f)) (nI (ro D p)) s K := by
  have hxf := ro_lt hB hf
  have hxp := ro_lt hB hp
  have go : ∀ x, x = aN D f p → ∃ m, w_33_L55 m x 0 1 s (fun y4 s13 => K y4 s13) K := by
    intro x e
    subst e
    exact ⟨5, l_33 hq h7 h54 k 4 1 0 (by omega) (by omega) (fun a a1 a2 => absurd a2 (by omega)) (fun a _ _ => bt_0)⟩
  unfold aN at go
  unfold w_33
  simp only [w15v hB fD hxp, w15v hB fD hxf, cc6 hB fD hxp, cc6 hB fD hxf, cc1 hB fD hxp, cc1 hB fD hxf]
  by_cases c1 : pyI D (ro D p) = pyI D (ro D f)
  · refine br_f (fun z => z c1) ?_
    rw [if_pos c1] at go
    by_cases c2 : D.2.1 63 (ro D p) = D.2.1 63 (ro D f)
    · refine br_f (fun z => z c2) ?_
      rw [if_pos c2] at go
      by_cases c3 : D.2.1 58 (ro D p) = D.2.1 58 (ro D f)
      · rw [if_pos c3] at go; exact br_f (fun z => z c3) (go _ rfl)
      · rw [if_neg c3] at go; exact br_t c3 (go _ rfl)
    · refine br_t c2 ?_
      rw [if_neg c2] at go
      by_cases c3 : D.2.1 58 (ro D p) = D.2.1 58 (ro D f)
      · rw [if_pos c3] at go; exact br_f (fun z => z c3) (go _ rfl)
      · rw [if_neg c3] at go; exact br_t c3 (go _ rfl)
  · refine br_t c1 ?_
    rw [if_neg c1] at go
    by_cases c2 : D.2.1 63 (ro D p) = D.2.1 63 (ro D f)
    · refine br_f (fun z => z c2) ?_
      rw [if_pos c2] at go
      by_cases c3 : D.2.1 58 (ro D p) = D.2.1 58 (ro D f)
      · rw [if_pos c3] at go; exact br_f (fun z => z c3) (go _ rfl)
      · rw [if_neg c3] at go; exact br_t c3 (go _ rfl)
    · refine br_t c2 ?_
      rw [if_neg c2] at go
      by_cases c3 : D.2.1 58 (ro D p) = D.2.1 58 (ro D f)
      · rw [if_pos c3] at go; exact br_f (fun z => z c3) (go _ rfl)
      · rw [if_neg c3] at go; exact br_t c3 (go _ rfl)
