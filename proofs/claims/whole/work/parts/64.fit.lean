/-! ===== the class's fitter: a first row, and the most from each place on ===== -/
theorem ifc {a b : Prop} [Decidable a] [Decidable b] {α : Type} {x y : α} (h : a ↔ b) : (if a then x else y) = if b then x else y := by
  by_cases c : a
  · rw [if_pos c, if_pos (h.mp c)]
  · rw [if_neg c, if_neg (fun z => c (h.mpr z))]
def gT (D : ST) (I : Nat) (ds : Int) (f s p : Nat) : Bool := fT D I ds f s p && decide (p < nP D)
def gQ (D : ST) (I : Nat) (ds : Int) : List Nat → Nat → Bool
  | [], p => fH D I 0 p && decide (p < nP D)
  | f :: r, p => gT D I ds f (r.length + 1) p
theorem gQ_h {D : ST} {I : Nat} {ds : Int} {f : Nat} : ∀ pre p, pre.head? = some f → gQ D I ds pre p = gT D I ds f pre.length p := by
  intro pre p h
  cases pre with
  | nil => cases h
  | cons a r =>
    injection h with h
    subst h
    rfl
theorem wAtR {D s : ST} {b : Nat} {K : Int32 → ST → Prop} (hB : Bk D) (v : VW D (D.1 5500) s) (hb : b < nP D) : w_123 (nI b) s K = K (nI (ro D b)) s := by
  rw [w_at hB v.2.1 hb, ro_e hb]
theorem w119r {D s : ST} {b : Nat} {K : Int32 → ST → Prop} (hB : Bk D) (v : VW D (D.1 5500) s) (hb : b < nP D) : w_119 (nI (ro D b)) s K = K (nI (wP D b)) s := by
  have h1 := ro_lt hB hb
  have h2 := (bkR hB).2.2
  rw [w119 (by omega), v.2.1.2.2.2 _ h1, wP_e hB hb]
theorem w37 {s : ST} {a b : Nat} {K : Int32 → ST → Prop} (ha : a ≤ 4) (hb : b < 151) (k : K (s.2.1 53 (151 * a + b)) s) : w_37 (nI a) (nI b) s K := by
  have e : nI a * (151 : Int32) + nI b = nI (151 * a + b) := by
    show nI a * nI 151 + nI b = _
    rw [pk_mul, nI_add, Nat.mul_comm a 151]
  have q1 : ¬ (4 : Int32) < nI a := by
    show ¬ nI 4 < nI a
    exact nI_nlt (by omega) (by omega)
  have q2 : ¬ (151 : Int32) ≤ nI b := by
    show ¬ nI 151 ≤ nI b
    rw [nI_leI (by omega) (by omega)]; omega
  unfold w_37
  refine br_f (nI_pos (by omega)) (br_f q1 (br_f (nI_pos (by omega)) (br_f q2 ⟨?_, ?_⟩)))
  · rw [e]; exact pin_nI (by omega) (by omega)
  · rw [e, nI_clamp (by omega)]; exact k
theorem w38 {s : ST} {a b : Nat} {x : Int32} {K : ST → Prop} (ha : a ≤ 4) (hb : b < 151) (k : K (sA s 53 (upd (s.2.1 53) (151 * a + b) x))) : w_38 (nI a) (nI b) x s K := by
  have e : nI a * (151 : Int32) + nI b = nI (151 * a + b) := by
    show nI a * nI 151 + nI b = _
    rw [pk_mul, nI_add, Nat.mul_comm a 151]
  have q1 : ¬ (4 : Int32) < nI a := by
    show ¬ nI 4 < nI a
    exact nI_nlt (by omega) (by omega)
  have q2 : ¬ (151 : Int32) ≤ nI b := by
    show ¬ nI 151 ≤ nI b
    rw [nI_leI (by omega) (by omega)]; omega
  unfold w_38
  refine br_f (nI_pos (by omega)) (br_f q1 (br_f (nI_pos (by omega)) (br_f q2 ⟨?_, ?_⟩)))
  · rw [e]; exact pin_nI (by omega) (by omega)
  · rw [e, nI_clamp (by omega)]; exact k
/-- what mostBy answers -/
def mB (D s : ST) (a b : Nat) : Int32 := if bt (s.2.1 52 b) a = true ∧ ¬ s.2.1 53 (151 * (a + 1) + (b + 1)) = -1 then nI (wP D b) + s.2.1 53 (151 * (a + 1) + (b + 1)) else -1
theorem mp_35 {D s : ST} {a b : Nat} {K : Int32 → ST → Prop} (hB : Bk D) (v : VW D (D.1 5500) s) (ha : a ≤ 3) (hb : b < nP D) (k : K (mB D s a b) s) : w_35 (nI a) (nI b) s K := by
  have h150 := nP_150 hB
  have e149 : (149 : Int32).toInt = 149 := rfl
  unfold mB at k
  unfold w_35
  simp only [e_181, t_181, l_0, e149, e_184, t_184, nI_1]
  rw [nI_toInt (by omega)]
  refine br_f (fun z => z ⟨by omega, by omega⟩) ⟨pin_nI (by omega) (by omega), ?_⟩
  rw [nI_clamp (by omega), bt_bit (show a < 10 by omega)]
  by_cases c : bt (s.2.1 52 b) a = false
  · refine br_t c (w37 (by omega) (by omega) ?_)
    rw [if_neg (fun z => by rw [c] at z; exact absurd z.1 (by decide))] at k
    exact k
  · refine br_f c (w37 (by omega) (by omega) ?_)
    have c2 : bt (s.2.1 52 b) a = true := by
      cases e : bt (s.2.1 52 b) a with
      | true => rfl
      | false => exact absurd e c
    by_cases d : s.2.1 53 (151 * (a + 1) + (b + 1)) = -1
    · rw [if_neg (fun z => z.2 d)] at k
      exact br_t d k
    · rw [if_pos ⟨c2, d⟩] at k
      refine br_f d ?_
      rw [wAtR hB v hb, w119r hB v hb]
      exact k
theorem mp_36 {D s : ST} {a b : Nat} {x : Int32} {K : Int32 → ST → Prop} (hB : Bk D) (v : VW D (D.1 5500) s) (ha : a ≤ 3) (hb : b < nP D) (k : K (if ¬ mB D s a b = -1 ∧ x.toInt ≤ (mB D s a b).toInt then 1 else 0) s) : w_36 (nI a) (nI b) x s K := by
  unfold w_36
  refine mp_35 hB v ha hb ?_
  by_cases c : mB D s a b = -1
  · rw [if_neg (fun z => z.1 c)] at k
    exact br_t c k
  · refine br_f c ?_
    rw [i_lt]
    by_cases d : (mB D s a b).toInt < x.toInt
    · rw [if_neg (fun z => by omega)] at k
      exact br_t d k
    · rw [if_pos ⟨c, by omega⟩] at k
      exact br_f d k
theorem mb_int {b : Bool} {w : Nat} {x : Int32} {M : Int} (hx : x.toInt = M) (hM : -1 ≤ M ∧ M ≤ 4000000) (hw : w ≤ 1000000) : (if b = true ∧ ¬ x = -1 then nI w + x else -1 : Int32).toInt = if b = true ∧ ¬ M = -1 then (w : Int) + M else -1 := by
  have e : x = -1 ↔ M = -1 := by rw [i_eq, hx, l_m1]
  by_cases c : b = true ∧ ¬ x = -1
  · rw [if_pos c, if_pos ⟨c.1, fun z => c.2 (e.mpr z)⟩, t_add (by rw [nI_toInt (by omega), hx]; omega) (by rw [nI_toInt (by omega), hx]; omega), nI_toInt (by omega), hx]
  · rw [if_neg c, if_neg (fun z => c ⟨z.1, fun y => z.2 (e.mp y)⟩), l_m1]
theorem nI_m1 {p : Nat} (h : 0 < p) : nI p + (-1 : Int32) = nI (p - 1) := by
  have := nI_sb (p - 1) 1
  rw [show p - 1 + 1 = p by omega] at this
  exact this
def BT (D : ST) (I q : Nat) (ds : Int) (f e : Nat) (s : ST) : Prop := ∀ p, f < p → p < e → ∀ k, 1 ≤ k → k < q → bt (s.2.1 52 p) k = gT D I ds f k p
def MO (D : ST) (I q : Nat) (ds : Int) (f e : Nat) (s : ST) : Prop := ∀ st pp, 1 ≤ st → st ≤ q → f < pp → pp ≤ e → (s.2.1 53 (151 * st + pp)).toInt = MM (wP D) (gT D I ds f) (q - st) (e - pp) st pp
def MOi (D : ST) (I q : Nat) (ds : Int) (f e p t : Nat) (s : ST) : Prop := ∀ st pp, 1 ≤ st → st ≤ q → pp ≤ e → (p < pp ∨ (pp = p ∧ (st < t ∨ st = q))) → (s.2.1 53 (151 * st + pp)).toInt = MM (wP D) (gT D I ds f) (q - st) (e - pp) st pp
abbrev fq53 : FS := ([], [53], [], false, false)
theorem MOi_u {D s : ST} {I q : Nat} {ds : Int} {f e p t : Nat} {x : Int32} (he : e ≤ 150) (hp : p ≤ e) (h : MOi D I q ds f e p t s) (hx : x.toInt = MM (wP D) (gT D I ds f) (q - t) (e - p) t p) : MOi D I q ds f e p (t + 1) (sA s 53 (upd (s.2.1 53) (151 * t + p) x)) := by
  intro st pp h1 h2 h3 h4
  show (upd (s.2.1 53) (151 * t + p) x (151 * st + pp)).toInt = _
  by_cases c : 151 * st + pp = 151 * t + p
  · have c1 : st = t := by omega
    have c2 : pp = p := by omega
    subst c1
    subst c2
    rw [pk_us]
    exact hx
  · rw [pk_un c]
    exact h st pp h1 h2 h3 (by omega)
theorem l_34i {D S0 : ST} {I q f e p : Nat} {ds : Int} {X : Int32 → Int32 → ST → Prop} {K : ST → Prop} (hB : Bk D) (v0 : VW D (D.1 5500) S0) (hq : q ≤ 4) (h7 : S0.1 5007 = nI q) (h9 : S0.1 5009 = nI e) (he : e ≤ nP D) (hfp : f < p) (hpe : p ≤ e) (hb : BT D I q ds f e S0) (hX : ∀ s, Fr fq53 S0 s → MOi D I q ds f e p q s → X (nI (f + 1)) (nI p) s) : ∀ m t s, t + m = q → 1 ≤ t → Fr fq53 S0 s → MOi D I q ds f e p t s → w_34_L14 (m + 1) (nI (f + 1)) (nI p) (nI t) s X K := by
  have h150 := nP_150 hB
  intro m
  induction m with
  | zero =>
    intro t s ht h1 fr h
    have : t = q := by omega
    subst this
    rw [w_34_L14, fr.1 5007 rfl, h7, nI_leI (by omega) (by omega)]
    exact br_t (Nat.le_refl _) (hX s fr h)
  | succ m ih =>
    intro t s ht h1 fr h
    have v := VW_g fr v0
    rw [w_34_L14, fr.1 5007 rfl, h7, nI_leI (by omega) (by omega)]
    refine br_f (by omega) ?_
    rw [fr.1 5009 rfl, h9, nI_leI (by omega) (by omega)]
    by_cases c : e ≤ p
    · have : p = e := by omega
      refine br_t c (br_t c (w38 (by omega) (by omega) ?_))
      rw [nI_1]
      refine ih (t + 1) _ (by omega) (by omega) (fr_sA 53 fr) (MOi_u (by omega) hpe h ?_)
      rw [this, Nat.sub_self, show q - t = m + 1 by omega, MM_n, l_m1]
    · refine br_f c ?_
      rw [nI_1]
      refine w37 (by omega) (by omega) ?_
      rw [fr.1 5009 rfl, h9, nI_leI (by omega) (by omega)]
      refine br_f c (mp_35 hB v (by omega) (by omega) (w38 (by omega) (by omega) ?_))
      rw [nI_1]
      refine ih (t + 1) _ (by omega) (by omega) (fr_sA 53 fr) (MOi_u (by omega) hpe h ?_)
      have r1 := h t (p + 1) h1 (by omega) (by omega) (Or.inl (by omega))
      have r2 := h (t + 1) (p + 1) (by omega) (by omega) (by omega) (Or.inl (by omega))
      have hh : bt (s.2.1 52 p) t = gT D I ds f t p := by rw [fr.2.1 52 rfl]; exact hb p hfp (by omega) t h1 (by omega)
      have e1 : q - t = m + 1 := by omega
      have e2 : q - (t + 1) = m := by omega
      have e3 : e - p = (e - (p + 1)) + 1 := by omega
      rw [e1] at r1
      rw [e2] at r2
      have rg := MM_rng (h := gT D I ds f) (wP_le hB) (e - (p + 1)) m (t + 1) (p + 1)
      have rb : (mB D s t p).toInt = if gT D I ds f t p = true ∧ ¬ MM (wP D) (gT D I ds f) m (e - (p + 1)) (t + 1) (p + 1) = -1 then (wP D p : Int) + MM (wP D) (gT D I ds f) m (e - (p + 1)) (t + 1) (p + 1) else -1 := by
        unfold mB
        rw [hh]
        exact mb_int r2 ⟨rg.1, by omega⟩ (wP_le hB p)
      rw [e1, e3, MM, ← rb, ← r1]
      by_cases d : s.2.1 53 (151 * t + (p + 1)) < mB D s t p
      · rw [if_pos d, if_pos (i_lt.mp d)]
      · rw [if_neg d, if_neg (fun z => d (i_lt.mpr z))]
theorem l_34 {D S0 : ST} {I q f e : Nat} {ds : Int} {X K : ST → Prop} (hB : Bk D) (v0 : VW D (D.1 5500) S0) (hq : q ≤ 4) (hq1 : 1 ≤ q) (h7 : S0.1 5007 = nI q) (h9 : S0.1 5009 = nI e) (he : e ≤ nP D) (hb : BT D I q ds f e S0) (hX : ∀ s, Fr fq53 S0 s → MO D I q ds f e s → X s) : ∀ m s, f + m ≤ e → Fr fq53 S0 s → (∀ st pp, 1 ≤ st → st ≤ q → f + m < pp → pp ≤ e → (s.2.1 53 (151 * st + pp)).toInt = MM (wP D) (gT D I ds f) (q - st) (e - pp) st pp) → w_34_L3 (m + 1) (nI (f + 1)) (nI (f + m)) s X K := by
  have h150 := nP_150 hB
  intro m
  induction m with
  | zero =>
    intro s hm fr h
    rw [w_34_L3, nI_ltI (by omega) (by omega)]
    refine br_t (by omega) (hX s fr ?_)
    intro st pp a1 a2 a3 a4
    exact h st pp a1 a2 (by omega) a4
  | succ m ih =>
    intro s hm fr h
    have v := VW_g fr v0
    rw [w_34_L3, nI_ltI (by omega) (by omega)]
    refine br_f (by omega) ?_
    rw [fr.1 5007 rfl, h7]
    refine w38 (by omega) (by omega) ⟨q, ?_⟩
    have fr1 : Fr fq53 S0 (sA s 53 (upd (s.2.1 53) (151 * q + (f + (m + 1))) 0)) := fr_sA 53 fr
    have hb1 : BT D I q ds f e (sA s 53 (upd (s.2.1 53) (151 * q + (f + (m + 1))) 0)) := by
      intro p a1 a2 k a3 a4
      rw [fr1.2.1 52 rfl]
      exact hb p a1 a2 k a3 a4
    have go := l_34i (S0 := sA s 53 (upd (s.2.1 53) (151 * q + (f + (m + 1))) 0)) (I := I) (f := f) (p := f + (m + 1)) (ds := ds) (X := fun y1 y2 s3 => w_34_L3 (m + 1) y1 (y2 + (-1 : Int32)) s3 X K) (K := K) hB (VW_g fr1 v0) hq (by rw [fr1.1 5007 rfl]; exact h7) (by rw [fr1.1 5009 rfl]; exact h9) he (by omega) hm hb1 ?_ (q - 1) 1 _ (by omega) (Nat.le_refl _) (fr_rfl _ _) ?_
    · rw [show q - 1 + 1 = q by omega] at go
      exact go
    · intro s2 f2 h2
      rw [nI_m1 (by omega), show f + (m + 1) - 1 = f + m by omega]
      refine ih s2 (by omega) (fr_tr (F := fq53) rfl fr1 f2) ?_
      intro st pp a1 a2 a3 a4
      exact h2 st pp a1 a2 a4 (by omega)
    · intro st pp a1 a2 a3 a4
      show (upd (s.2.1 53) (151 * q + (f + (m + 1))) 0 (151 * st + pp)).toInt = _
      by_cases c : 151 * st + pp = 151 * q + (f + (m + 1))
      · have c1 : st = q := by omega
        have c2 : pp = f + (m + 1) := by omega
        subst c1
        subst c2
        rw [pk_us, Nat.sub_self, MM_0, l_0]
      · rw [pk_un c]
        exact h st pp a1 a2 (by omega) a3
theorem mp_34 {D s : ST} {I q f e : Nat} {ds : Int} {K : ST → Prop} (hB : Bk D) (v0 : VW D (D.1 5500) s) (hq : q ≤ 4) (hq1 : 1 ≤ q) (h7 : s.1 5007 = nI q) (h9 : s.1 5009 = nI e) (he : e ≤ nP D) (hf : f < e) (hb : BT D I q ds f e s) (k : ∀ s1, Fr fq53 s s1 → MO D I q ds f e s1 → K s1) : w_34 (nI (f + 1)) s K := by
  unfold w_34
  rw [h9]
  refine ⟨e - f + 1, ?_⟩
  have go := l_34 (I := I) (f := f) (ds := ds) (X := fun s4 => K s4) (K := K) hB v0 hq hq1 h7 h9 he hb k (e - f) s (by omega) (fr_rfl _ _) (fun st pp a1 a2 a3 a4 => absurd a4 (by omega))
  rw [show f + (e - f) = e by omega] at go
  exact go
theorem dP_mono {D : ST} {p q : Nat} (hp : p ≤ q) (hq : q < nP D) : dP D p ≤ dP D q := by
  have hp2 : p < nP D := by omega
  unfold dP
  rw [ro_e hp2, ro_e hq]
  exact kL_day hp2 hq hp
abbrev fq5009 : FS := ([5009], [], [], false, false)
theorem l_32e {D S0 : ST} {f : Nat} {ds : Int} {x1 x2 x3 x4 : Int32} {X : Int32 → Int32 → Int32 → ST → Prop} {K : Int32 → ST → Prop} (hB : Bk D) (v0 : VW D (D.1 5500) S0) (h4 : x4.toInt = dP D f + ds) (hX : ∀ e s, Fr fq5009 S0 s → s.1 5009 = nI e → f < e → e ≤ nP D → (∀ p, f < p → p < nP D → (dP D p - dP D f ≤ ds ↔ p < e)) → X x1 x2 x3 s) : ∀ m e s, e + m = nP D → f < e → Fr fq5009 S0 s → s.1 5009 = nI e → (∀ p, f < p → p < e → dP D p - dP D f ≤ ds) → w_32_L33 (m + 1) x1 x2 x3 x4 s X K := by
  have h150 := nP_150 hB
  intro m
  induction m with
  | zero =>
    intro e s hm hf fr h9 h
    have v := VW_g fr v0
    have e801 : s.1 801 = nI (nP D) := v.2.1.2.1
    rw [w_32_L33, e801, h9, nI_leI (by omega) (by omega)]
    refine br_t (by omega) (hX e s fr h9 hf (by omega) ?_)
    intro p a1 a2
    exact ⟨fun _ => by omega, fun z => h p a1 z⟩
  | succ m ih =>
    intro e s hm hf fr h9 h
    have v := VW_g fr v0
    have e801 : s.1 801 = nI (nP D) := v.2.1.2.1
    have he : e < nP D := by omega
    rw [w_32_L33, e801, h9, nI_leI (by omega) (by omega)]
    refine br_f (by omega) ?_
    rw [wAtR hB v he, cc3 hB v.2.1.1 (ro_lt hB he), i_lt, h4, h9, nI_1]
    by_cases c : dP D f + ds < dP D e
    · refine br_t c (hX e s fr h9 hf (by omega) ?_)
      intro p a1 a2
      constructor
      · intro z
        by_cases q : p < e
        · exact q
        · have := dP_mono (D := D) (p := e) (q := p) (by omega) a2
          omega
      · intro z; exact h p a1 z
    · refine br_f c ?_
      refine ih (e + 1) _ (by omega) (by omega) (fr_sI 5009 fr) rfl ?_
      intro p a1 a2
      by_cases q : p = e
      · subst q; omega
      · exact h p a1 (by omega)
abbrev fq52 : FS := ([], [52], [], false, false)
theorem gT_e {D : ST} {I f k p e : Nat} {ds : Int} (hd : ∀ p, f < p → p < nP D → (dP D p - dP D f ≤ ds ↔ p < e)) (he : e ≤ nP D) (h1 : f < p) (h2 : p < e) : gT D I ds f k p = (fH D I k p && fA D I f k p) := by
  unfold gT fT
  rw [decide_eq_true (show p < nP D by omega), decide_eq_true ((hd p h1 (by omega)).mpr h2), Bool.and_true, Bool.and_true]
theorem l_32f {D S0 : ST} {I q f e : Nat} {ds : Int} {days x1 x2 : Int32} {X : Int32 → Int32 → ST → Prop} {K : Int32 → ST → Prop} (hB : Bk D) (hI : FI D I q days S0) (hq : q ≤ 4) (h9 : S0.1 5009 = nI e) (he : e ≤ nP D) (hf : f < e) (hd : ∀ p, f < p → p < nP D → (dP D p - dP D f ≤ ds ↔ p < e)) (hX : ∀ s, Fr fq52 S0 s → BT D I q ds f e s → X x1 x2 s) : ∀ m p s, p + m = e → f < p → Fr fq52 S0 s → (∀ pp, f < pp → pp < p → ∀ k, 1 ≤ k → k < q → bt (s.2.1 52 pp) k = gT D I ds f k pp) → w_32_L61 (m + 1) x1 x2 (nI (ro D f)) (nI p) s X K := by
  have h150 := nP_150 hB
  obtain ⟨v0, i7, i8, i54, i51⟩ := hI
  intro m
  induction m with
  | zero =>
    intro p s hm hfp fr h
    have : p = e := by omega
    subst this
    rw [w_32_L61, fr.1 5009 rfl, h9, nI_leI (by omega) (by omega)]
    exact br_t (Nat.le_refl _) (hX s fr h)
  | succ m ih =>
    intro p s hm hfp fr h
    have v := VW_g fr v0
    have hp : p < nP D := by omega
    have e150 : (150 : Int32) = nI 150 := rfl
    rw [w_32_L61, fr.1 5009 rfl, h9, e150, nI_leI (by omega) (by omega), nI_leI (by omega) (by omega)]
    refine br_f (by omega) (br_f (by omega) ⟨pin_nI (by omega) (by omega), ?_⟩)
    rw [wAtR hB v hp]
    refine mp_33 (I := I) (q := q) (days := days) hB hq (by rw [fr.1 5007 rfl]; exact i7) (fun k hk => by rw [fr.2.1 54 rfl]; exact i54 k hk) v.2.1.1 (by omega) hp ?_
    intro r hr
    refine ⟨pin_nI (by omega) (by omega), ?_⟩
    rw [nI_clamp (by omega), nI_1]
    refine ih (p + 1) _ (by omega) (by omega) (fr_sA 52 fr) ?_
    intro pp a1 a2 k a3 a4
    show bt (upd (s.2.1 52) p (s.2.1 51 p &&& r) pp) k = _
    by_cases c : pp = p
    · subst c
      rw [pk_us, bt_and, hr k a3 a4, fr.2.1 51 rfl, i51 pp hp k a4, gT_e hd he a1 (by omega)]
    · rw [pk_un c]
      exact h pp a1 (by omega) k a3 a4
/-- what is known behind a first row -/
def SAf (D : ST) (I q : Nat) (ds : Int) (f e : Nat) (s : ST) : Prop := s.1 5009 = nI e ∧ f < e ∧ e ≤ nP D ∧ (∀ p, f < p → p < nP D → (dP D p - dP D f ≤ ds ↔ p < e)) ∧ BT D I q ds f e s ∧ MO D I q ds f e s
abbrev fqF2 : FS := ([5009], [52, 53], [], false, false)
theorem FI_F {D S s : ST} {I q : Nat} {days : Int32} (h : FI D I q days S) (f : Fr fqF2 S s) : FI D I q days s := by
  obtain ⟨v0, i7, i8, i54, i51⟩ := h
  exact ⟨VW_g f v0, by rw [f.1 5007 rfl]; exact i7, by rw [f.1 5008 rfl]; exact i8, fun k hk => by rw [f.2.1 54 rfl]; exact i54 k hk, fun p hp k hk => by rw [f.2.1 51 rfl]; exact i51 p hp k hk⟩
theorem bt_1 : bt 1 0 = true := rfl
theorem mp_32 {D s : ST} {I q f : Nat} {days x : Int32} {K : Int32 → ST → Prop} (hB : Bk D) (hI : FI D I q days s) (hq : q ≤ 4) (hq1 : 1 ≤ q) (hds : 0 ≤ days.toInt ∧ days.toInt ≤ 3999) (hf : f < nP D) (k0 : fH D I 0 f = false → K 0 s) (k1 : fH D I 0 f = true → ∀ e s1, Fr fqF2 s s1 → SAf D I q days.toInt f e s1 → K (if ¬ MM (wP D) (gT D I days.toInt f) (q - 1) (e - (f + 1)) 1 (f + 1) = -1 ∧ x.toInt - wP D f ≤ MM (wP D) (gT D I days.toInt f) (q - 1) (e - (f + 1)) 1 (f + 1) then 1 else 0) s1) : w_32 (nI f) x s K := by
  have h150 := nP_150 hB
  have hI0 := hI
  obtain ⟨v0, i7, i8, i54, i51⟩ := hI0
  have e149 : (149 : Int32).toInt = 149 := rfl
  have e0 : (0 : Int32) = nI 0 := rfl
  unfold w_32
  simp only [e_181, t_181, l_0, e149, e_184, t_184, nI_1]
  rw [nI_toInt (by omega)]
  refine br_f (fun z => z ⟨by omega, by omega⟩) ⟨pin_nI (by omega) (by omega), ?_⟩
  rw [nI_clamp (by omega)]
  have eb : (bitI 0 (s.2.1 51 f) = 0) ↔ bt (s.2.1 51 f) 0 = false := bt_bit (j := 0) (by omega)
  rw [eb, i51 f hf 0 (by omega)]
  by_cases c : fH D I 0 f = false
  · exact br_f (fun z => z c) (k0 c)
  · refine br_t c ?_
    have c2 : fH D I 0 f = true := by
      cases e : fH D I 0 f with
      | true => rfl
      | false => exact absurd e c
    have hd0 := day_rng hB hf
    have fD := v0.2.1.1
    rw [wAtR hB v0 hf, cc3 hB fD (ro_lt hB hf), i8]
    refine ⟨nP D - (f + 1) + 1, ?_⟩
    have h4 : (D.2.1 60 (ro D f) + days).toInt = dP D f + days.toInt := by
      have : (D.2.1 60 (ro D f)).toInt = dP D f := rfl
      rw [t_add (by omega) (by omega)]
      rfl
    have f1 : Fr fqF2 s (sI s 5009 (nI (f + 1))) := fr_sI 5009 (fr_rfl _ _)
    refine l_32e (S0 := sI s 5009 (nI (f + 1))) (f := f) hB (VW_g f1 v0) h4 ?_ (nP D - (f + 1)) (f + 1) _ (by omega) (by omega) (fr_rfl _ _) rfl (fun p a1 a2 => absurd a2 (by omega))
    intro e s2 f2 h9 hfe he hd
    have f02 : Fr fqF2 s s2 := fr_tr (F := fq5009) rfl f1 f2
    refine ⟨e - (f + 1) + 1, ?_⟩
    rw [nI_1]
    refine l_32f (I := I) (q := q) (ds := days.toInt) (days := days) hB (FI_F hI f02) hq h9 he hfe hd ?_ (e - (f + 1)) (f + 1) s2 (by omega) (by omega) (fr_rfl _ _) (fun pp a1 a2 => absurd a2 (by omega))
    intro s3 f3 hbt
    have f03 : Fr fqF2 s s3 := fr_tr (F := fq52) rfl f02 f3
    have hI3 := FI_F hI f03
    have h93 : s3.1 5009 = nI e := by rw [f3.1 5009 rfl]; exact h9
    rw [nI_1]
    refine mp_34 (I := I) (q := q) (ds := days.toInt) hB hI3.1 hq hq1 hI3.2.1 h93 he hfe hbt ?_
    intro s4 f4 hmo
    refine ⟨pin_nI (by omega) (by omega), ?_⟩
    rw [nI_clamp (by omega)]
    have f04 : Fr fqF2 s s4 := fr_tr (F := fq53) rfl f03 f4
    have f05 : Fr fqF2 s (sA s4 52 (upd (s4.2.1 52) f 1)) := fr_sA 52 f04
    have v5 := (FI_F hI f05).1
    have hsa : SAf D I q days.toInt f e (sA s4 52 (upd (s4.2.1 52) f 1)) := by
      refine ⟨by show s4.1 5009 = nI e; rw [f4.1 5009 rfl]; exact h93, hfe, he, hd, ?_, hmo⟩
      intro p a1 a2 k a3 a4
      show bt (upd (s4.2.1 52) f 1 p) k = _
      rw [pk_un (by omega), f4.2.1 52 rfl]
      exact hbt p a1 a2 k a3 a4
    have kk := k1 c2 e _ f05 hsa
    rw [e0]
    refine mp_36 hB v5 (by omega) hf ?_
    have r2 := hmo 1 (f + 1) (Nat.le_refl _) hq1 (by omega) (by omega)
    have rg := MM_rng (h := gT D I days.toInt f) (wP_le hB) (e - (f + 1)) (q - 1) 1 (f + 1)
    have rb : (mB D (sA s4 52 (upd (s4.2.1 52) f 1)) 0 f).toInt = if true = true ∧ ¬ MM (wP D) (gT D I days.toInt f) (q - 1) (e - (f + 1)) 1 (f + 1) = -1 then (wP D f : Int) + MM (wP D) (gT D I days.toInt f) (q - 1) (e - (f + 1)) 1 (f + 1) else -1 := by
      unfold mB
      have e1 : bt ((sA s4 52 (upd (s4.2.1 52) f 1)).2.1 52 f) 0 = true := by
        show bt (upd (s4.2.1 52) f 1 f) 0 = true
        rw [pk_us]; exact bt_1
      rw [e1]
      exact mb_int r2 ⟨rg.1, by omega⟩ (wP_le hB f)
    have hw := wP_le hB f
    have e2 : (¬ mB D (sA s4 52 (upd (s4.2.1 52) f 1)) 0 f = -1 ∧ x.toInt ≤ (mB D (sA s4 52 (upd (s4.2.1 52) f 1)) 0 f).toInt) ↔ (¬ MM (wP D) (gT D I days.toInt f) (q - 1) (e - (f + 1)) 1 (f + 1) = -1 ∧ x.toInt - wP D f ≤ MM (wP D) (gT D I days.toInt f) (q - 1) (e - (f + 1)) 1 (f + 1)) := by
      rw [i_eq, l_m1, rb]
      by_cases z : MM (wP D) (gT D I days.toInt f) (q - 1) (e - (f + 1)) 1 (f + 1) = -1
      · rw [if_neg (fun y => y.2 z)]
        constructor
        · intro y; exact absurd rfl y.1
        · intro y; exact absurd z y.1
      · rw [if_pos ⟨rfl, z⟩]
        omega
    rw [ifc e2]
    exact kk
