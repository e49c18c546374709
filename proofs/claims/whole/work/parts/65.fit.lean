/-! ===== the class's fitter: how many ===== -/
theorem gT_far {D : ST} {I f k p e : Nat} {ds : Int} (hd : ∀ p, f < p → p < nP D → (dP D p - dP D f ≤ ds ↔ p < e)) (h1 : f < e) (h2 : e ≤ p) : gT D I ds f k p = false := by
  unfold gT fT
  by_cases c : p < nP D
  · rw [decide_eq_false (show ¬ dP D p - dP D f ≤ ds from fun z => by have := (hd p (by omega) c).mp z; omega), Bool.and_false, Bool.false_and]
  · rw [decide_eq_false c, Bool.and_false]
theorem head_pre {pre pre2 : List Nat} {f : Nat} (h : pre <+: pre2) (hp : pre.head? = some f) : pre2.head? = some f := by
  obtain ⟨t, e⟩ := h
  cases pre with
  | nil => cases hp
  | cons a r => rw [← e]; exact hp
theorem EE_cut {D : ST} {I f e : Nat} {ds : Int} (hd : ∀ p, f < p → p < nP D → (dP D p - dP D f ≤ ds ↔ p < e)) (h1 : f < e) (he : e ≤ nP D) {l k : Nat} {pre : List Nat} {x : Int} (hp : pre.head? = some f) (hk : k ≤ e) : EE (gQ D I ds) (wP D) l (nP D - k) pre k x = EE (gQ D I ds) (wP D) l (e - k) pre k x := by
  rw [show nP D - k = (e - k) + (nP D - e) by omega]
  refine EE_ext (e - k) l pre k x ?_
  intro p pre2 a1 a2
  rw [gQ_h pre2 p (head_pre a1 hp)]
  exact gT_far hd h1 (by omega)
theorem head_app {pre : List Nat} {f p : Nat} (hp : pre.head? = some f) : (pre ++ [p]).head? = some f := head_pre (List.prefix_append _ _) hp
theorem len_app {pre : List Nat} {p st : Nat} (h : pre.length = st) : (pre ++ [p]).length = st + 1 := by rw [List.length_append, List.length_singleton, h]
/-- whether a place leads on -/
def LD (D : ST) (I q : Nat) (ds : Int) (st : Nat) (pre : List Nat) (p : Nat) (x : Int) : Prop := gQ D I ds pre p = true ∧ EE (gQ D I ds) (wP D) (q - (st + 1)) (nP D - (p + 1)) (pre ++ [p]) (p + 1) (x - wP D p) ≠ []
theorem ld_iff {D s : ST} {I q f e st p : Nat} {ds : Int} {pre : List Nat} {x : Int32} (hB : Bk D) (hq : q ≤ 4) (hS : SAf D I q ds f e s) (hp : pre.head? = some f) (hl : pre.length = st) (h1 : 1 ≤ st) (h2 : st < q) (h3 : f < p) (h4 : p < e) : (¬ mB D s st p = -1 ∧ x.toInt ≤ (mB D s st p).toInt) ↔ LD D I q ds st pre p x.toInt := by
  obtain ⟨h9, hfe, he, hd, hbt, hmo⟩ := hS
  have r2 := hmo (st + 1) (p + 1) (by omega) (by omega) (by omega) (by omega)
  have rg := MM_rng (h := gT D I ds f) (wP_le hB) (e - (p + 1)) (q - (st + 1)) (st + 1) (p + 1)
  have rb : (mB D s st p).toInt = if gT D I ds f st p = true ∧ ¬ MM (wP D) (gT D I ds f) (q - (st + 1)) (e - (p + 1)) (st + 1) (p + 1) = -1 then (wP D p : Int) + MM (wP D) (gT D I ds f) (q - (st + 1)) (e - (p + 1)) (st + 1) (p + 1) else -1 := by
    unfold mB
    rw [hbt p h3 h4 st h1 h2]
    exact mb_int r2 ⟨rg.1, by omega⟩ (wP_le hB p)
  have em := EE_MM (g := gQ D I ds) (w := wP D) (h := gT D I ds f) (f := f) gQ_h (wP_le hB) (e - (p + 1)) (q - (st + 1)) (pre ++ [p]) (p + 1) (x.toInt - wP D p) (head_app hp)
  rw [len_app hl] at em
  unfold LD
  rw [EE_cut hd hfe he (head_app hp) (by omega), em, gQ_h pre p hp, hl, i_eq, l_m1, rb]
  by_cases z : gT D I ds f st p = true ∧ ¬ MM (wP D) (gT D I ds f) (q - (st + 1)) (e - (p + 1)) (st + 1) (p + 1) = -1
  · rw [if_pos z]
    constructor
    · intro y; exact ⟨z.1, z.2, by omega⟩
    · intro y; exact ⟨by omega, by omega⟩
  · rw [if_neg z]
    constructor
    · intro y; exact absurd rfl y.1
    · intro y; exact absurd ⟨y.1, y.2.1⟩ z
theorem EE_len {D : ST} {I l p : Nat} {ds : Int} {pre : List Nat} {x : Int} (hp : p < nP D) : (EE (gQ D I ds) (wP D) (l + 1) (nP D - p) pre p x).length = (if gQ D I ds pre p = true then (EE (gQ D I ds) (wP D) l (nP D - (p + 1)) (pre ++ [p]) (p + 1) (x - wP D p)).length else 0) + (EE (gQ D I ds) (wP D) (l + 1) (nP D - (p + 1)) pre (p + 1) x).length := by
  rw [show nP D - p = (nP D - (p + 1)) + 1 by omega, EE_s, List.length_append]
  by_cases c : gQ D I ds pre p = true
  · rw [if_pos c, if_pos c]
  · rw [if_neg c, if_neg c]; rfl
theorem nI_sub {a b : Nat} (h : b ≤ a) : nI a - nI b = nI (a - b) := by
  have := nI_sb (a - b) b
  rw [show a - b + b = a by omega, ← Int32.sub_eq_add_neg] at this
  exact this
theorem l_28 {D s : ST} {I q f e : Nat} {days : Int32} (hB : Bk D) (hI : FI D I q days s) (hq : q ≤ 4) (hS : SAf D I q days.toInt f e s) : ∀ l st pre place bound (x : Int32) (K : Int32 → ST → Prop), st + l = q → 1 ≤ st → pre.length = st → pre.head? = some f → f < place → place ≤ e → 1 ≤ bound → bound ≤ 100000 → (x.toInt ≤ 4000000 ∧ -(1000000 * (st : Int)) ≤ x.toInt) → EE (gQ D I days.toInt) (wP D) l (nP D - place) pre place x.toInt ≠ [] → K (nI (min bound (EE (gQ D I days.toInt) (wP D) l (nP D - place) pre place x.toInt).length)) s → wr_28 (l + 1) (nI st) (nI place) x (nI bound) s K := by
  have h150 := nP_150 hB
  intro l
  induction l with
  | zero =>
    intro st pre place bound x K hst h1 hl hp h3 h4 b1 b2 hx hn k
    rw [wr_28]
    unfold o_28
    rw [hI.2.1, nI_ltI (by omega) (by omega)]
    refine br_f (by omega) ?_
    rw [EE_0] at hn k
    by_cases c : x.toInt ≤ 0
    · rw [if_pos c, List.length_singleton, show min bound 1 = 1 by omega] at k
      exact k
    · rw [if_neg c] at hn
      exact absurd rfl hn
  | succ l ih =>
    intro st pre place bound x K hst h1 hl hp h3 h4 b1 b2 hx hn k
    rw [wr_28]
    unfold o_28
    rw [hI.2.1, nI_ltI (by omega) (by omega)]
    refine br_t (by omega) ⟨e - place + 1, ?_⟩
    have he := hS.2.2.1
    have lp : ∀ m p size, p + m = e → f < p → size ≤ bound → min bound (size + (EE (gQ D I days.toInt) (wP D) (l + 1) (nP D - p) pre p x.toInt).length) = min bound (EE (gQ D I days.toInt) (wP D) (l + 1) (nP D - place) pre place x.toInt).length → w_28_L10 (wr_28 (l + 1)) (m + 1) (nI st) x (nI bound) (nI size) (nI p) s (fun y5 s9 => K y5 s9) K := by
      intro m
      induction m with
      | zero =>
        intro p size hm hfp hsz ht
        rw [w_28_L10, hS.1, nI_leI (by omega) (by omega)]
        refine br_t (by omega) ?_
        rw [EE_cut hS.2.2.2.1 hS.2.1 he hp (by omega), show e - p = 0 by omega, EE_n] at ht
        rw [← ht, List.length_nil, show min bound (size + 0) = size by omega] at k
        exact k
      | succ m ihm =>
        intro p size hm hfp hsz ht
        have hpn : p < nP D := by omega
        rw [w_28_L10, hS.1, nI_leI (by omega) (by omega), nI_leI (by omega) (by omega)]
        refine br_f (by omega) ?_
        by_cases c : bound ≤ size
        · refine br_t c ?_
          rw [← ht, show min bound (size + (EE (gQ D I days.toInt) (wP D) (l + 1) (nP D - p) pre p x.toInt).length) = size by omega] at k
          exact k
        · refine br_f c (mp_36 hB hI.1 (by omega) hpn ?_)
          have li := ld_iff (x := x) hB hq hS hp hl h1 (by omega) hfp (show p < e by omega)
          rw [nI_1, nI_1]
          rw [EE_len hpn] at ht
          by_cases d : LD D I q days.toInt st pre p x.toInt
          · rw [if_pos (li.mpr d)]
            refine br_f (by decide) ?_
            rw [wAtR hB hI.1 hpn, w119r hB hI.1 hpn, nI_sub (by omega)]
            have hw := wP_le hB p
            have ex : (x - nI (wP D p)).toInt = x.toInt - wP D p := by
              rw [t_sub (by rw [nI_toInt (by omega)]; omega) (by rw [nI_toInt (by omega)]; omega), nI_toInt (by omega)]
            rw [if_pos d.1] at ht
            have d2 := d.2
            rw [show q - (st + 1) = l by omega] at d2
            refine ih (st + 1) (pre ++ [p]) (p + 1) (bound - size) _ _ (by omega) (by omega) (len_app hl) (head_app hp) (by omega) (by omega) (by omega) (by omega) (by rw [ex]; omega) (by rw [ex]; exact d2) ?_
            rw [ex, nI_add]
            exact ihm (p + 1) _ (by omega) (by omega) (by omega) (by omega)
          · rw [if_neg (fun z => d (li.mp z))]
            refine br_t rfl (ihm (p + 1) size (by omega) (by omega) hsz ?_)
            by_cases g : gQ D I days.toInt pre p = true
            · rw [if_pos g] at ht
              have z : EE (gQ D I days.toInt) (wP D) l (nP D - (p + 1)) (pre ++ [p]) (p + 1) (x.toInt - wP D p) = [] := by
                by_cases y : EE (gQ D I days.toInt) (wP D) l (nP D - (p + 1)) (pre ++ [p]) (p + 1) (x.toInt - wP D p) = []
                · exact y
                · exact absurd ⟨g, by rw [show q - (st + 1) = l by omega]; exact y⟩ d
              rw [z, List.length_nil, Nat.zero_add] at ht
              exact ht
            · rw [if_neg g, Nat.zero_add] at ht
              exact ht
    exact lp (e - place) place 0 (by omega) h3 (by omega) (by rw [Nat.zero_add])
theorem mp_28 {D s : ST} {I q f e : Nat} {days x : Int32} {bound : Nat} {K : Int32 → ST → Prop} (hB : Bk D) (hI : FI D I q days s) (hq : q ≤ 4) (hq1 : 1 ≤ q) (hS : SAf D I q days.toInt f e s) (b1 : 1 ≤ bound) (b2 : bound ≤ 100000) (hx : x.toInt ≤ 4000000 ∧ -1000000 ≤ x.toInt) (hn : EE (gQ D I days.toInt) (wP D) (q - 1) (nP D - (f + 1)) [f] (f + 1) x.toInt ≠ []) (k : K (nI (min bound (EE (gQ D I days.toInt) (wP D) (q - 1) (nP D - (f + 1)) [f] (f + 1) x.toInt).length)) s) : w_28 1 (nI (f + 1)) x (nI bound) s K :=
  ⟨q - 1 + 1, by omega, l_28 hB hI hq hS (q - 1) 1 [f] (f + 1) bound x K (by omega) (Nat.le_refl _) rfl rfl (by omega) (by have := hS.2.1; omega) b1 b2 (by omega) hn k⟩
/-- whether a first place leads on -/
def LF (D : ST) (I q : Nat) (ds : Int) (f : Nat) (x : Int) : Prop := fH D I 0 f = true ∧ EE (gQ D I ds) (wP D) (q - 1) (nP D - (f + 1)) [f] (f + 1) (x - wP D f) ≠ []
theorem mp_32L {D s : ST} {I q f : Nat} {days x : Int32} {K : Int32 → ST → Prop} (hB : Bk D) (hI : FI D I q days s) (hq : q ≤ 4) (hq1 : 1 ≤ q) (hds : 0 ≤ days.toInt ∧ days.toInt ≤ 3999) (hf : f < nP D) (k0 : ¬ LF D I q days.toInt f x.toInt → ∀ s1, Fr fqF2 s s1 → K 0 s1) (k1 : LF D I q days.toInt f x.toInt → ∀ e s1, Fr fqF2 s s1 → SAf D I q days.toInt f e s1 → K 1 s1) : w_32 (nI f) x s K := by
  refine mp_32 hB hI hq hq1 hds hf (fun c => k0 (fun z => by have z1 := z.1; rw [c] at z1; cases z1) s (fr_rfl _ _)) ?_
  intro c e s1 f1 hS
  have em := EE_MM (g := gQ D I days.toInt) (w := wP D) (h := gT D I days.toInt f) (f := f) gQ_h (wP_le hB) (e - (f + 1)) (q - 1) [f] (f + 1) (x.toInt - wP D f) rfl
  rw [← EE_cut hS.2.2.2.1 hS.2.1 hS.2.2.1 rfl (by have := hS.2.1; omega), show [f].length = 1 from rfl] at em
  by_cases d : LF D I q days.toInt f x.toInt
  · rw [if_pos (em.mp d.2)]
    exact k1 d e s1 f1 hS
  · rw [if_neg (fun z => d ⟨c, em.mpr z⟩)]
    exact k0 d s1 f1
theorem gQ_0 {D : ST} {I p : Nat} {ds : Int} (hp : p < nP D) : gQ D I ds [] p = fH D I 0 p := by
  show (fH D I 0 p && decide (p < nP D)) = _
  rw [decide_eq_true hp, Bool.and_true]
theorem l_27 {D S0 : ST} {I q T : Nat} {days x : Int32} {X K : Int32 → ST → Prop} (hB : Bk D) (hI : FI D I q days S0) (hq : q ≤ 4) (hq1 : 1 ≤ q) (hds : 0 ≤ days.toInt ∧ days.toInt ≤ 3999) (hx : 0 ≤ x.toInt ∧ x.toInt ≤ 4000000) (hX : ∀ s, Fr fqF2 S0 s → X (nI T) s) : ∀ m p size s, p + m = nP D → Fr fqF2 S0 s → size ≤ 100000 → min 100000 (size + (EE (gQ D I days.toInt) (wP D) q (nP D - p) [] p x.toInt).length) = T → w_27_L4 (m + 1) x (nI size) (nI p) s X K := by
  have h150 := nP_150 hB
  intro m
  induction m with
  | zero =>
    intro p size s hm fr hsz ht
    have v := VW_g fr hI.1
    have e801 : s.1 801 = nI (nP D) := v.2.1.2.1
    rw [w_27_L4, e801, nI_leI (by omega) (by omega)]
    refine br_t (by omega) ?_
    rw [show nP D - p = 0 by omega, show q = (q - 1) + 1 by omega, EE_n, List.length_nil] at ht
    rw [show size = T by omega]
    exact hX s fr
  | succ m ih =>
    intro p size s hm fr hsz ht
    have v := VW_g fr hI.1
    have hpn : p < nP D := by omega
    have e801 : s.1 801 = nI (nP D) := v.2.1.2.1
    have eM : (100000 : Int32) = nI 100000 := rfl
    rw [w_27_L4, e801, eM, nI_leI (by omega) (by omega), nI_leI (by omega) (by omega)]
    refine br_f (by omega) ?_
    by_cases c : 100000 ≤ size
    · refine br_t c ?_
      rw [show size = T by omega]
      exact hX s fr
    · refine br_f c ?_
      have el := EE_len (I := I) (l := q - 1) (ds := days.toInt) (pre := []) (x := x.toInt) hpn
      rw [show q - 1 + 1 = q by omega, List.nil_append, gQ_0 hpn] at el
      rw [el] at ht
      rw [wAtR hB v hpn, w119r hB v hpn, nI_1]
      refine mp_32L hB (FI_F hI fr) hq hq1 hds hpn ?_ ?_
      · intro d s1 f1
        refine br_t rfl (ih (p + 1) size s1 (by omega) (fr_tr (F := fqF2) rfl fr f1) hsz ?_)
        by_cases g : fH D I 0 p = true
        · have z : EE (gQ D I days.toInt) (wP D) (q - 1) (nP D - (p + 1)) [p] (p + 1) (x.toInt - wP D p) = [] := by
            by_cases y : EE (gQ D I days.toInt) (wP D) (q - 1) (nP D - (p + 1)) [p] (p + 1) (x.toInt - wP D p) = []
            · exact y
            · exact absurd ⟨g, y⟩ d
          rw [if_pos g, z, List.length_nil, Nat.zero_add] at ht
          exact ht
        · rw [if_neg g, Nat.zero_add] at ht
          exact ht
      · intro d e s1 f1 hS
        refine br_f (by decide) ?_
        have hw := wP_le hB p
        have ex : (x - nI (wP D p)).toInt = x.toInt - wP D p := by
          rw [t_sub (by rw [nI_toInt (by omega)]; omega) (by rw [nI_toInt (by omega)]; omega), nI_toInt (by omega)]
        rw [nI_sub (by omega)]
        rw [if_pos d.1] at ht
        refine mp_28 hB (FI_F hI (fr_tr (F := fqF2) rfl fr f1)) hq hq1 hS (by omega) (by omega) (by rw [ex]; omega) (by rw [ex]; exact d.2) ?_
        rw [ex, nI_add]
        exact ih (p + 1) _ s1 (by omega) (fr_tr (F := fqF2) rfl fr f1) (by omega) (by omega)
theorem mp_27 {D s : ST} {I q : Nat} {days x : Int32} {K : Int32 → ST → Prop} (hB : Bk D) (hI : FI D I q days s) (hq : q ≤ 4) (hq1 : 1 ≤ q) (hds : 0 ≤ days.toInt ∧ days.toInt ≤ 3999) (hx : 0 ≤ x.toInt ∧ x.toInt ≤ 4000000) (k : ∀ s1, Fr fqF2 s s1 → K (nI (min 100000 (EE (gQ D I days.toInt) (wP D) q (nP D) [] 0 x.toInt).length)) s1) : w_27 x s K := by
  refine ⟨nP D + 1, ?_⟩
  have go := l_27 (X := fun y2 s9 => K y2 s9) (K := K) hB hI hq hq1 hds hx k (nP D) 0 0 s (by omega) (fr_rfl _ _) (by omega) (by rw [Nat.zero_add, Nat.sub_zero])
  exact go
