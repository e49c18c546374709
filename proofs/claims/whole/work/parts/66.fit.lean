/-! ===== the class's fitter: the first one ===== -/
theorem w120r {D s : ST} {b : Nat} {K : Int32 → ST → Prop} (hB : Bk D) (v : VW D (D.1 5500) s) (hb : b < nP D) (k : K (nI b) s) : w_120 (nI (ro D b)) s K := by
  have h1 := ro_lt hB hb
  have h2 := (bkR hB).2.2
  have hk := (kL_lt hB hb).2
  have e10 := v.2.2.2.1 b hb
  rw [← ro_e hb] at e10 hk
  unfold w_120
  rw [nI_clamp (by omega), v.2.1.2.2.2 _ h1, e10]
  refine br_f (nI_pos (by omega)) (br_f (n150 (by omega)) ⟨pin_nI (by omega) (by omega), br_f ?_ ⟨pin_nI (by omega) (by omega), k⟩⟩)
  rw [kp_le hB h1]
  exact fun z => z hk
theorem w120n {D s : ST} {i : Nat} {K : Int32 → ST → Prop} (hB : Bk D) (v : VW D (D.1 5500) s) (hi : i < nR D) (hk : ¬ kp D (D.1 5500) i = true) (k : K (-1) s) : w_120 (nI i) s K := by
  have h2 := (bkR hB).2.2
  unfold w_120
  rw [nI_clamp (by omega), v.2.1.2.2.2 _ hi]
  exact br_f (nI_pos (by omega)) (br_f (n150 (by omega)) ⟨pin_nI (by omega) (by omega), br_t ((kp_le hB hi).mpr hk) k⟩)
theorem row_c {D : ST} {i : Nat} (hi : i < nR D) : (∃ b, b < nP D ∧ i = ro D b) ∨ ¬ kp D (D.1 5500) i = true := by
  by_cases c : kp D (D.1 5500) i = true
  · left
    have hm : i ∈ kL D (D.1 5500) := kLn_mem.mpr ⟨hi, c⟩
    obtain ⟨k, hl, e⟩ := List.getElem_of_mem hm
    exact ⟨k, hl, by rw [ro_e hl, e]⟩
  · exact Or.inr c
theorem ro_kp {D : ST} (hB : Bk D) {b : Nat} (hb : b < nP D) : kp D (D.1 5500) (ro D b) = true := by
  rw [ro_e hb]; exact (kL_lt hB hb).2
theorem w118r {D s : ST} {i : Nat} {K : Int32 → ST → Prop} (hB : Bk D) (v : VW D (D.1 5500) s) (hi : i < nR D) : w_118 (nI i) s K = K (if ¬ kp D (D.1 5500) i = true then 0 else 1) s := by
  have h2 := (bkR hB).2.2
  rw [w118 (by omega), v.2.1.2.2.2 _ hi]
  rw [ifc (kp_le hB hi)]
theorem l_30y {D S0 : ST} {I q f : Nat} {days x : Int32} {X24 : ST → Prop} {X20 K : Int32 → ST → Prop} (hB : Bk D) (hI : FI D I q days S0) (hq : q ≤ 4) (hq1 : 1 ≤ q) (hds : 0 ≤ days.toInt ∧ days.toInt ≤ 3999) (hf : f < nP D) (hL : LF D I q days.toInt f x.toInt) (hm : ∀ g, g < nP D → LF D I q days.toInt g x.toInt → ro D f ≤ ro D g) (h2 : ∀ e s, Fr fqF2 S0 s → SAf D I q days.toInt f e s → X20 (nI (ro D f)) s) : ∀ m i s, i + m = ro D f → Fr fqF2 S0 s → w_30_L2 (m + 1) x (nI i) s X24 X20 K := by
  have hR := bkR hB
  have hrf := ro_lt hB hf
  intro m
  induction m with
  | zero =>
    intro i s hi fr
    have v := VW_g fr hI.1
    have : i = ro D f := by omega
    subst this
    rw [w_30_L2, v.2.1.1.1 102 rfl, hR.2.1, nI_leI (by omega) (by omega)]
    refine br_f (by omega) ?_
    rw [w118r hB v hrf, if_neg (fun z => z (ro_kp hB hf))]
    refine br_f (by decide) (w120r hB v hf (mp_32L hB (FI_F hI fr) hq hq1 hds hf (fun z => absurd hL z) ?_))
    intro _ e s1 f1 hS
    exact br_f (by decide) (h2 e s1 (fr_tr (F := fqF2) rfl fr f1) hS)
  | succ m ih =>
    intro i s hi fr
    have v := VW_g fr hI.1
    have hi2 : i < nR D := by omega
    rw [w_30_L2, v.2.1.1.1 102 rfl, hR.2.1, nI_leI (by omega) (by omega), nI_1]
    refine br_f (by omega) ?_
    rw [w118r hB v hi2]
    rcases row_c hi2 with ⟨b, hb, e⟩ | c
    · subst e
      rw [if_neg (fun z => z (ro_kp hB hb))]
      refine br_f (by decide) (w120r hB v hb (mp_32L hB (FI_F hI fr) hq hq1 hds hb ?_ ?_))
      · intro _ s1 f1
        exact br_t rfl (ih (ro D b + 1) s1 (by omega) (fr_tr (F := fqF2) rfl fr f1))
      · intro z
        have := hm b hb z
        omega
    · rw [if_pos c]
      exact br_t rfl (ih (i + 1) s (by omega) fr)
theorem l_30n {D S0 : ST} {I q : Nat} {days x : Int32} {X24 : ST → Prop} {X20 K : Int32 → ST → Prop} (hB : Bk D) (hI : FI D I q days S0) (hq : q ≤ 4) (hq1 : 1 ≤ q) (hds : 0 ≤ days.toInt ∧ days.toInt ≤ 3999) (hm : ∀ g, g < nP D → ¬ LF D I q days.toInt g x.toInt) (h2 : ∀ s, Fr fqF2 S0 s → X24 s) : ∀ m i s, i + m = nR D → Fr fqF2 S0 s → w_30_L2 (m + 1) x (nI i) s X24 X20 K := by
  have hR := bkR hB
  intro m
  induction m with
  | zero =>
    intro i s hi fr
    have v := VW_g fr hI.1
    rw [w_30_L2, v.2.1.1.1 102 rfl, hR.2.1, nI_leI (by omega) (by omega)]
    exact br_t (by omega) (h2 s fr)
  | succ m ih =>
    intro i s hi fr
    have v := VW_g fr hI.1
    have hi2 : i < nR D := by omega
    rw [w_30_L2, v.2.1.1.1 102 rfl, hR.2.1, nI_leI (by omega) (by omega), nI_1]
    refine br_f (by omega) ?_
    rw [w118r hB v hi2]
    rcases row_c hi2 with ⟨b, hb, e⟩ | c
    · subst e
      rw [if_neg (fun z => z (ro_kp hB hb))]
      refine br_f (by decide) (w120r hB v hb (mp_32L hB (FI_F hI fr) hq hq1 hds hb ?_ (fun z => absurd z (hm b hb))))
      intro _ s1 f1
      exact br_t rfl (ih (ro D b + 1) s1 (by omega) (fr_tr (F := fqF2) rfl fr f1))
    · rw [if_pos c]
      exact br_t rfl (ih (i + 1) s (by omega) fr)
theorem l_31 {D s : ST} {I q f e st b p : Nat} {pre : List Nat} {days x : Int32} {X29 : ST → Prop} {X25 K : Int32 → ST → Prop} (hB : Bk D) (hI : FI D I q days s) (hq : q ≤ 4) (hS : SAf D I q days.toInt f e s) (hp : pre.head? = some f) (hl : pre.length = st) (h1 : 1 ≤ st) (h2 : st < q) (hfb : f ≤ b) (hbp : b < p) (hpe : p < e) (hL : LD D I q days.toInt st pre p x.toInt) (hm : ∀ g, b < g → g < nP D → LD D I q days.toInt st pre g x.toInt → ro D p ≤ ro D g) (hX : X25 (nI (ro D p)) s) : ∀ m i, i + m = ro D p → w_31_L2 (m + 1) (nI st) (nI b) x (nI i) s X29 X25 K := by
  have hR := bkR hB
  have h150 := nP_150 hB
  have he := hS.2.2.1
  have hpn : p < nP D := by omega
  have hrp := ro_lt hB hpn
  have v := hI.1
  intro m
  induction m with
  | zero =>
    intro i hi
    have : i = ro D p := by omega
    subst this
    rw [w_31_L2, v.2.1.1.1 102 rfl, hR.2.1, nI_leI (by omega) (by omega)]
    refine br_f (by omega) (w120r hB v hpn ?_)
    rw [nI_leI (by omega) (by omega), hS.1, nI_leI (by omega) (by omega)]
    refine br_f (by omega) (br_f (by omega) (mp_36 hB v (by omega) hpn ?_))
    rw [if_pos ((ld_iff hB hq hS hp hl h1 h2 (by omega) hpe).mpr hL)]
    exact br_f (by decide) hX
  | succ m ih =>
    intro i hi
    have hi2 : i < nR D := by omega
    rw [w_31_L2, v.2.1.1.1 102 rfl, hR.2.1, nI_leI (by omega) (by omega), nI_1]
    refine br_f (by omega) ?_
    rcases row_c hi2 with ⟨g, hg, e2⟩ | c
    · have go := ih (i + 1) (by omega)
      rw [e2] at go hi ⊢
      refine w120r hB v hg ?_
      rw [nI_leI (by omega) (by omega), hS.1, nI_leI (by omega) (by omega)]
      by_cases c1 : g ≤ b
      · exact br_t c1 go
      · refine br_f c1 ?_
        by_cases c2 : e ≤ g
        · exact br_t c2 go
        · refine br_f c2 (mp_36 hB v (by omega) hg ?_)
          have li := ld_iff (x := x) hB hq hS hp hl h1 h2 (show f < g by omega) (show g < e by omega)
          rw [if_neg (fun z => by have := hm g (by omega) hg (li.mp z); omega)]
          exact br_t rfl go
    · refine w120n hB v hi2 c (br_t ?_ (ih (i + 1) (by omega)))
      rw [i_le, l_m1, nI_toInt (by omega)]
      omega
theorem VAL_c {g : List Nat → Nat → Bool} {w : Nat → Nat} {n l : Nat} {pre : List Nat} {k : Nat} {x : Int} {u : List Nat} (h : VAL g w n (l + 1) pre k x u) : ∃ p v, u = p :: v := by
  obtain ⟨p, v, e, _⟩ := h
  exact ⟨p, v, e⟩
theorem l_29 {D s : ST} {I q f e wn : Nat} {days : Int32} {X K : Int32 → ST → Prop} (hB : Bk D) (hI : FI D I q days s) (hq : q ≤ 4) (hS : SAf D I q days.toInt f e s) (hw : wn < q) : ∀ m t pre p u (left : Int32) (xx : Int), t + m = wn + 1 → pre.length + 1 = t → (pre ++ [p]).head? = some f → f ≤ p → p < e → left.toInt = xx + wP D p → (-(1000000 * (t : Int)) ≤ xx ∧ xx ≤ 4000000) → MIN (gQ D I days.toInt) (wP D) (ro D) (nP D) (q - t) (pre ++ [p]) (p + 1) xx u → X (nI (ro D ((p :: u).getD m 0))) s → w_29_L18 (m + 1) (nI wn) (nI (ro D p)) left (nI t) s X K := by
  have h150 := nP_150 hB
  have hR := bkR hB
  have he := hS.2.2.1
  have v := hI.1
  intro m
  induction m with
  | zero =>
    intro t pre p u left xx ht hl hp hfp hpe hx hr hm hX
    rw [w_29_L18, nI_ltI (by omega) (by omega)]
    exact br_t (by omega) hX
  | succ m ih =>
    intro t pre p u left xx ht hl hp hfp hpe hx hr hm hX
    have hpn : p < nP D := by omega
    have hrp := ro_lt hB hpn
    have hwp := wP_le hB p
    rw [w_29_L18, nI_ltI (by omega) (by omega)]
    refine br_f (by omega) (br_f (fun z => by rw [i_eq, l_m1, nI_toInt (by omega)] at z; omega) ?_)
    rw [w119r hB v hpn]
    refine w120r hB v hpn ?_
    have ex : (left - nI (wP D p)).toInt = xx := by
      rw [t_sub (by rw [nI_toInt (by omega)]; omega) (by rw [nI_toInt (by omega)]; omega), nI_toInt (by omega)]
      omega
    obtain ⟨p2, u2, eu⟩ := VAL_c (l := q - t - 1) (by have := hm.1; rw [show q - t = q - t - 1 + 1 by omega] at this; exact this)
    subst eu
    rw [show q - t = (q - (t + 1)) + 1 by omega] at hm
    obtain ⟨m1, m2, m3, m4, m5, m6⟩ := MIN_h hm
    have hlen : (pre ++ [p]).length = t := by rw [List.length_append, List.length_singleton]; omega
    have hld : LD D I q days.toInt t (pre ++ [p]) p2 (left - nI (wP D p)).toInt := by
      rw [ex]
      exact ⟨m3, (EE_ne (by omega)).mpr m4⟩
    have hpe2 : p2 < e := by
      by_cases c : p2 < e
      · exact c
      · rw [gQ_h _ _ hp, gT_far hS.2.2.2.1 hS.2.1 (by omega)] at m3
        cases m3
    have hw2 := wP_le hB p2
    refine ⟨ro D p2 + 1, l_31 (pre := pre ++ [p]) (f := f) (e := e) hB hI hq hS hp hlen (by omega) (by omega) hfp (by omega) hpe2 hld ?_ ?_ (ro D p2) 0 (by omega)⟩
    · intro g g1 g2 g3
      rw [ex] at g3
      exact m6 g (by omega) g2 g3.1 ((EE_ne (by omega)).mp g3.2)
    · show w_29_L18 (m + 1) (nI wn) (nI (ro D p2)) (left - nI (wP D p)) (nI t + 1) s X K
      rw [nI_1]
      refine ih (t + 1) (pre ++ [p]) p2 u2 _ (xx - wP D p2) (by omega) (by omega) (head_app hp) (by omega) hpe2 (by rw [ex]; omega) (by omega) m5 ?_
      exact hX
/-! the least of a list that isn't empty -/
theorem LST_ex {r : Nat → Nat} : ∀ (L : List (List Nat)), L ≠ [] → ∃ b, LST r L b := by
  intro L
  suffices h : ∀ (A B : List (List Nat)) (b : List Nat), LST r A b → ∃ b2, LST r (A ++ B) b2 by
    intro hn
    cases L with
    | nil => exact absurd rfl hn
    | cons a B => exact h [a] B a LST_1
  intro A B
  induction B generalizing A with
  | nil => intro b hb; exact ⟨b, by rw [List.append_nil]; exact hb⟩
  | cons c B ih =>
    intro b hb
    have e : A ++ c :: B = (A ++ [c]) ++ B := by rw [List.append_assoc]; rfl
    rw [e]
    cases hc : lex (c.map r) (b.map r) with
    | true => exact ih (A ++ [c]) c (LST_n hb hc)
    | false => exact ih (A ++ [c]) b (LST_k hb hc)
theorem LST_MIN {g : List Nat → Nat → Bool} {w r : Nat → Nat} {n q : Nat} {x : Int} {b : List Nat} (h : LST r (EE g w q n [] 0 x) b) : MIN g w r n q [] 0 x b := by
  have ev := EE_val (g := g) (w := w) (n := n) n q [] 0 x (by omega)
  obtain ⟨v, e, hv⟩ := (ev b).mp h.1
  rw [List.nil_append] at e
  subst e
  refine ⟨hv, fun u hu => h.2 u ((ev u).mpr ⟨u, rfl, hu⟩)⟩
theorem LF_iff {D : ST} {I q f : Nat} {ds x : Int} (hf : f < nP D) : LF D I q ds f x ↔ (gQ D I ds [] f = true ∧ ∃ v, VAL (gQ D I ds) (wP D) (nP D) (q - 1) ([] ++ [f]) (f + 1) (x - wP D f) v) := by
  unfold LF
  rw [gQ_0 hf, EE_ne (n := nP D) (by omega)]
  rfl
theorem mp_29 {D s : ST} {I q : Nat} {days x wn : Int32} {K : Int32 → ST → Prop} (hB : Bk D) (hI : FI D I q days s) (hq : q ≤ 4) (hq1 : 1 ≤ q) (hds : 0 ≤ days.toInt ∧ days.toInt ≤ 3999) (hx : 0 ≤ x.toInt ∧ x.toInt ≤ 4000000) (kn : ¬ (0 ≤ wn.toInt ∧ wn.toInt < q) → K (-1) s) (k0 : EE (gQ D I days.toInt) (wP D) q (nP D) [] 0 x.toInt = [] → ∀ s1, Fr fqF2 s s1 → K (-1) s1) (ky : ∀ u s1, 0 ≤ wn.toInt ∧ wn.toInt < q → LST (ro D) (EE (gQ D I days.toInt) (wP D) q (nP D) [] 0 x.toInt) u → Fr fqF2 s s1 → K (nI (ro D (u.getD wn.toNatClampNeg 0))) s1) : w_29 x wn s K := by
  have h150 := nP_150 hB
  unfold w_29
  have e7 : (s.1 5007 - 1).toInt = (q : Int) - 1 := by rw [hI.2.1]; exact nI_s1t (by omega)
  simp only [e_181, t_181, l_0, e7]
  by_cases c : 0 ≤ wn.toInt ∧ wn.toInt ≤ (q : Int) - 1
  · refine br_t (fun z => z c) ?_
    obtain ⟨j, hj, ew⟩ := of_rng (n := q) c.1 (by omega)
    by_cases z : EE (gQ D I days.toInt) (wP D) q (nP D) [] 0 x.toInt = []
    · refine ⟨nR D + 1, l_30n hB hI hq hq1 hds ?_ ?_ (nR D) 0 s (by omega) (fr_rfl _ _)⟩
      · intro g hg hL
        rw [LF_iff hg] at hL
        obtain ⟨h1, v, hv⟩ := hL
        have := (EE_ne (g := gQ D I days.toInt) (w := wP D) (n := nP D) (m := nP D) (l := q - 1 + 1) (pre := []) (k := 0) (x := x.toInt) (by omega)).mpr ⟨g :: v, g, v, rfl, Nat.zero_le _, hg, h1, hv⟩
        rw [show q - 1 + 1 = q by omega] at this
        exact this z
      · intro s1 f1
        refine ⟨1, ?_⟩
        rw [w_29_L18, ew]
        have k := k0 z s1 f1
        refine ⟨fun _ => k, fun _ => br_t rfl k⟩
    · obtain ⟨u, hu⟩ := LST_ex (r := ro D) _ z
      have hm := LST_MIN hu
      obtain ⟨f, u2, eu⟩ := VAL_c (l := q - 1) (by have := hm.1; rw [show q = q - 1 + 1 by omega] at this; exact this)
      subst eu
      rw [show q = (q - 1) + 1 by omega] at hm
      obtain ⟨m1, m2, m3, m4, m5, m6⟩ := MIN_h hm
      refine ⟨ro D f + 1, l_30y (f := f) hB hI hq hq1 hds m2 ((LF_iff m2).mpr ⟨m3, m4⟩) ?_ ?_ (ro D f) 0 s (by omega) (fr_rfl _ _)⟩
      · intro g g1 g2
        rw [LF_iff g1] at g2
        exact m6 g (Nat.zero_le _) g1 g2.1 g2.2
      · intro e s1 f1 hS
        refine ⟨j + 1, ?_⟩
        have kk := ky (f :: u2) s1 ⟨c.1, by omega⟩ hu f1
        have hwf := wP_le hB f
        rw [ew] at kk ⊢
        rw [nI_clamp (by omega)] at kk
        exact l_29 (f := f) (e := e) hB (FI_F hI f1) hq hS hj j 1 [] f u2 x (x.toInt - wP D f) (by omega) rfl rfl (Nat.le_refl _) hS.2.1 (by omega) (by omega) m5 kk
  · exact br_f (fun z => z c) (kn (fun z => c ⟨z.1, by omega⟩))
