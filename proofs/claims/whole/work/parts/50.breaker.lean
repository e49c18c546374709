/-! ===== the class's breaker ===== -/
abbrev fq21 : FS := ([], [21], [], false, false)
theorem l_302 {D : ST} {X K : ST → Prop} (hX : ∀ s, Fr fq21 D s → (∀ i, i < 20 → s.2.1 21 i = 0) → X s) : ∀ n k s, k ≤ 20 → 20 - k < n → Fr fq21 D s → (∀ i, i < k → s.2.1 21 i = 0) → w_302_R21_L5 n 0 (nI k) (Int32.ofNat 20) s X K := by
  intro n
  induction n with
  | zero => intro k s _ z; omega
  | succ n ih =>
    intro k s hk hn f hs
    have e20 : Int32.ofNat 20 = nI 20 := rfl
    rw [w_302_R21_L5]
    rw [e20, nI_leI (by omega) (by omega)]
    by_cases c : 20 ≤ k
    · exact br_t c (hX s f (fun i hi => hs i (by omega)))
    refine br_f c ⟨pin_nI (by omega) (by omega), ?_⟩
    rw [nI_clamp (by omega), nI_1]
    refine ih (k + 1) _ (by omega) (by omega) (fr_sA 21 f) ?_
    intro i hi
    show upd (s.2.1 21) k 0 i = 0
    by_cases e : i = k
    · subst e; exact pk_us
    · rw [pk_un e]; exact hs i (by omega)
theorem mp_302 {s : ST} {K : ST → Prop} (k : ∀ s1, Fr fq21 s s1 → (∀ i, i < 20 → s1.2.1 21 i = 0) → K s1) : w_302_R21 0 s K := ⟨21, l_302 k 21 0 s (by omega) (by omega) (fr_rfl _ _) (fun i hi => absurd hi (by omega))⟩
/-- the class's struck clauses, as bits, are S -/
def SkA (g : Nat → Int32) (S : Nat → Bool) : Prop := ∀ i, i < 20 → ∀ j, j < 10 → bt (g i) j = S (10 * i + j)
theorem l_54 {D s0 : ST} {r y : Nat} {fr to day : Int32} {S : Nat → Bool} {out : Int32} {X K : ST → Prop} (hJ : Jrul D) (h : TxA D D.2.2.2.2 r y fr to) (hr : r < nU D) (hl : s0.2.2.2 = D.2.2.2) (k2 : s0.1 2002 = D.1 2002) (hout : ∀ j, j < 10 → bt out j = S (10 * r + j)) (hX : ∀ s, Fr fq21 s0 s → SkA (s.2.1 21) (skc D day r S (nK D r)) → X s) : ∀ n j s, j ≤ nK D r → nK D r - j < n → Fr fq21 s0 s → SkA (s.2.1 21) (skc D day r S j) → w_54_L8 n y out day (nI r) (nI j) s X K := by
  have hU := hJ.2.2.1
  obtain ⟨t1, t2, t3, v, mc, b, cap, g, p1, p2, p3, p4, p5⟩ := h
  intro n
  induction n with
  | zero => intro j s _ z; omega
  | succ n ih =>
    intro j s hj hn f hs
    have hls : s.2.2.2 = D.2.2.2 := by
      have e1 := f.2.2.2.1 rfl
      have e2 := f.2.2.2.2 rfl
      exact (Prod.ext e1 e2).trans hl
    have hd : s.2.2.2.2 = D.2.2.2.2 := by rw [hls]
    rw [w_54_L8, hd]
    refine ⟨v, pg p1 rfl, _, p2, nI (nK D r), by rw [hd]; exact pg p2 rfl, ?_⟩
    dsimp only
    rw [nI_leI (by omega) (by omega)]
    by_cases c : nK D r ≤ j
    · have : j = nK D r := by omega
      subst this
      exact br_t c (hX s f hs)
    refine br_f c ?_
    rw [hd]
    obtain ⟨cl, c1, kd2, m, tg, tc, o1, o2, o3, o4, o5⟩ := p5 j (by omega)
    refine ⟨v, pg p1 rfl, _, p2, mp_299 (by rw [hd]; exact p2) (by rw [hd]; exact p3) p4 (by omega) (by omega) c1 ?_⟩
    rw [hd]
    refine ⟨_, o1, kd2, pg o1 rfl, ?_⟩
    obtain ⟨e1, _⟩ := o2 (by omega)
    have nx : ∀ s2, Fr fq21 s0 s2 → SkA (s2.2.1 21) (skc D day r S (j + 1)) → w_54_L8 n y out day (nI r) (nI j + 1) s2 X K := by
      intro s2 f2 z
      rw [nI_1]
      exact ih (j + 1) s2 (by omega) (by omega) f2 z
    rw [skc] at nx
    by_cases d : kd2 = 120
    · refine br_f (fun z => z d) ?_
      obtain ⟨a1, a2, a3, a4, a5, a6⟩ := o4 d
      have d87 : D.2.1 87 (10 * r + j) = 120 := e1.symm.trans d
      have etg : tg = nI (tgN D r j) := by rw [a1]; exact nI_nat (by rw [a1] at a3; exact a3)
      have etc : tc = nI (tcN D r j) := by rw [a2]; exact nI_nat (by rw [a2] at a5; exact a5)
      have htg : tgN D r j ≤ 19 := by rw [a1] at a4; show (D.2.1 90 (10 * r + j)).toInt.toNat ≤ 19; omega
      have htc : tcN D r j ≤ 9 := by rw [a2] at a6; show (D.2.1 91 (10 * r + j)).toInt.toNat ≤ 9; omega
      simp only [e_184, t_184]
      have hb := bt_bit (x := out) (j := j) (by omega)
      have ho := hout j (by omega)
      by_cases e : bitI (nI j) out = 0
      · refine br_f (fun z => z e) ?_
        have hS : S (10 * r + j) = false := by rw [← ho]; exact hb.mp e
        rw [hd]
        refine ⟨tg, pg o1 rfl, ?_⟩
        rw [etg]
        refine br_f (nI_pos (by omega)) ?_
        rw [nI_leI (by omega) (by omega)]
        by_cases q : r ≤ tgN D r j
        · rw [if_neg (fun z => by have := z.2.2.1; omega)] at nx
          exact br_t q (nx s f hs)
        · refine br_f q ?_
          have ks : s.1 2002 = D.1 2002 := by rw [f.1 2002 rfl]; exact k2
          refine mp_R20 hJ ks hls (by omega) (fun y2 tx2 => ?_)
          have tx2' := tx2
          obtain ⟨_, _, _, v2, mc2, b2, cap2, g2, w1, _⟩ := tx2
          rw [hd]
          refine ⟨_, w1, _, w1, mp_108 tx2' hls (fun z r22 hr22 => ?_) (fun z => ?_)⟩
          · refine br_f hr22 ⟨pin_nI (by omega) (by omega), ?_⟩
            rw [hd]
            refine ⟨tc, pg o1 rfl, pin_nI (by omega) (by omega), ?_⟩
            rw [nI_clamp (by omega), etc]
            rw [if_pos ⟨d87, hS, by omega, by unfold inF; exact decide_eq_true z⟩] at nx
            refine nx _ (fr_sA 21 f) ?_
            intro i hi j2 hj2
            show bt (upd (s.2.1 21) (tgN D r j) (s.2.1 21 (tgN D r j) ||| (1 : Int32) <<< (nI (tcN D r j) &&& 31)) i) j2 = if 10 * i + j2 = 10 * tgN D r j + tcN D r j then true else skc D day r S j (10 * i + j2)
            by_cases x1 : i = tgN D r j
            · subst x1
              rw [pk_us, bt_or, bt_shl htc hj2, hs _ hi j2 hj2]
              by_cases x2 : j2 = tcN D r j
              · subst x2
                rw [if_pos rfl, decide_eq_true rfl, Bool.or_true]
              · rw [if_neg (by omega), decide_eq_false x2, Bool.or_false]
            · rw [pk_un x1, if_neg (by omega)]
              exact hs i hi j2 hj2
          · refine br_t rfl ?_
            rw [if_neg (fun w => by have w2 := w.2.2.2; unfold inF at w2; exact z (of_decide_eq_true w2))] at nx
            exact nx s f hs
      · refine br_t e ?_
        rw [hd]
        refine ⟨tg, pg o1 rfl, ?_⟩
        rw [if_neg (fun z => e (hb.mpr (by rw [ho]; exact z.2.1)))] at nx
        exact nx s f hs
    · refine br_t d ⟨tg, pg o1 rfl, ?_⟩
      rw [if_neg (fun z => d (e1.trans z.1))] at nx
      exact nx s f hs
theorem mp_54 {D s : ST} {r y : Nat} {fr to day : Int32} {S : Nat → Bool} {out : Int32} {K : ST → Prop} (hJ : Jrul D) (h : TxA D D.2.2.2.2 r y fr to) (hr : r < nU D) (hl : s.2.2.2 = D.2.2.2) (k2 : s.1 2002 = D.1 2002) (hout : ∀ j, j < 10 → bt out j = S (10 * r + j)) (hs : SkA (s.2.1 21) S) (k : ∀ s1, Fr fq21 s s1 → SkA (s1.2.1 21) (skc D day r S (nK D r)) → K s1) : w_54 y (nI r) out day s K := by
  have t3 := h.2.2.1
  have hU := hJ.2.2.1
  unfold w_54 w_297_R20
  have e : (if s.1 2002 < nI r then s.1 2002 else nI r) = nI r := by
    rw [k2, hJ.1, if_neg (nI_nlt (by omega) (by omega))]
  dsimp only
  rw [e]
  exact ⟨11, l_54 hJ h hr hl k2 hout k 11 0 s (by omega) (by omega) (fr_rfl _ _) hs⟩
abbrev fqK : FS := ([], [21], [18], false, false)
theorem l_53 {D s0 : ST} {day : Int32} {fx : Nat → Int64} {X63 : ST → Prop} {X59 : Int32 → ST → Prop} {X51 : ST → Prop} {K : Int32 → ST → Prop} (hJ : Jrul D) (hl : s0.2.2.2 = D.2.2.2) (k2 : s0.1 2002 = D.1 2002) (hfx : ∀ k, k < 13 → s0.2.2.1 17 k = fx k) {b : Int32} (h1 : ∀ s, Fr fqK s0 s → b = -2 → X63 s) (h2 : ∀ s m, Fr fqK s0 s → m < 20 → b = nI m → X59 (nI m) s) (h3 : ∀ s, Fr fqK s0 s → b = -2 → X51 s) : ∀ m n s, m ≤ nU D → m < n → Fr fqK s0 s → SkA (s.2.1 21) (skr D day (nU D - m)) → brk D day fx m = b → w_53_L22 n day (nI m + (-1)) s X63 X59 X51 K := by
  have hC := Jrul_C hJ
  have hU := hJ.2.2.1
  intro m
  induction m with
  | zero =>
    intro n s _ hn f hs hb
    obtain ⟨n, rfl⟩ : ∃ q, n = q + 1 := ⟨n - 1, by omega⟩
    rw [w_53_L22]
    exact br_t (by decide) (h1 s f hb.symm)
  | succ m ih =>
    intro n s hm hn f hs hb
    obtain ⟨n, rfl⟩ : ∃ q, n = q + 1 := ⟨n - 1, by omega⟩
    rw [w_53_L22, pk_m1]
    have hls : s.2.2.2 = D.2.2.2 := (Prod.ext (f.2.2.2.1 rfl) (f.2.2.2.2 rfl)).trans hl
    have hd : s.2.2.2.2 = D.2.2.2.2 := by rw [hls]
    have ks : s.1 2002 = D.1 2002 := by rw [f.1 2002 rfl]; exact k2
    refine br_f (nI_pos (by omega)) (mp_R20 hJ ks hls (by omega) (fun y tx => ?_))
    have tx' := tx
    obtain ⟨_, _, _, v2, mc2, b2, cap2, g2, w1, _⟩ := tx
    have tx := tx'
    rw [hd]
    refine ⟨_, w1, _, w1, mp_108 tx hls (fun z r13 hr13 => ?_) (fun z => ?_)⟩
    · have iF : inF D m day = true := decide_eq_true z
      rw [brk, if_pos iF] at hb
      refine br_f hr13 ⟨pin_nI (by omega) (by omega), ?_⟩
      rw [nI_clamp (by omega)]
      have e1 : nU D - m = nU D - (m + 1) + 1 := by omega
      have e2 : nU D - 1 - (nU D - (m + 1)) = m := by omega
      have sk1 : skr D day (nU D - m) = skc D day m (skr D day (nU D - (m + 1))) (nK D m) := by
        rw [e1, skr, e2, if_pos iF]
      have hout : ∀ j, j < 10 → bt (s.2.1 21 m) j = skr D day (nU D - (m + 1)) (10 * m + j) := fun j hj => hs m (by omega) j hj
      have hsk : ∀ j, j < 10 → (bitI (nI j) (s.2.1 21 m) = 0 ↔ skr D day (nU D - (m + 1)) (10 * m + j) = false) := fun j hj => by rw [bt_bit hj, hout j hj]
      refine mp_54 hJ tx (by omega) hls ks hout hs (fun s1 f1 hs1 => ?_)
      rw [← sk1] at hs1
      have fs1 : Fr fqK s0 s1 := fr_tr (F := fq21) rfl f f1
      have hls1 : s1.2.2.2 = D.2.2.2 := (Prod.ext (f1.2.2.2.1 rfl) (f1.2.2.2.2 rfl)).trans hls
      have hfx1 : ∀ k, k < 13 → s1.2.2.1 17 k = fx k := fun k hk => by rw [fs1.2.2.1 17 rfl]; exact hfx k hk
      refine mp_55 (sk := fun j => skr D day (nU D - (m + 1)) (10 * m + j)) tx (by omega) hls1 (by decide) hsk hfx1 (fun s2 f2 => ?_)
      have fs2 : Fr fqK s0 s2 := fr_tr (F := fq18) rfl fs1 f2
      by_cases a : hsB D m 108 (fun j => skr D day (nU D - (m + 1)) (10 * m + j)) fx (nK D m) = true
      · rw [if_pos a] at hb ⊢
        exact br_f (by decide) (h3 s2 fs2 hb.symm)
      · rw [if_neg a] at hb ⊢
        refine br_t rfl ?_
        have hls2 : s2.2.2.2 = D.2.2.2 := (Prod.ext (f2.2.2.2.1 rfl) (f2.2.2.2.2 rfl)).trans hls1
        have hfx2 : ∀ k, k < 13 → s2.2.2.1 17 k = fx k := fun k hk => by rw [fs2.2.2.1 17 rfl]; exact hfx k hk
        refine mp_55 (sk := fun j => skr D day (nU D - (m + 1)) (10 * m + j)) tx (by omega) hls2 (by decide) hsk hfx2 (fun s3 f3 => ?_)
        have fs3 : Fr fqK s0 s3 := fr_tr (F := fq18) rfl fs2 f3
        by_cases a2 : hsB D m 114 (fun j => skr D day (nU D - (m + 1)) (10 * m + j)) fx (nK D m) = true
        · rw [if_pos a2] at hb ⊢
          exact br_f (by decide) (h2 s3 m fs3 (by omega) hb.symm)
        · rw [if_neg a2] at hb ⊢
          refine br_t rfl (ih n s3 (by omega) (by omega) fs3 ?_ hb)
          rw [f3.2.1 21 rfl, f2.2.1 21 rfl]
          exact hs1
    · have iF : ¬ inF D m day = true := fun w => z (of_decide_eq_true w)
      rw [brk, if_neg iF] at hb
      refine br_t rfl (ih n s (by omega) (by omega) f ?_ hb)
      have e1 : nU D - m = nU D - (m + 1) + 1 := by omega
      have e2 : nU D - 1 - (nU D - (m + 1)) = m := by omega
      rw [e1, skr, e2, if_neg iF]
      exact hs
/-- the rule by which a row is broken -/
def brkT (D : ST) (t : Int32) (x : Nat) (u : Int32) : Int32 := brk D (D.2.1 60 x) (fxv D t x u) (nU D)
abbrev fqW : FS := ([], [21], [17, 18], false, false)
theorem mp_53 {D s : ST} {t u : Int32} {i : Nat} {K : Int32 → ST → Prop} (h : Bk D) (hJ : Jrul D) (v : VW D t s) (hl : s.2.2.2 = D.2.2.2) (hu : s.1 1600 = u) (hi : i < (kL D t).length) (k : ∀ s1, Fr fqW s s1 → K (brkT D t (kL D t)[i] u) s1) : w_53 (nI (kL D t)[i]) s K := by
  have hU := hJ.2.2.1
  have hx := (kL_lt h hi).1
  unfold w_53
  refine mp_302 (fun s1 f1 z1 => ?_)
  have v1 : VW D t s1 := by
    obtain ⟨q1, q2, q3, q4, q5⟩ := v
    refine ⟨by rw [f1.1 800 rfl]; exact q1, ⟨fr_tr (F := fq21) rfl q2.1 f1, by rw [f1.1 801 rfl]; exact q2.2.1, by rw [f1.2.1 11 rfl]; exact q2.2.2.1, by rw [f1.2.1 9 rfl]; exact q2.2.2.2⟩, by rw [f1.2.1 9 rfl]; exact q3, by rw [f1.2.1 10 rfl]; exact q4, ?_⟩
    intro kk hk
    rw [f1.2.1 12 rfl, f1.2.1 13 rfl]
    exact q5 kk hk
  refine mp_20 (u := u) h v1 (by rw [f1.1 1600 rfl]; exact hu) hi (fun s2 f2 hfx => ?_)
  have fD2 : Fr fsS D s2 := fr_tr (F := fq17) rfl v1.2.1.1 f2
  rw [cc3 h fD2 hx]
  unfold w_297_R20
  have e2002 : s2.1 2002 = D.1 2002 := fD2.1 2002 rfl
  rw [e2002, hJ.1]
  have e20 : (20 : Int32) = nI 20 := rfl
  dsimp only
  rw [e20, if_neg (nI_nlt (by omega) (by omega))]
  have em : nI (nU D) - 1 = nI (nU D) + (-1) := Int32.sub_eq_add_neg _ _
  rw [em]
  have hls2 : s2.2.2.2 = D.2.2.2 := ((Prod.ext (f2.2.2.2.1 rfl) (f2.2.2.2.2 rfl)).trans (Prod.ext (f1.2.2.2.1 rfl) (f1.2.2.2.2 rfl))).trans hl
  have fin : ∀ s3, Fr fqK s2 s3 → Fr fqW s s3 := fun s3 f3 => fr_tr (F := fqK) rfl (fr_tr (F := fq17) rfl (fr_tr (F := fq21) rfl (fr_rfl fqW s) f1) f2) f3
  refine ⟨nU D + 1, l_53 (b := brkT D t (kL D t)[i] u) hJ hls2 e2002 hfx ?_ ?_ ?_ (nU D) (nU D + 1) s2 (Nat.le_refl _) (by omega) (fr_rfl _ _) ?_ rfl⟩
  · intro s3 f3 z
    have := k s3 (fin s3 f3)
    rw [z] at this
    exact this
  · intro s3 m f3 _ z
    have := k s3 (fin s3 f3)
    rw [z] at this
    exact this
  · intro s3 f3 z
    have := k s3 (fin s3 f3)
    rw [z] at this
    exact this
  · rw [Nat.sub_self]
    intro i2 hi2 j2 _
    rw [f2.2.1 21 rfl, z1 i2 hi2]
    exact bt_0
