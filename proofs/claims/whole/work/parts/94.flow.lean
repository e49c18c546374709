/-! ===== the reference's net: its end; its search for a way ===== -/
theorem l_250s {D S0 : ST} {x1 : Int32} {b n tt : Nat} {mo : Bool} {nd : Nat → Nat} {hs : Nat → Int} {X : Int32 → Int32 → Int32 → ST → Prop} {K : Int32 → ST → Prop} (hB : Bk D) (f0 : Fr fsS D S0) (hb : b < nH D) (hd : ∀ g, g < nH D → nd g < n) (htt : tt < n) (hhs : ∀ g, g < nH D → 0 ≤ hs g ∧ hs g ≤ 800000000) : ∀ (N j : Nat) (s : ST) (m : Nat) (F T : Nat → Nat) (C : Nat → Int), j ≤ nH D → nH D - j < N → Fr fqRE S0 s → NB s (nH D) nd hs n m F T C → m + (nH D - j) ≤ 600 → (∀ s1 m1 F1 T1 C1, Fr fqRE S0 s1 → NB s1 (nH D) nd hs n m1 F1 T1 C1 → m ≤ m1 → m1 ≤ m + (nH D - j) → AgE m F T C F1 T1 C1 → (∀ (F' T' : Nat → Nat) (C' : Nat → Int) M, AgE m1 F1 T1 C1 F' T' C' → SK (nH D) (skB b mo) (!mo) nd hs 0 tt F' T' C' M 0 m1 → SK (nH D) (skB b mo) (!mo) nd hs 0 tt F' T' C' M (nH D - j) m) → X x1 (moI mo) (nI tt) s1) → w_250_L21 N x1 (nI b) (moI mo) (nI tt) (nI j) s X K := by
  obtain ⟨e1, e2, e3, e4⟩ := bkH10 hB
  intro N
  induction N with
  | zero => intro j s m F T C _ z; omega
  | succ N ih =>
    intro j s m F T C hj hN f h hm hX
    rw [w_250_L21, f.1 5501 rfl, f0.1 5501 rfl, e2, nI_leI (by omega) (by omega), nI_eq (by omega) (by omega), nI_1, nI_clamp (by omega)]
    by_cases c : nH D ≤ j
    · refine br_t c (hX s m F T C f h (by omega) (by omega) AgE_rf ?_)
      intro F' T' C' M ag sk
      rw [show nH D - j = 0 by omega]
      exact sk
    refine br_f c ?_
    have hj1 : nH D - j = (nH D - (j + 1)) + 1 := by omega
    have hj2 : nH D - (nH D - (j + 1) + 1) = j := by omega
    have skip : skB b mo j = false → w_250_L21 N x1 (nI b) (moI mo) (nI tt) (nI (j + 1)) s X K := by
      intro z
      refine ih (j + 1) s m F T C (by omega) (by omega) f h (by omega) ?_
      intro s1 m1 F1 T1 C1 f1 h1 a1 a2 ag1 sk1
      refine hX s1 m1 F1 T1 C1 f1 h1 a1 (by omega) ag1 ?_
      intro F' T' C' M ag sk
      rw [hj1]
      refine ⟨fun y => ?_, fun _ => sk1 F' T' C' M ag sk⟩
      rw [hj2, z] at y
      cases y
    obtain ⟨nj, nc⟩ := h.2.1 j (by omega)
    have bj := hhs j (by omega)
    have take : skB b mo j = true → w_246 (s.2.1 101 j) (nI tt) (s.2.1 102 j) s (fun s8 => w_250_L21 N x1 (nI b) (moI mo) (nI tt) (nI (j + 1)) s8 X K) := by
      intro z
      rw [nj]
      refine mp_246 h (by omega) (hd j (by omega)) htt (by rw [nc]; omega) ?_
      intro s1 f1 h1
      rw [nc] at h1
      refine ih (j + 1) s1 _ _ _ _ (by omega) (by omega) (fr_tr (F := fqRE) rfl f f1) h1 (by omega) ?_
      intro s2 m2 F2 T2 C2 f2 h2 a1 a2 ag2 sk2
      refine hX s2 m2 F2 T2 C2 f2 h2 (by omega) (by omega) (AgE_tr (by omega) AgE_up ag2) ?_
      intro F' T' C' M ag sk
      rw [hj1]
      refine ⟨fun _ => ?_, fun y => ?_⟩
      · obtain ⟨q1, q2, q3⟩ := ag2 m (by omega)
        obtain ⟨q4, q5, q6⟩ := ag m (by omega)
        rw [uf_s] at q1 q2 q3
        rw [hj2]
        exact ⟨q4.trans q1, q5.trans q2, q6.trans q3, sk2 F' T' C' M ag sk⟩
      · rw [hj2, z] at y
        cases y
    have pj : pin (nI j) 10 = true := pin_nI (by omega) (by omega)
    have m1 : moI true = 1 := rfl
    have m0 : moI false = 0 := rfl
    by_cases d : j = b
    · refine br_f (fun z => z d) ?_
      cases em : mo with
      | true =>
        rw [em] at take
        exact br_f (fun z => z m1.symm) ⟨pj, pj, take (by unfold skB; rw [decide_eq_true d]; rfl)⟩
      | false =>
        rw [em] at skip
        exact br_t (by rw [m0]; decide) (skip (by unfold skB; rw [decide_eq_true d]; rfl))
    · refine br_t d ?_
      cases em : mo with
      | true =>
        rw [em] at skip
        exact br_t (by rw [m1]; decide) (skip (by unfold skB; rw [decide_eq_false d]; rfl))
      | false =>
        rw [em] at take
        exact br_f (fun z => z m0.symm) ⟨pj, pj, take (by unfold skB; rw [decide_eq_false d]; rfl)⟩
abbrev fqLb : FS := ([], [100], [], false, false)
theorem EB_fr {A : FS} {s s1 : ST} {n m : Nat} {F T : Nat → Nat} {C p : Nat → Int} (f : Fr A s s1) (h : EB s n m F T C p) (d : dis A [5557, 5558] [96, 97, 98, 99] = true := by rfl) : EB s1 n m F T C p := by
  unfold EB at h ⊢
  rw [f.1 5557 (dis_I d 5557), f.1 5558 (dis_I d 5558), f.2.1 96 (dis_A d 96), f.2.1 97 (dis_A d 97), f.2.1 98 (dis_A d 98), f.2.1 99 (dis_A d 99)]
  exact h
/-- what the reference has reached: q in the order of reaching, by the half edge he from the place pa -/
def BJ (s : ST) (n m : Nat) (F T : Nat → Nat) (C p : Nat → Int) (q he pa : Nat → Nat) (L src : Nat) : Prop := 0 < L ∧ q 0 = src ∧ (∀ i, i < L → q i < n) ∧ (∀ i j, i < L → j < L → q i = q j → i = j) ∧ s.2.1 100 src = nI m ∧ (∀ v, v < n → (∀ i, i < L → ¬ q i = v) → s.2.1 100 v = -1) ∧ (∀ i, 0 < i → i < L → he i < 2 * m ∧ pa i < i ∧ s.2.1 100 (q i) = nI (he i / 2) ∧ sE T F (he i) = q i ∧ sE F T (he i) = q (pa i) ∧ 0 < wE C p (he i))
theorem nI_nm1 {e : Nat} (h : e < 1000000) : ¬ nI e = -1 := by
  rw [i_eq, nI_toInt (by omega), l_m1]
  omega
section Bj
variable {s : ST} {n m L src : Nat} {F T : Nat → Nat} {C p : Nat → Int} {q he pa : Nat → Nat}
theorem BJ_via {i : Nat} (b : BJ s n m F T C p q he pa L src) (hm : m ≤ 650) (hi : i < L) : ¬ s.2.1 100 (q i) = -1 := by
  by_cases c : i = 0
  · rw [c, b.2.1, b.2.2.2.2.1]; exact nI_nm1 (by omega)
  · obtain ⟨b1, _, b3, _⟩ := b.2.2.2.2.2.2 i (by omega) hi
    rw [b3]; exact nI_nm1 (by omega)
theorem BJ_in {v : Nat} (b : BJ s n m F T C p q he pa L src) (hm : m ≤ 650) (hv : v < n) : (∃ i, i < L ∧ q i = v) ↔ ¬ s.2.1 100 v = -1 := by
  constructor
  · rintro ⟨i, h1, h2⟩
    rw [← h2]
    exact BJ_via b hm h1
  · intro h
    refine Classical.byContradiction (fun z => h (b.2.2.2.2.2.1 v hv (fun i hi e => z ⟨i, hi, e⟩)))
theorem BJ_add {e h w k : Nat} (b : BJ s n m F T C p q he pa L src) (ek : e / 2 = k) (he1 : e < 2 * m) (hG : sE T F e = w) (hw : w < n) (hh : h < L) (hS : sE F T e = q h) (hW : 0 < wE C p e) (nw : ∀ i, i < L → ¬ q i = w) : BJ (sA s 100 (upd (s.2.1 100) w (nI k))) n m F T C p (uf q L w) (uf he L e) (uf pa L h) (L + 1) src := by
  obtain ⟨b1, b2, b3, b4, b5, b6, b7⟩ := b
  refine ⟨by omega, by rw [uf_n (by omega)]; exact b2, fun i hi => ?_, fun i j hi hj eq => ?_, ?_, fun v hv hn => ?_, fun i h0 hi => ?_⟩
  · by_cases c : i = L
    · rw [c, uf_s]; exact hw
    · rw [uf_n c]; exact b3 i (by omega)
  · by_cases c : i = L <;> by_cases d : j = L
    · omega
    · rw [c, uf_s, uf_n d] at eq; exact absurd eq.symm (nw j (by omega))
    · rw [d, uf_s, uf_n c] at eq; exact absurd eq (nw i (by omega))
    · rw [uf_n c, uf_n d] at eq; exact b4 i j (by omega) (by omega) eq
  · show upd (s.2.1 100) w (nI k) src = nI m
    rw [pk_un (fun z => nw 0 b1 (by rw [b2]; exact z))]
    exact b5
  · show upd (s.2.1 100) w (nI k) v = -1
    have h1 := hn L (by omega)
    rw [uf_s] at h1
    rw [pk_un (fun z => h1 z.symm)]
    refine b6 v hv (fun i hi => ?_)
    have := hn i (by omega)
    rw [uf_n (by omega)] at this
    exact this
  · show uf he L e i < 2 * m ∧ uf pa L h i < i ∧ upd (s.2.1 100) w (nI k) (uf q L w i) = nI (uf he L e i / 2) ∧ sE T F (uf he L e i) = uf q L w i ∧ sE F T (uf he L e i) = uf q L w (uf pa L h i) ∧ 0 < wE C p (uf he L e i)
    by_cases c : i = L
    · rw [c, uf_s, uf_s, uf_s, pk_us, uf_n (show ¬ h = L by omega), ek]
      exact ⟨he1, hh, rfl, hG, hS, hW⟩
    · obtain ⟨c1, c2, c3, c4, c5, c6⟩ := b7 i h0 (by omega)
      rw [uf_n c, uf_n c, uf_n c, pk_un (nw i (by omega)), uf_n (show ¬ pa i = L by omega)]
      exact ⟨c1, c2, c3, c4, c5, c6⟩
end Bj
theorem sE_2 {F T : Nat → Nat} {k : Nat} : sE F T (2 * k) = F k := by
  unfold sE
  rw [if_pos (by omega), show 2 * k / 2 = k by omega]
theorem sE_3 {F T : Nat → Nat} {k : Nat} : sE F T (2 * k + 1) = T k := by
  unfold sE
  rw [if_neg (by omega), show (2 * k + 1) / 2 = k by omega]
theorem wE_2 {C p : Nat → Int} {k : Nat} : wE C p (2 * k) = C k - p k := by
  unfold wE
  rw [if_pos (by omega), show 2 * k / 2 = k by omega]
theorem wE_3 {C p : Nat → Int} {k : Nat} : wE C p (2 * k + 1) = p k := by
  unfold wE
  rw [if_neg (by omega), show (2 * k + 1) / 2 = k by omega]
/-- nothing is to be reached by the edge k -/
def Ce (F T : Nat → Nat) (C p : Nat → Int) (q : Nat → Nat) (L k : Nat) : Prop := ((∃ i, i < L ∧ q i = F k) → (∃ i, i < L ∧ q i = T k) ∨ C k ≤ p k) ∧ ((∃ i, i < L ∧ q i = T k) → (∃ i, i < L ∧ q i = F k) ∨ p k ≤ 0)
theorem l_249s {S0 : ST} {n m src L0 : Nat} {F T : Nat → Nat} {C p : Nat → Int} {x1 x2 x3 : Int32} {X : Int32 → Int32 → Int32 → Int32 → ST → Prop} {K : Int32 → ST → Prop} (hn : n ≤ 400) (hm : m ≤ 600) (hF : ∀ k, k < m → F k < n ∧ T k < n) (hX : ∀ s y q he pa L, Fr fqLb S0 s → EB s n m F T C p → BJ s n m F T C p q he pa L src → ((y = 0 ∧ L = L0 ∧ ∀ e, e < m → Ce F T C p q L e) ∨ (y = 1 ∧ L0 < L)) → X x1 x2 x3 y s) : ∀ (N k : Nat) (s : ST) (y : Int32) (q he pa : Nat → Nat) (L : Nat), k ≤ m → m - k < N → Fr fqLb S0 s → EB s n m F T C p → BJ s n m F T C p q he pa L src → ((y = 0 ∧ L = L0 ∧ ∀ e, e < k → Ce F T C p q L e) ∨ (y = 1 ∧ L0 < L)) → w_249_L33 N x1 x2 x3 y (nI k) s X K := by
  intro N
  induction N with
  | zero => intro k s y q he pa L _ z; omega
  | succ N ih =>
    intro k s y q he pa L hk hN f e b hy
    rw [w_249_L33, e.2.1, nI_leI (by omega) (by omega)]
    by_cases c : m ≤ k
    · have : k = m := by omega
      rw [this] at hy
      exact br_t c (hX s y q he pa L f e b hy)
    obtain ⟨g1, g2, g3, g4⟩ := e.2.2 k (by omega)
    obtain ⟨lF, lT⟩ := hF k (by omega)
    rw [nI_clamp (show k < 2 ^ 31 by omega), g1, g2, nI_clamp (show F k < 2 ^ 31 by omega), nI_clamp (show T k < 2 ^ 31 by omega), nI_1]
    have pk : pin (nI k) 700 = true := pin_nI (by omega) (by omega)
    have pF : pin (nI (F k)) 400 = true := pin_nI (by omega) (by omega)
    have pT : pin (nI (T k)) 400 = true := pin_nI (by omega) (by omega)
    have hk2 : k + 1 ≤ m := by omega
    have hN2 : m - (k + 1) < N := by omega
    have iF := BJ_in b (by omega) lF
    have iT := BJ_in b (by omega) lT
    have hL0 : L0 ≤ L := by rcases hy with ⟨_, h, _⟩ | ⟨_, h⟩ <;> omega
    have skip : Ce F T C p q L k → w_249_L33 N x1 x2 x3 y (nI (k + 1)) s X K := by
      intro z
      refine ih (k + 1) s y q he pa L hk2 hN2 f e b ?_
      rcases hy with ⟨h1, h2, h3⟩ | h
      · refine Or.inl ⟨h1, h2, fun i hi => ?_⟩
        by_cases w : i = k
        · rw [w]; exact z
        · exact h3 i (by omega)
      · exact Or.inr h
    refine br_f c ⟨pk, pF, ?_⟩
    by_cases A : s.2.1 100 (F k) = -1
    · refine br_t A ⟨pk, pT, ?_⟩
      by_cases B : s.2.1 100 (T k) = -1
      · exact br_t B (skip ⟨fun z => absurd A (iF.mp z), fun z => absurd B (iT.mp z)⟩)
      · refine br_f B ⟨pk, pF, br_f (fun z => z A) ⟨pk, ?_⟩⟩
        by_cases fl : s.2.1 99 k ≤ 0
        · refine br_t fl (skip ⟨fun z => absurd A (iF.mp z), fun _ => Or.inr ?_⟩)
          rw [i_le, g4, l_0] at fl
          exact fl
        · refine br_f fl ⟨pk, pF, ?_⟩
          rw [i_le, g4, l_0] at fl
          obtain ⟨i0, i1, i2⟩ := iT.mpr B
          have b2 := BJ_add (e := 2 * k + 1) (w := F k) (k := k) b (by omega) (by omega) sE_3 lF i1 (sE_3.trans i2.symm) (by rw [wE_3]; omega) (fun i hi z => iF.mp ⟨i, hi, z⟩ A)
          have fs : Fr fqLb s (sA s 100 (upd (s.2.1 100) (F k) (nI k))) := fr_sA 100 (fr_rfl _ _)
          exact ih (k + 1) _ 1 _ _ _ (L + 1) hk2 hN2 (fr_tr (F := fqLb) rfl f fs) (EB_fr fs e) b2 (Or.inr ⟨rfl, by omega⟩)
    · refine br_f A ⟨pk, pT, ?_⟩
      by_cases B : s.2.1 100 (T k) = -1
      · refine br_f (fun z => z B) ⟨pk, pk, ?_⟩
        by_cases rm : s.2.1 98 k ≤ s.2.1 99 k
        · refine br_t rm ⟨pk, pT, br_t B (skip ⟨fun _ => Or.inr ?_, fun z => absurd B (iT.mp z)⟩)⟩
          rw [i_le, g3, g4] at rm
          exact rm
        · refine br_f rm ⟨pk, pT, pk, pT, br_f (by rw [pk_us]; exact nI_nm1 (by omega)) ⟨pk, pF, br_t ?_ ?_⟩⟩
          · rw [pk_un (fun z => A (by rw [z]; exact B))]
            exact A
          · rw [i_le, g3, g4] at rm
            obtain ⟨i0, i1, i2⟩ := iF.mpr A
            have b2 := BJ_add (e := 2 * k) (w := T k) (k := k) b (by omega) (by omega) sE_2 lT i1 (sE_2.trans i2.symm) (by rw [wE_2]; omega) (fun i hi z => iT.mp ⟨i, hi, z⟩ B)
            have fs : Fr fqLb s (sA s 100 (upd (s.2.1 100) (T k) (nI k))) := fr_sA 100 (fr_rfl _ _)
            exact ih (k + 1) _ 1 _ _ _ (L + 1) hk2 hN2 (fr_tr (F := fqLb) rfl f fs) (EB_fr fs e) b2 (Or.inr ⟨rfl, by omega⟩)
      · exact br_t B ⟨pk, pT, br_f B ⟨pk, pF, br_t A (skip ⟨fun _ => Or.inl (iT.mpr B), fun _ => Or.inl (iF.mpr A)⟩)⟩⟩
theorem l_249w {S0 : ST} {n m src tt : Nat} {F T : Nat → Nat} {C p : Nat → Int} {x1 x3 : Int32} {X : Int32 → Int32 → Int32 → ST → Prop} {K : Int32 → ST → Prop} (hn : n ≤ 400) (hm : m ≤ 600) (htt : tt < n) (hF : ∀ k, k < m → F k < n ∧ T k < n) (hX : ∀ s q he pa L, Fr fqLb S0 s → EB s n m F T C p → BJ s n m F T C p q he pa L src → ((∀ e, e < m → Ce F T C p q L e) ∨ ¬ s.2.1 100 tt = -1) → X x1 (nI tt) x3 s) : ∀ (N : Nat) (s : ST) (y : Int32) (q he pa : Nat → Nat) (L : Nat), Fr fqLb S0 s → EB s n m F T C p → BJ s n m F T C p q he pa L src → ((y = 0 ∧ 0 < N ∧ ∀ e, e < m → Ce F T C p q L e) ∨ (y = 1 ∧ n + 1 - L < N)) → w_249_L21 N x1 (nI tt) x3 y s X K := by
  intro N
  induction N with
  | zero => intro s y q he pa L _ _ _ h; rcases h with ⟨_, h, _⟩ | ⟨_, h⟩ <;> omega
  | succ N ih =>
    intro s y q he pa L f e b hy
    have hL : L ≤ n := pigeon b.2.2.2.1 b.2.2.1
    rw [w_249_L21]
    rcases hy with ⟨y0, _, cl⟩ | ⟨y1, hN⟩
    · exact br_t y0 (hX s q he pa L f e b (Or.inl cl))
    · rw [nI_clamp (show tt < 2 ^ 31 by omega), y1]
      refine br_f (by decide) ⟨pin_nI (by omega) (by omega), ?_⟩
      by_cases z : s.2.1 100 tt = -1
      · refine br_f (fun w => w z) ⟨m + 1, l_249s (S0 := S0) (L0 := L) hn hm hF ?_ (m + 1) 0 s 0 q he pa L (by omega) (by omega) f e b (Or.inl ⟨rfl, rfl, fun i hi => absurd hi (by omega)⟩)⟩
        intro s2 y2 q2 he2 pa2 L2 f2 e2 b2 h2
        refine ih s2 y2 q2 he2 pa2 L2 f2 e2 b2 ?_
        have hL2 : L2 ≤ n := pigeon b2.2.2.2.1 b2.2.2.1
        rcases h2 with ⟨h1, _, h3⟩ | ⟨h1, h3⟩
        · exact Or.inl ⟨h1, by omega, h3⟩
        · exact Or.inr ⟨h1, by omega⟩
      · exact br_t z (hX s q he pa L f e b (Or.inr z))
theorem l_249c {S0 : ST} {n m : Nat} {F T : Nat → Nat} {C p : Nat → Int} {x1 x2 x3 : Int32} {X : Int32 → Int32 → Int32 → ST → Prop} {K : Int32 → ST → Prop} (hn : n ≤ 400) (hX : ∀ s, Fr fqLb S0 s → EB s n m F T C p → (∀ i, i < n → s.2.1 100 i = -1) → X x1 x2 x3 s) : ∀ (N k : Nat) (s : ST), k ≤ n → n - k < N → Fr fqLb S0 s → EB s n m F T C p → (∀ i, i < k → s.2.1 100 i = -1) → w_249_L2 N x1 x2 x3 (nI k) s X K := by
  intro N
  induction N with
  | zero => intro k s _ z; omega
  | succ N ih =>
    intro k s hk hN f e h
    rw [w_249_L2, e.1, nI_leI (by omega) (by omega)]
    by_cases c : n ≤ k
    · exact br_t c (hX s f e (fun i hi => h i (by omega)))
    refine br_f c ⟨pin_nI (by omega) (by omega), ?_⟩
    rw [nI_clamp (by omega), nI_1]
    have fs : Fr fqLb s (sA s 100 (upd (s.2.1 100) k (-1))) := fr_sA 100 (fr_rfl _ _)
    refine ih (k + 1) _ (by omega) (by omega) (fr_tr (F := fqLb) rfl f fs) (EB_fr fs e) ?_
    intro i hi
    show upd (s.2.1 100) k (-1) i = -1
    by_cases z : i = k
    · rw [z]; exact pk_us
    · rw [pk_un z]; exact h i (by omega)
