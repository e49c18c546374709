/-! ===== sample; printed by wip/whole/gensample.py ===== -/
def DA (D : ST) (t : Int32) (gg : Nat → Int32) (l : List Nat) : Prop := ∀ j (h : j < l.length), gg j = nI (lr D t l[j])
theorem DA_snoc {D : ST} {t : Int32} {gg : Nat → Int32} {l : List Nat} {p : Nat} (h : DA D t gg l) : DA D t (upd gg l.length (nI (lr D t p))) (l ++ [p]) := by
  intro k hk
  rw [List.length_append, List.length_singleton] at hk
  by_cases c : k < l.length
  · rw [pk_un (by omega), List.getElem_append_left c]
    exact h k c
  · have : k = l.length := by omega
    subst this
    rw [pk_us, List.getElem_append_right (Nat.le_refl _)]
    simp only [Nat.sub_self, List.getElem_singleton]
theorem l_166 {D s : ST} {t : Int32} {l : List Nat} {p : Nat} {X18 X14 : ST → Prop} {K : Int32 → ST → Prop} (h : Bk D) (hl : l.length ≤ 50) (hm : ∀ q, q ∈ l → q < (kL D t).length) (hp : p < (kL D t).length) (hd : DA D t (s.2.1 33) l) (k0 : p ∉ l → X18 s) (k1 : p ∈ l → X14 s) : ∀ n j, j ≤ l.length → l.length - j < n → (∀ i (hi : i < l.length), i < j → ¬ l[i] = p) → w_166_L2 n (nI (lr D t p)) (nI l.length) (nI j) s X18 X14 K := by
  have hR := (bkR h).2.2
  intro n
  induction n with
  | zero => intro j _ z; omega
  | succ n ih =>
    intro j hj hn hs
    rw [w_166_L2, nI_leI (by omega) (by omega)]
    by_cases c : l.length ≤ j
    · refine br_t c (k0 (fun z => ?_))
      obtain ⟨i, hi, e⟩ := List.getElem_of_mem z
      exact hs i hi (by omega) e
    refine br_f c ?_
    have hjl : j < l.length := by omega
    have e50 : (50 : Int32) = nI 50 := rfl
    rw [e50, nI_leI (by omega) (by omega)]
    refine br_f (by omega) ⟨pin_nI (by omega) (by omega), ?_⟩
    rw [nI_clamp (by omega), hd j hjl, nI_1]
    have hq := hm l[j] (List.getElem_mem hjl)
    have b1 := (kL_lt h hq).1
    have b2 := (kL_lt h hp).1
    rw [lr_e hq, lr_e hp, nI_eq (by omega) (by omega)]
    by_cases d : l[j] = p
    · have e : (kL D t)[l[j]] = (kL D t)[p] := by simp only [d]
      refine br_f (fun z => z e) (k1 ?_)
      rw [← d]
      exact List.getElem_mem hjl
    · have e : ¬ (kL D t)[l[j]] = (kL D t)[p] := fun z => d (nd_inj (kLn_nd D t _) hq hp z)
      refine br_t e ?_
      have nx := ih (j + 1) (by omega) (by omega) (fun i hi hij => by
        by_cases y : i = j
        · subst y; exact d
        · exact hs i hi (by omega))
      rw [lr_e hp] at nx
      exact nx
theorem mp_166 {D s : ST} {t : Int32} {l : List Nat} {p : Nat} {K : Int32 → ST → Prop} (h : Bk D) (hl : l.length ≤ 50) (hm : ∀ q, q ∈ l → q < (kL D t).length) (hp : p < (kL D t).length) (hd : DA D t (s.2.1 33) l) (k0 : p ∉ l → K 0 s) (k1 : p ∈ l → K 1 s) : w_166 (nI (lr D t p)) (nI l.length) s K := ⟨51, l_166 h hl hm hp hd k0 k1 51 0 (by omega) (by omega) (fun i _ hi => absurd hi (by omega))⟩
abbrev fq33 : FS := ([], [33], [], false, false)
theorem PV_33 {D S s : ST} {t : Int32} (f : Fr fq33 S s) (h : PV D t S) : PV D t s := by
  refine ⟨fr_tr (F := fq33) rfl h.1 f, ?_, ?_, ?_⟩
  · rw [f.1 801 rfl]; exact h.2.1
  · rw [f.2.1 11 rfl]; exact h.2.2.1
  · rw [f.2.1 9 rfl]; exact h.2.2.2
theorem VW_33 {D S s : ST} {t : Int32} (f1 : Fr fq33 S s) (v : VW D t S) : VW D t s := by
  obtain ⟨q1, q2, q3, q4, q5⟩ := v
  refine ⟨by rw [f1.1 800 rfl]; exact q1, PV_33 f1 q2, by rw [f1.2.1 9 rfl]; exact q3, by rw [f1.2.1 10 rfl]; exact q4, ?_⟩
  intro kk hk
  rw [f1.2.1 12 rfl, f1.2.1 13 rfl]
  exact q5 kk hk
theorem l_165 {D S0 : ST} {t : Int32} {seed N : Nat} {X : Int32 → Int64 → ST → Prop} {K : Int32 → ST → Prop} (h : Bk D) (pv0 : PV D t S0) (hs : seed < 65536) (hT : 0 < tT D t) (hN : N ≤ 50) (hX : ∀ s, Fr fq33 S0 s → DA D t (s.2.1 33) (dr D t seed N) → X (nI (dr D t seed N).length) (lN (tT D t)) s) : ∀ m i s, i + m = N → Fr fq33 S0 s → DA D t (s.2.1 33) (dr D t seed i) → w_165_L11 (m + 1) (nI N) (nI (dr D t seed i).length) (nI (xq seed i)) (lN (tT D t)) (nI i) s X K := by
  intro m
  induction m with
  | zero =>
    intro i s hi f hd
    have : i = N := by omega
    subst this
    rw [w_165_L11]
    exact br_t (nI_le (Nat.le_refl _) (by omega)) (hX s f hd)
  | succ m ih =>
    intro i s hi f hd
    have pv := PV_33 f pv0
    have hlen := dr_len (D := D) (t := t) (seed := seed) i
    rw [w_165_L11, nI_leI (by omega) (by omega), xq_c hs, coin_l h hs]
    refine br_f (by omega) ⟨by decide, ?_⟩
    have hc := coin_lt (i := i) hs hT
    refine mp_125 h pv hc ?_
    have hp := plT_lt hc
    have nx : ∀ s2, Fr fq33 S0 s2 → DA D t (s2.2.1 33) (dr D t seed (i + 1)) → w_165_L11 (m + 1) (nI N) (nI (dr D t seed (i + 1)).length) (nI (xq seed (i + 1))) (lN (tT D t)) (nI i + 1) s2 X K := by
      intro s2 f2 d2
      rw [nI_1]
      exact ih (i + 1) s2 (by omega) f2 d2
    rw [dr] at nx
    refine mp_166 h (by omega) (dr_lt hs hT i) hp hd (fun a => ?_) (fun a => ?_)
    · rw [if_neg a, List.length_append, List.length_singleton] at nx
      refine br_f (fun z => z rfl) ?_
      have e50 : (50 : Int32) = nI 50 := rfl
      rw [e50, nI_leI (by omega) (by omega)]
      refine br_f (by omega) ⟨pin_nI (by omega) (by omega), ?_⟩
      rw [nI_clamp (by omega), nI_1 (dr D t seed i).length]
      exact nx _ (fr_sA 33 f) (DA_snoc hd)
    · rw [if_pos a] at nx
      exact br_t (by decide) (nx s f hd)
theorem l_167 {D S0 : ST} {t : Int32} {l : List Nat} {w : Bool} {wi : Int32} {X K : Int32 → ST → Prop} (h : Bk D) (hJ : Jrul D) (v0 : VW D t S0) (hu : S0.1 1600 = -1) (hw : wi = if w = true then 1 else 0) (hl : l.length ≤ 50) (hm : ∀ q, q ∈ l → q < (kL D t).length) (hd : DA D t (S0.2.1 33) l) (hX : ∀ s, Fr fqW S0 s → X (nI (dsN D t w l)) s) : ∀ n j s, j ≤ l.length → l.length - j < n → Fr fqW S0 s → w_167_L4 n (nI l.length) wi (nI (dsN D t w (l.take j))) (nI j) s X K := by
  have hR := (bkR h).2.2
  intro n
  induction n with
  | zero => intro j s _ z; omega
  | succ n ih =>
    intro j s hj hn f
    have v := VW_W f v0
    rw [w_167_L4, nI_leI (by omega) (by omega)]
    by_cases c : l.length ≤ j
    · rw [List.take_of_length_le c]
      exact br_t c (hX s f)
    refine br_f c ?_
    have hjl : j < l.length := by omega
    have e50 : (50 : Int32) = nI 50 := rfl
    rw [e50, nI_leI (by omega) (by omega)]
    refine br_f (by omega) ⟨pin_nI (by omega) (by omega), ?_⟩
    have hq := hm l[j] (List.getElem_mem hjl)
    have hx := (kL_lt h hq).1
    rw [nI_clamp (by omega), f.2.1 33 rfl, hd j hjl, lr_e hq]
    refine mp_56 (u := -1) h hJ v (by rw [f.1 1600 rfl]; exact hu) hq (fun s1 f1 => ?_)
    have f2 : Fr fqW S0 s1 := fr_tr (F := fqW) rfl f f1
    have nx := ih (j + 1) s1 (by omega) (by omega) f2
    rw [List.take_succ_eq_append_getElem hjl, dsN_snoc, lr_e hq, ← nI_1 j] at nx
    have ew : ((if fnd D t (-1) (kL D t)[l[j]] = true then (1 : Int32) else 0) = wi) ↔ fnd D t (-1) (kL D t)[l[j]] = w := by
      rw [hw]
      cases fnd D t (-1) (kL D t)[l[j]] <;> cases w <;> simp
    by_cases d : fnd D t (-1) (kL D t)[l[j]] = w
    · rw [if_pos d] at nx
      refine br_f (fun z => z (ew.mpr d)) ⟨pin_nI (by omega) (by omega), ?_⟩
      rw [f2.2.1 33 rfl, hd j hjl, lr_e hq, w119 (by omega), (VW_W f2 v0).2.1.2.2.2 _ hx, smI_N h hx, nI_add]
      exact nx
    · rw [if_neg d, Nat.add_zero] at nx
      exact br_t (fun z => d (ew.mp z)) nx
theorem mp_167 {D s : ST} {t : Int32} {l : List Nat} {w : Bool} {wi : Int32} {K : Int32 → ST → Prop} (h : Bk D) (hJ : Jrul D) (v0 : VW D t s) (hu : s.1 1600 = -1) (hw : wi = if w = true then 1 else 0) (hl : l.length ≤ 50) (hm : ∀ q, q ∈ l → q < (kL D t).length) (hd : DA D t (s.2.1 33) l) (k : ∀ s1, Fr fqW s s1 → K (nI (dsN D t w l)) s1) : w_167 (nI l.length) wi s K := by
  unfold w_167
  exact ⟨51, l_167 h hJ v0 hu hw hl hm hd k 51 0 s (by omega) (by omega) (fr_rfl _ _)⟩
/-! the reference -/
abbrev fq110 : FS := ([], [110], [], false, false)
abbrev fqS : FS := ([], [94, 110], [92, 93], false, false)
theorem RW_110 {D S s : ST} {t : Int32} (f : Fr fqS S s) (h : RW D t S) : RW D t s := by
  unfold RW at h ⊢
  rw [f.1 5520 rfl, f.2.1 72 rfl, f.2.1 73 rfl, f.2.1 74 rfl]
  exact h
theorem l_269t {D S0 : ST} {t x1 x2 x3 : Int32} {X : Int32 → Int32 → Int32 → Int64 → ST → Prop} {K : Int32 → ST → Prop} (h : Bk D) (r0 : RW D t S0) (hX : ∀ s, Fr fqS S0 s → (∀ p, p < (kL D t).length → s.2.1 110 p = 0) → X x1 x2 x3 (lN (tT D t)) s) : ∀ n k s, k ≤ (kL D t).length → (kL D t).length - k < n → Fr fqS S0 s → (∀ p, p < k → s.2.1 110 p = 0) → w_269_L25 n x1 x2 x3 (lN (pS D t k)) (nI k) s X K := by
  have h150 := kL_150 h (t := t)
  intro n
  induction n with
  | zero => intro k s _ z; omega
  | succ n ih =>
    intro k s hk hn f hs
    have r := RW_110 f r0
    rw [w_269_L25, r.1, nI_leI (by omega) (by omega)]
    by_cases c : (kL D t).length ≤ k
    · have : k = (kL D t).length := by omega
      subst this
      exact br_t c (hX s f hs)
    refine br_f c ?_
    have hkl : k < (kL D t).length := by omega
    obtain ⟨r1, r2, r3, hx, r5, r6⟩ := rp h r hkl
    have nx := ih (k + 1) (sA s 110 (upd (s.2.1 110) k 0)) (by omega) (by omega) (fr_sA 110 f) (fun p hp => by
      show upd (s.2.1 110) k 0 p = 0
      by_cases e : p = k
      · subst e; exact pk_us
      · rw [pk_un e]; exact hs p (by omega))
    rw [pS, lr_e hkl, ← nI_1 k] at nx
    rw [nI_clamp (show k < 2 ^ 31 by omega), r1, r5, r6, sum_l h hx, lN_add, nar0]
    exact ⟨r2, r2, r3, nx⟩
theorem l_269m {D S0 : ST} {a3 : Int32} {seed N : Nat} {X162 : Int32 → Int64 → Int32 → Int32 → Int64 → Value → ST → Prop} {X120 : Int64 → Int64 → Int64 → Int32 → ST → Prop} {K : Int32 → ST → Prop} (h : Bk D) (hJ : Jrul D) (f0 : Fr fsS D S0) (r0 : RW D (D.1 5500) S0) (hu : S0.1 5552 = -2) (hs : seed < 65536) (hT : 0 < tT D (D.1 5500)) (hN : N ≤ 50) (h1 : ∀ s v, Fr fqS S0 s → (∀ j, j < (dr D (D.1 5500) seed N).length → ¬ a3 = nI (10 + j)) → X162 a3 (lN (tT D (D.1 5500))) (nI (dr D (D.1 5500) seed N).length) (nI (dsN D (D.1 5500) true (dr D (D.1 5500) seed N))) (lN (dsN D (D.1 5500) false (dr D (D.1 5500) seed N))) v s) (h2 : ∀ s e1 e2 i, Fr fqS S0 s → i < N → plT D (D.1 5500) (coin D (D.1 5500) seed i) ∉ dr D (D.1 5500) seed i → a3 = nI (10 + (dr D (D.1 5500) seed i).length) → X120 (lN (tT D (D.1 5500))) e1 e2 (nI (plT D (D.1 5500) (coin D (D.1 5500) seed i))) s) : ∀ m i s v, i + m = N → Fr fqS S0 s → (∀ p, p < (kL D (D.1 5500)).length → (s.2.1 110 p = 0 ↔ p ∉ dr D (D.1 5500) seed i)) → (∀ j, j < (dr D (D.1 5500) seed i).length → ¬ a3 = nI (10 + j)) → w_269_L57 (m + 1) (nI N) a3 (lN (tT D (D.1 5500))) (nI (xq seed i)) (nI (dr D (D.1 5500) seed i).length) (nI (dsN D (D.1 5500) true (dr D (D.1 5500) seed i))) (lN (dsN D (D.1 5500) false (dr D (D.1 5500) seed i))) (nI i) v s X162 X120 K := by
  have h150 := kL_150 h (t := D.1 5500)
  intro m
  induction m with
  | zero =>
    intro i s v hi f hd ha
    have : i = N := by omega
    subst this
    rw [w_269_L57]
    exact br_t (nI_le (Nat.le_refl _) (by omega)) (h1 s v f ha)
  | succ m ih =>
    intro i s v hi f hd ha
    have r := RW_110 f r0
    have hlen := dr_len (D := D) (t := D.1 5500) (seed := seed) i
    rw [w_269_L57, nI_leI (by omega) (by omega), xq_r hs, coin_l h hs]
    refine br_f (by omega) ⟨by decide, by decide, ?_⟩
    have hc := coin_lt (D := D) (t := D.1 5500) (i := i) hs hT
    have hp := plT_lt hc
    have z0 : lN (coin D (D.1 5500) seed i) = lN (coin D (D.1 5500) seed i - pS D (D.1 5500) 0) := rfl
    rw [z0]
    refine ⟨(kL D (D.1 5500)).length + 1, l_269p (r := plT D (D.1 5500) (coin D (D.1 5500) seed i)) h r hc ?_ (kL D (D.1 5500)).length 0 (by omega) (Nat.zero_le _) rfl⟩
    intro e
    obtain ⟨r1, r2, r3, hx, r5, r6⟩ := rp h r hp
    rw [nI_clamp (show plT D (D.1 5500) (coin D (D.1 5500) seed i) < 2 ^ 31 by omega), r1, nar1]
    refine ⟨r2, ?_⟩
    have hz := hd _ hp
    have nx : ∀ s2 v2, Fr fqS S0 s2 → (∀ p, p < (kL D (D.1 5500)).length → (s2.2.1 110 p = 0 ↔ p ∉ dr D (D.1 5500) seed (i + 1))) → (∀ j, j < (dr D (D.1 5500) seed (i + 1)).length → ¬ a3 = nI (10 + j)) → w_269_L57 (m + 1) (nI N) a3 (lN (tT D (D.1 5500))) (nI (xq seed (i + 1))) (nI (dr D (D.1 5500) seed (i + 1)).length) (nI (dsN D (D.1 5500) true (dr D (D.1 5500) seed (i + 1)))) (lN (dsN D (D.1 5500) false (dr D (D.1 5500) seed (i + 1)))) (nI i + 1) v2 s2 X162 X120 K := by
      intro s2 v2 f2 d2 a2
      rw [nI_1]
      exact ih (i + 1) s2 v2 (by omega) f2 d2 a2
    rw [dr] at nx
    generalize hpp : plT D (D.1 5500) (coin D (D.1 5500) seed i) = p at *
    by_cases c : p ∈ dr D (D.1 5500) seed i
    · rw [if_pos c] at nx
      refine br_f (fun z => (hz.mp z) c) (nx s _ f hd ha)
    · rw [if_neg c] at nx
      refine br_t (hz.mpr c) ⟨r2, ?_⟩
      have e10 : (10 : Int32) + nI (dr D (D.1 5500) seed i).length = nI (10 + (dr D (D.1 5500) seed i).length) := nI_add 10 _
      rw [e10]
      by_cases d : a3 = nI (10 + (dr D (D.1 5500) seed i).length)
      · have hh := h2 (sA s 110 (upd (s.2.1 110) p 1)) (lN (dsN D (D.1 5500) false (dr D (D.1 5500) seed i))) e i (fr_sA 110 f) (by omega)
        rw [hpp] at hh
        exact br_f (fun z => z d) (hh c d)
      · refine br_t d ⟨r2, ?_⟩
        have f1 : Fr fqS S0 (sA s 110 (upd (s.2.1 110) p 1)) := fr_sA 110 f
        have fD1 : Fr fsS D (sA s 110 (upd (s.2.1 110) p 1)) := fr_tr (F := fqS) rfl f0 f1
        have k5500 : s.1 5500 = D.1 5500 := (fr_tr (F := fqS) rfl f0 f).1 5500 rfl
        rw [k5500]
        refine mp_239 (u := -1) h hJ fD1 (RW_110 f1 r0) (by rw [f1.1 5552 rfl, hu]; exact hu_n h hx) hx (fun s2 f2 => ?_)
        have f3 : Fr fqS S0 s2 := fr_tr (F := fqR) rfl f1 f2
        have rr := RW_110 f3 r0
        obtain ⟨w1, w2, w3, _, w5, w6⟩ := rp h rr hp
        rw [w1, w5, w6, sum_l h hx]
        have k110 : s2.2.1 110 = upd (s.2.1 110) p 1 := f2.2.1 110 rfl
        have nd : ∀ q, q < (kL D (D.1 5500)).length → (s2.2.1 110 q = 0 ↔ q ∉ dr D (D.1 5500) seed i ++ [p]) := by
          intro q hq
          rw [k110, List.mem_append, List.mem_singleton]
          by_cases y : q = p
          · subst y
            rw [pk_us]
            exact ⟨fun z => absurd z (by decide), fun z => absurd (Or.inr rfl) z⟩
          · rw [pk_un y, hd q hq]
            exact ⟨fun z w => w.elim z y, fun z w => z (Or.inl w)⟩
        have na : ∀ j, j < (dr D (D.1 5500) seed i ++ [p]).length → ¬ a3 = nI (10 + j) := by
          intro j hj
          rw [List.length_append, List.length_singleton] at hj
          by_cases y : j = (dr D (D.1 5500) seed i).length
          · rw [y]; exact d
          · exact ha j (by omega)
        have nx2 := fun v2 => nx s2 v2 f3 nd na
        rw [dsN_snoc, dsN_snoc, lr_e hp, List.length_append, List.length_singleton] at nx2
        by_cases y : fnd D (D.1 5500) (-1) (kL D (D.1 5500))[p] = true
        · rw [if_pos y]
          rw [if_pos y, if_neg (by rw [y]; decide), Nat.add_zero] at nx2
          refine br_f (by decide) ⟨w2, w3, ?_⟩
          rw [nI_1 (dr D (D.1 5500) seed i).length, smI_N h hx, nI_add]
          exact nx2 _
        · rw [if_neg y]
          rw [if_neg y, if_pos (Bool.eq_false_iff.mpr y), Nat.add_zero] at nx2
          refine br_t rfl ⟨w2, w3, ?_⟩
          rw [nI_1 (dr D (D.1 5500) seed i).length, lN_add]
          exact nx2 _
