/-! ===== the reference's order of the rows that are known ===== -/
def kp (s : ST) (t : Int32) (i : Nat) : Bool := !decide (smI s t i = 0)
def kLn (s : ST) (t : Int32) (n : Nat) : List Nat := ordK (s.2.1 60) (s.2.1 61) (kp s t) n
def kL (s : ST) (t : Int32) : List Nat := kLn s t (nR s)
theorem kLn_eq (s : ST) (t : Int32) (n : Nat) : kLn s t n = (ordL (s.2.1 60) (s.2.1 61) n).filter (kp s t) := ordK_eq n
theorem kLn_srt (s : ST) (t : Int32) (n : Nat) : srt (s.2.1 60) (s.2.1 61) (kLn s t n) := by
  rw [kLn_eq]
  exact List.Pairwise.filter _ (ordL_srt _ _ n)
theorem kLn_mem {s : ST} {t : Int32} {n i : Nat} : i ∈ kLn s t n ↔ i < n ∧ kp s t i = true := by
  rw [kLn_eq, List.mem_filter, ordL_mem]
theorem kLn_nd (s : ST) (t : Int32) (n : Nat) : (kLn s t n).Nodup := by
  rw [kLn_eq]
  exact List.Pairwise.filter _ (ordL_nd n)
theorem kLn_len (s : ST) (t : Int32) (n : Nat) : (kLn s t n).length ≤ n := by
  rw [kLn_eq]
  have := List.length_filter_le (kp s t) (ordL (s.2.1 60) (s.2.1 61) n)
  rw [ordL_len] at this
  exact this
theorem kp_S {D s : ST} (f : Fr fsS D s) (t : Int32) : kp s t = kp D t := by
  funext i
  unfold kp
  rw [smI_S f]
theorem kLn_S {D s : ST} (f : Fr fsS D s) (t : Int32) (n : Nat) : kLn s t n = kLn D t n := by
  unfold kLn
  rw [kp_S f, f.2.1 60 rfl, f.2.1 61 rfl]
theorem nR_S {D s : ST} (f : Fr fsS D s) : nR s = nR D := by
  unfold nR
  rw [f.1 5502 rfl]
theorem kL_S {D s : ST} (f : Fr fsS D s) (t : Int32) : kL s t = kL D t := by
  unfold kL
  rw [kLn_S f, nR_S f]
theorem w196 {s : ST} {i x : Nat} {K : Int32 → ST → Prop} (hi : i < 150) (hx : x < i) (k : K (if lat (s.2.1 60) (s.2.1 61) x i = true then 1 else 0) s) : w_196 (nI i) (nI x) s K := by
  have p1 : pin (nI i) 150 = true := pin_nI hi (by omega)
  have p2 : pin (nI x) 150 = true := pin_nI (by omega) (by omega)
  unfold w_196
  rw [nI_clamp (show i < 2 ^ 31 by omega), nI_clamp (show x < 2 ^ 31 by omega)]
  refine ⟨p1, p2, ?_⟩
  by_cases a : s.2.1 60 i = s.2.1 60 x
  · refine br_t a ⟨p1, p2, ?_⟩
    rw [i_eq] at a
    by_cases b : s.2.1 61 i = s.2.1 61 x
    · refine br_t b ?_
      rw [i_eq] at b
      rw [if_neg (by rw [lat_iff]; omega)] at k
      exact br_t (nI_le (by omega) (by omega)) k
    · refine br_f b ⟨p1, p2, ?_⟩
      rw [i_eq] at b
      by_cases c : s.2.1 61 x ≤ s.2.1 61 i
      · refine br_t c ?_
        rw [i_le] at c
        rw [if_neg (by rw [lat_iff]; omega)] at k
        exact k
      · refine br_f c ?_
        rw [i_le] at c
        rw [if_pos (by rw [lat_iff]; omega)] at k
        exact k
  · refine br_f a ⟨p1, p2, ?_⟩
    rw [i_eq] at a
    by_cases c : s.2.1 60 x ≤ s.2.1 60 i
    · refine br_t c ?_
      rw [i_le] at c
      rw [if_neg (by rw [lat_iff]; omega)] at k
      exact k
    · refine br_f c ?_
      rw [i_le] at c
      rw [if_pos (by rw [lat_iff]; omega)] at k
      exact k
abbrev fq72 : FS := ([], [72], [], false, false)
theorem l_197i {D : ST} {t : Int32} {i : Nat} {L : List Nat} {X : Int32 → Int32 → Int32 → ST → Prop} {K : ST → Prop} (hi : i < 150) (hl : L.length ≤ i) (hm : ∀ x, x ∈ L → x < i) (hX : ∀ (k : Nat) (s : ST), Fr fq72 D s → k ≤ L.length → (∀ j (hj : j < L.length), k ≤ j → lat (D.2.1 60) (D.2.1 61) L[j] i = true) → (∀ (hj : k - 1 < L.length), 0 < k → lat (D.2.1 60) (D.2.1 61) L[k - 1] i = false) → (∀ j (hj : j < L.length), j < k → s.2.1 72 j = nI L[j]) → (∀ j (hj : j < L.length), k ≤ j → s.2.1 72 (j + 1) = nI L[j]) → X t (nI i) (nI k) s) : ∀ (k : Nat) (s : ST), k ≤ L.length → Fr fq72 D s → (∀ j (hj : j < L.length), k ≤ j → lat (D.2.1 60) (D.2.1 61) L[j] i = true) → (∀ j (hj : j < L.length), j < k → s.2.1 72 j = nI L[j]) → (∀ j (hj : j < L.length), k ≤ j → s.2.1 72 (j + 1) = nI L[j]) → w_197_L31 (k + 1) t (nI i) (nI k) s X K := by
  intro k
  induction k with
  | zero =>
    intro s _ f h4 h5 h6
    rw [w_197_L31]
    exact br_t (by decide) (hX 0 s f (by omega) h4 (fun _ z => absurd z (by omega)) h5 h6)
  | succ k ih =>
    intro s hk f h4 h5 h6
    rw [w_197_L31]
    refine br_f (nI_nle (by omega) (by omega)) ?_
    have e1 : nI (k + 1) - 1 = nI k := nI_pred k
    rw [e1, nI_clamp (show k < 2 ^ 31 by omega), nI_clamp (show k + 1 < 2 ^ 31 by omega)]
    refine ⟨pin_nI (by omega) (by omega), ?_⟩
    have hk2 : k < L.length := by omega
    have g := h5 k hk2 (by omega)
    rw [g]
    refine w196 hi (hm L[k] (List.getElem_mem hk2)) ?_
    rw [f.2.1 60 rfl, f.2.1 61 rfl]
    by_cases c : lat (D.2.1 60) (D.2.1 61) L[k] i = true
    · rw [if_pos c]
      refine br_f (by decide) ?_
      refine ⟨pin_nI (by omega) (by omega), pin_nI (by omega) (by omega), ?_⟩
      rw [g]
      refine ih _ (by omega) (fr_sA 72 f) ?_ ?_ ?_
      · intro j hj hkj
        by_cases e : j = k
        · subst e; exact c
        · exact h4 j hj (by omega)
      · intro j hj hjk
        exact (pk_un (by omega)).trans (h5 j hj (by omega))
      · intro j hj hkj
        by_cases e : j = k
        · subst e; exact pk_us
        · exact (pk_un (by omega)).trans (h6 j hj (by omega))
    · rw [if_neg c]
      refine br_t rfl ?_
      refine hX (k + 1) s f hk h4 ?_ h5 h6
      intro hj _
      exact Bool.eq_false_iff.mpr c
abbrev fq197 : FS := ([5520], [72, 73, 74], [], false, false)
theorem fr197 {D s : ST} (f : Fr fq197 D s) : Fr fsS D s := fr_weak rfl f
theorem l_197 {D : ST} {t : Int32} {X K : ST → Prop} (h : Bk D) (hX : ∀ s, Fr fq197 D s → s.1 5520 = nI (kL D t).length → AL (s.2.1 72) (kL D t) → (∀ j, j < nR D → s.2.1 73 j = smI D t j ∧ s.2.1 74 j = -1) → X s) : ∀ n i s, i ≤ nR D → nR D - i < n → Fr fq197 D s → s.1 5520 = nI (kLn D t i).length → AL (s.2.1 72) (kLn D t i) → (∀ j, j < i → s.2.1 73 j = smI D t j ∧ s.2.1 74 j = -1) → w_197_L5 n t (nI i) s X K := by
  obtain ⟨h1, _, h3⟩ := bkR h
  intro n
  induction n with
  | zero => intro i s _ z; omega
  | succ n ih =>
    intro i s hi hn f a1 a2 a3
    rw [w_197_L5, f.1 5502 rfl, h1, nI_leI (by omega) (by omega)]
    by_cases c : nR D ≤ i
    · have : i = nR D := by omega
      subst this
      exact br_t c (hX s f a1 a2 a3)
    refine br_f c ?_
    have hp : pin (nI i) 150 = true := pin_nI (by omega) (by omega)
    rw [nI_clamp (show i < 2 ^ 31 by omega)]
    refine ⟨hp, ?_⟩
    have f1 : Fr fq197 D (sA s 74 (upd (s.2.1 74) i (-1))) := fr_sA 74 f
    have hB := Bk_S (fr197 f1) h
    refine mp_194 hB (by rw [nR_S (fr197 f1)]; omega) ?_
    rw [smI_S (fr197 f1), pk_us]
    refine ⟨hp, hp, ?_⟩
    have f2 : Fr fq197 D (sA (sA s 74 (upd (s.2.1 74) i (-1))) 73 (upd (s.2.1 73) i (smI D t i))) := fr_sA 73 f1
    have a3' : ∀ j, j < i + 1 → upd (s.2.1 73) i (smI D t i) j = smI D t j ∧ upd (s.2.1 74) i (-1) j = -1 := by
      intro j hj
      by_cases e : j = i
      · subst e; exact ⟨pk_us, pk_us⟩
      · rw [pk_un e, pk_un e]; exact a3 j (by omega)
    have hll := kLn_len D t i
    by_cases z : smI D t i = 0
    · refine br_f (fun y => y z) ?_
      have e : kLn D t (i + 1) = kLn D t i := by
        unfold kLn
        rw [ordK, if_neg]
        unfold kp
        rw [z]
        decide
      rw [nI_1]
      refine ih (i + 1) _ (by omega) (by omega) f2 ?_ ?_ a3'
      · rw [e]; exact a1
      · rw [e]; exact a2
    · refine br_t z ?_
      have e : kLn D t (i + 1) = insF (D.2.1 60) (D.2.1 61) i (kLn D t i) := by
        unfold kLn
        rw [ordK, if_pos]
        unfold kp
        rw [decide_eq_false z]
        rfl
      have el : (kLn D t (i + 1)).length = (kLn D t i).length + 1 := by
        have e2 := kLn_eq D t (i + 1)
        rw [e]
        unfold insF
        rw [List.length_append, List.length_cons]
        have e3 := congrArg List.length (parts_srt i (kLn_srt D t i))
        rw [List.length_append] at e3
        omega
      have k5520 : (sA s 74 (upd (s.2.1 74) i (-1))).1 5520 = nI (kLn D t i).length := a1
      rw [k5520]
      refine ⟨(kLn D t i).length + 1, l_197i (D := sA (sA s 74 (upd (s.2.1 74) i (-1))) 73 (upd (s.2.1 73) i (smI D t i))) (L := kLn D t i) (by omega) hll (fun x hx => (kLn_mem.mp hx).1) ?_ (kLn D t i).length _ (Nat.le_refl _) (fr_rfl _ _) (fun j hj y => absurd hj (by omega)) (fun j hj _ => a2 j hj) (fun j hj y => absurd hj (by omega))⟩
      intro k s3 g hk b1 b2 b3 b4
      refine ⟨pin_nI (by omega) (by omega), ?_⟩
      have g5520 : s3.1 5520 = nI (kLn D t i).length := (g.1 5520 rfl).trans a1
      have gf : Fr fq197 D s3 := fr_tr (F := fq72) rfl f2 g
      have d60 : (sA (sA s 74 (upd (s.2.1 74) i (-1))) 73 (upd (s.2.1 73) i (smI D t i))).2.1 60 = D.2.1 60 := f2.2.1 60 rfl
      have d61 : (sA (sA s 74 (upd (s.2.1 74) i (-1))) 73 (upd (s.2.1 73) i (smI D t i))).2.1 61 = D.2.1 61 := f2.2.1 61 rfl
      rw [d60, d61] at b1 b2
      rw [nI_1, g5520, nI_1, nI_clamp (by omega)]
      refine ih (i + 1) _ (by omega) (by omega) (fr_sA 72 (fr_sI 5520 gf)) ?_ ?_ ?_
      · rw [el]; rfl
      · rw [e]
        refine AL_ins (k := k) (kLn_srt D t i) (by omega) b1 b2 ?_ ?_ ?_
        · intro j hj hjk
          exact (pk_un (by omega)).trans (b3 j hj hjk)
        · exact pk_us
        · intro j hj hkj
          exact (pk_un (by omega)).trans (b4 j hj hkj)
      · intro j hj
        show s3.2.1 73 j = smI D t j ∧ s3.2.1 74 j = -1
        have k73 : s3.2.1 73 = upd (s.2.1 73) i (smI D t i) := g.2.1 73 rfl
        have k74 : s3.2.1 74 = upd (s.2.1 74) i (-1) := g.2.1 74 rfl
        rw [k73, k74]
        exact a3' j hj
theorem nd_inj {L : List Nat} (h : L.Nodup) {i j : Nat} (hi : i < L.length) (hj : j < L.length) (e : L[i] = L[j]) : i = j := by
  by_cases c : i < j
  · exact absurd e ((List.pairwise_iff_getElem.mp h) i j hi hj c)
  · by_cases d : j < i
    · exact absurd e.symm ((List.pairwise_iff_getElem.mp h) j i hj hi d)
    · omega
abbrev fq74 : FS := ([], [74], [], false, false)
/-- what the reference knows of a day -/
def RW (D : ST) (t : Int32) (s : ST) : Prop := s.1 5520 = nI (kL D t).length ∧ AL (s.2.1 72) (kL D t) ∧ (∀ j, j < nR D → s.2.1 73 j = smI D t j) ∧ (∀ k (h : k < (kL D t).length), s.2.1 74 (kL D t)[k] = nI k) ∧ (∀ i, i < nR D → i ∉ kL D t → s.2.1 74 i = -1)
theorem l_197p {D : ST} {L : List Nat} {R : Nat} {X K : ST → Prop} (hR : R ≤ 150) (hl : L.length ≤ R) (hm : ∀ x, x ∈ L → x < R) (hnd : L.Nodup) (hX : ∀ s, Fr fq74 D s → (∀ k (h : k < L.length), s.2.1 74 L[k] = nI k) → (∀ i, i ∉ L → s.2.1 74 i = D.2.1 74 i) → X s) (h5520 : D.1 5520 = nI L.length) (hA : AL (D.2.1 72) L) : ∀ n k s, k ≤ L.length → L.length - k < n → Fr fq74 D s → (∀ j (h : j < L.length), j < k → s.2.1 74 L[j] = nI j) → (∀ i, i ∉ L → s.2.1 74 i = D.2.1 74 i) → w_197_L73 n (nI k) s X K := by
  intro n
  induction n with
  | zero => intro k s _ z; omega
  | succ n ih =>
    intro k s hk hn f a1 a2
    rw [w_197_L73, f.1 5520 rfl, h5520, nI_leI (by omega) (by omega)]
    by_cases c : L.length ≤ k
    · exact br_t c (hX s f (fun j h => a1 j h (by omega)) a2)
    refine br_f c ?_
    have hk2 : k < L.length := by omega
    have hx : L[k] < R := hm _ (List.getElem_mem hk2)
    have e72 : s.2.1 72 k = nI L[k] := by rw [f.2.1 72 rfl]; exact hA k hk2
    rw [nI_clamp (show k < 2 ^ 31 by omega), e72, nI_clamp (show L[k] < 2 ^ 31 by omega), nI_1]
    refine ⟨pin_nI (by omega) (by omega), pin_nI (by omega) (by omega), ih (k + 1) _ (by omega) (by omega) (fr_sA 74 f) ?_ ?_⟩
    · intro j h hj
      show upd (s.2.1 74) L[k] (nI k) L[j] = nI j
      by_cases e : j = k
      · subst e; exact pk_us
      · rw [pk_un]
        · exact a1 j h (by omega)
        · intro z
          exact e (nd_inj hnd h hk2 z)
    · intro i hi
      show upd (s.2.1 74) L[k] (nI k) i = D.2.1 74 i
      rw [pk_un]
      · exact a2 i hi
      · intro z
        subst z
        exact hi (List.getElem_mem hk2)
theorem mp_197s {s : ST} {t : Int32} {K : ST → Prop} (h : Bk s) (k : ∀ s1, Fr fq197 s s1 → RW s t s1 → K s1) : w_197 t s K := by
  have hR := (bkR h).2.2
  have hlen := kLn_len s t (nR s)
  unfold w_197
  refine ⟨151, l_197 (D := s) h ?_ 151 0 (sI s 5520 0) (by omega) (by omega) (fr_sI 5520 (fr_rfl _ _)) rfl (fun k hk => absurd hk (by rw [kLn]; exact Nat.not_lt_zero _)) (fun j hj => absurd hj (by omega))⟩
  intro s1 f1 b1 b2 b3
  refine ⟨151, l_197p (L := kL s t) (R := nR s) hR hlen (fun x hx => (kLn_mem.mp hx).1) (kLn_nd s t _) ?_ b1 b2 151 0 s1 (by omega) (by show (kLn s t (nR s)).length - 0 < 151; omega) (fr_rfl _ _) (fun j _ hj => absurd hj (by omega)) (fun i _ => rfl)⟩
  intro s2 f2 c1 c2
  refine k s2 (fr_tr (F := fq74) rfl f1 f2) ⟨?_, ?_, ?_, c1, ?_⟩
  · rw [f2.1 5520 rfl]; exact b1
  · rw [f2.2.1 72 rfl]; exact b2
  · intro j hj
    rw [f2.2.1 73 rfl]; exact (b3 j hj).1
  · intro i hi hn
    rw [c2 i hn]; exact (b3 i hi).2
theorem RW_S {D s s1 : ST} {t : Int32} (f : Fr fsS D s) (h : RW s t s1) : RW D t s1 := by
  unfold RW at h ⊢
  rw [← kL_S f, ← nR_S f, ← smI_S f]
  exact h
theorem mp_197 {D s : ST} {t : Int32} {K : ST → Prop} (h : Bk D) (f : Fr fsS D s) (k : ∀ s1, Fr fq197 s s1 → RW D t s1 → K s1) : w_197 t s K :=
  mp_197s (Bk_S f h) (fun s1 g r => k s1 g (RW_S f r))
