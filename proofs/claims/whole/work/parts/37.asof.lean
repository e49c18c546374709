/-! ===== the view, whole ===== -/
def sdy (D : ST) (t : Int32) (x : Nat) : List Nat := (kL D t).filter (fun q => decide (D.2.1 60 q = D.2.1 60 x))
theorem kL_day {D : ST} {t : Int32} {i j : Nat} (hi : i < (kL D t).length) (hj : j < (kL D t).length) (hij : i ≤ j) : (D.2.1 60 (kL D t)[i]).toInt ≤ (D.2.1 60 (kL D t)[j]).toInt := by
  by_cases c : i = j
  · subst c; exact Int.le_refl _
  · have h := (List.pairwise_iff_getElem.mp (kLn_srt D t (nR D))) i j hi hj (by omega)
    rw [lat_niff] at h
    show (D.2.1 60 (kLn D t (nR D))[i]).toInt ≤ (D.2.1 60 (kLn D t (nR D))[j]).toInt
    omega
theorem seg_day {D : ST} {t : Int32} {a b x : Nat} (hab : a ≤ b) (hb : b ≤ (kL D t).length) (h1 : ∀ k (hk : k < (kL D t).length), a ≤ k → k < b → D.2.1 60 (kL D t)[k] = D.2.1 60 x) (h2 : ∀ k (hk : k < (kL D t).length), k < a → D.2.1 60 (kL D t)[k] ≠ D.2.1 60 x) (h3 : ∀ k (hk : k < (kL D t).length), b ≤ k → D.2.1 60 (kL D t)[k] ≠ D.2.1 60 x) : sdy D t x = seg (kL D t) a b := by
  unfold sdy seg
  have e0 : kL D t = (kL D t).take a ++ (((kL D t).drop a).take (b - a) ++ ((kL D t).drop a).drop (b - a)) := by
    rw [List.take_append_drop, List.take_append_drop]
  have n1 : ((kL D t).take a).filter (fun q => decide (D.2.1 60 q = D.2.1 60 x)) = [] := by
    rw [List.filter_eq_nil_iff]
    intro q hq
    obtain ⟨j, hj, rfl⟩ := List.mem_take_iff_getElem.mp hq
    rw [decide_eq_true_eq]
    exact h2 j (by omega) (by omega)
  have n2 : (((kL D t).drop a).take (b - a)).filter (fun q => decide (D.2.1 60 q = D.2.1 60 x)) = ((kL D t).drop a).take (b - a) := by
    rw [List.filter_eq_self]
    intro q hq
    obtain ⟨j, hj, rfl⟩ := List.mem_take_iff_getElem.mp hq
    rw [List.length_drop] at hj
    rw [List.getElem_drop, decide_eq_true_eq]
    exact h1 (a + j) (by omega) (by omega) (by omega)
  have n3 : (((kL D t).drop a).drop (b - a)).filter (fun q => decide (D.2.1 60 q = D.2.1 60 x)) = [] := by
    rw [List.filter_eq_nil_iff]
    intro q hq
    rw [List.drop_drop] at hq
    obtain ⟨j, hj, rfl⟩ := List.mem_drop_iff_getElem.mp hq
    rw [decide_eq_true_eq]
    exact h3 _ (by omega) (by omega)
  have z := congrArg (List.filter (fun q => decide (D.2.1 60 q = D.2.1 60 x))) e0
  rw [List.filter_append, List.filter_append, n1, n2, n3, List.nil_append, List.append_nil] at z
  exact z
theorem w114 {D s : ST} {t : Int32} {k : Nat} {K : Int32 → ST → Prop} (h : Bk D) (pv : PV D t s) (hk : k < (kL D t).length) : w_114 (nI k) s K = K (D.2.1 60 (kL D t)[k]) s := by
  have hB := Bk_S pv.1 h
  have hx := (kL_lt h hk).1
  have hxs : (kL D t)[k] < nR s := by rw [nR_S pv.1]; exact hx
  have q3 : s.2.1 3 (11 * (kL D t)[k] + 3) = s.2.1 60 (kL D t)[k] := (hB.2.2.1.2.2.2 _ hxs).1.2.2.2.1
  rw [w_114, w123 pv.2.1 pv.2.2.1 (kL_150 h) hk, c9 (c := 3) (x := 3) hB hxs (by omega) rfl, q3, pv.1.2.1 60 rfl]
def CT (D : ST) (t : Int32) (s : ST) (k : Nat) : Prop := ∀ (hk : k < (kL D t).length), s.2.1 12 (kL D t)[k] = nI (cntH D (sdy D t (kL D t)[k]) (hN D (kL D t)[k])) ∧ s.2.1 13 (kL D t)[k] = tvI D t (sdy D t (kL D t)[k]) (kL D t)[k]
theorem l_111c {D S : ST} {t : Int32} {X : ST → Prop} {K : ST → Prop} (h : Bk D) (hS : PV D t S) (hX : ∀ s, Fr fqB S s → (∀ k, k < 16 → s.2.1 14 k = 0) → (∀ g, g < 40 → s.2.1 15 g = 0) → (∀ k, CT D t s k) → X s) : ∀ n a e s, a < e → e ≤ (kL D t).length + 1 → (e = (kL D t).length + 1 → a = (kL D t).length) → (kL D t).length + 1 - e < n → Fr fqB S s → (∀ k, k < 16 → s.2.1 14 k = 0) → (∀ g, g < 40 → s.2.1 15 g = 0) → (∀ k (hk : k < (kL D t).length) (ha : a < (kL D t).length), a ≤ k → k < e → D.2.1 60 (kL D t)[k] = D.2.1 60 (kL D t)[a]) → (∀ k (hk : k < (kL D t).length) (ha : a < (kL D t).length), k < a → D.2.1 60 (kL D t)[k] ≠ D.2.1 60 (kL D t)[a]) → (∀ k, k < a → CT D t s k) → w_111_L27 n (nI a) (nI e) s X K := by
  have h150 := kL_150 h (t := t)
  intro n
  induction n with
  | zero => intro a e s _ _ _ z; omega
  | succ n ih =>
    intro a e s hae hel hend hn f i14 i15 id1 id2 ict
    have pv := PV_B hS f
    rw [w_111_L27, pv.2.1, nI_ltI (by omega) (by omega)]
    by_cases c : (kL D t).length < e
    · refine br_t c (hX s f i14 i15 ?_)
      intro k hk
      exact ict k (by have := hend (by omega); omega) hk
    refine br_f c ?_
    rw [nI_eq (by omega) (by omega)]
    have ha : a < (kL D t).length := by omega
    -- what counting the day does
    have cnt : (e = (kL D t).length ∨ ∃ he : e < (kL D t).length, D.2.1 60 (kL D t)[e] ≠ D.2.1 60 (kL D t)[a]) → w_115 (nI a) (nI e) s (fun s8 => w_111_L27 n (nI e) (nI e + 1) s8 X K) := by
      intro hcase
      have sd : ∀ k (hk : k < (kL D t).length), a ≤ k → k < e → sdy D t (kL D t)[k] = seg (kL D t) a e := by
        intro k hk hak hke
        have ek := id1 k hk ha hak hke
        refine seg_day (by omega) (by omega) ?_ ?_ ?_
        · intro j hj h1 h2
          rw [id1 j hj ha h1 h2, ek]
        · intro j hj h1
          rw [ek]
          exact id2 j hj ha h1
        · intro j hj h1
          rw [ek]
          rcases hcase with z | ⟨he, z⟩
          · omega
          · have m1 := kL_day he hj h1
            have m2 := kL_day ha he (by omega)
            intro y
            rw [i_eq] at y
            apply z
            rw [i_eq]
            omega
      refine mp_115 h pv (by omega) (by omega) i14 i15 ?_
      intro s1 g1 b14 b15 b12 b13
      rw [nI_1]
      refine ih e (e + 1) s1 (by omega) (by omega) (by omega) (by omega) (fr_tr (F := fqB) rfl f g1) b14 b15 ?_ ?_ ?_
      · intro k hk he h1 h2
        have : k = e := by omega
        subst this
        rfl
      · intro k hk he h1
        rcases hcase with z | ⟨he2, z⟩
        · omega
        · have m1 := kL_day ha he2 (by omega)
          by_cases ka : k < a
          · have m2 := kL_day hk ha (by omega)
            intro y
            apply z
            rw [i_eq] at y ⊢
            omega
          · rw [id1 k hk ha (by omega) h1]
            exact fun y => z y.symm
      · intro k hke hk
        by_cases ka : k < a
        · obtain ⟨y1, y2⟩ := b13 k hk ka
          rw [y1, y2]
          exact ict k ka hk
        · obtain ⟨y1, y2⟩ := b12 k hk (by omega) hke
          rw [y1, y2, sd k hk (by omega) hke]
          exact ⟨rfl, rfl⟩
    by_cases d : e = (kL D t).length
    · exact br_t d (cnt (Or.inl d))
    · refine br_f d ?_
      have he : e < (kL D t).length := by omega
      rw [w114 h pv he, w114 h pv ha]
      by_cases g : D.2.1 60 (kL D t)[e] = D.2.1 60 (kL D t)[a]
      · refine br_t g ?_
        rw [nI_1]
        refine ih a (e + 1) s (by omega) (by omega) (by omega) (by omega) f i14 i15 ?_ id2 ict
        intro k hk ha2 h1 h2
        by_cases y : k = e
        · subst y; exact g
        · exact id1 k hk ha2 h1 (by omega)
      · exact br_f g (cnt (Or.inr ⟨he, g⟩))
/-- what the class knows of a day -/
def VW (D : ST) (t : Int32) (s : ST) : Prop := s.1 800 = t ∧ PV D t s ∧ (∀ i, nR D ≤ i → i < 150 → s.2.1 9 i = 0) ∧ (∀ k (h : k < (kL D t).length), s.2.1 10 (kL D t)[k] = nI k) ∧ (∀ k, CT D t s k)
abbrev fqV : FS := ([800, 801], [9, 10, 11, 12, 13, 14, 15], [], false, false)
theorem Jvie_S {D s : ST} (f : Fr fsS D s) (h1 : ∀ i, nR D ≤ i → i < 150 → s.2.1 9 i = 0) (h2 : ∀ k, k < 16 → s.2.1 14 k = 0) (h3 : ∀ k, k < 40 → s.2.1 15 k = 0) : Jvie s := by
  refine ⟨?_, h2, h3⟩
  rw [nR_S f]
  exact h1
theorem mp_111 {D s : ST} {t : Int32} {K : ST → Prop} (h : Bk D) (f : Fr fsS D s) (hv : Jvie s) (k : ∀ s1, Fr fqV s s1 → VW D t s1 → Jvie s1 → K s1) : w_111 t s K := by
  have h150 := kL_150 h (t := t)
  have hR := (bkR h).2.2
  unfold w_111
  have f0 : Fr fsS D (sI s 800 t) := fr_sI 800 f
  have hB0 := Bk_S f0 h
  refine mp_112 hB0 rfl ?_
  intro s1 f1 h9
  have fD1 : Fr fsS D s1 := fr_tr (F := fs36) rfl f0 f1
  have e9 : ∀ j, s1.2.1 9 j = if j < nR D then smI D t j else s.2.1 9 j := by
    intro j
    have := h9 j
    rw [nR_S f0, smI_S f0] at this
    exact this
  have fD2 : Fr fsS D (sI s1 801 0) := fr_sI 801 fD1
  refine ⟨151, l_111a (S := sI s1 801 0) (t := t) h fD2 (fun j hj => by show s1.2.1 9 j = _; rw [e9 j, if_pos hj]) ?_ 151 0 (sI s1 801 0) (by omega) (by omega) (fr_rfl _ _) rfl (fun k hk => absurd hk (Nat.not_lt_zero _)) (fun k hk => absurd hk (Nat.not_lt_zero _))⟩
  intro s2 f2 b1 b2 b3
  have fD3 : Fr fsS D s2 := fr_tr (F := fqA) rfl fD2 f2
  have z9 : s2.2.1 9 = s1.2.1 9 := f2.2.1 9 rfl
  have pv : PV D t s2 := ⟨fD3, b1, b2, fun j hj => by rw [z9, e9 j, if_pos hj]⟩
  have z14 : s2.2.1 14 = s.2.1 14 := (f2.2.1 14 rfl).trans (f1.2.1 14 rfl)
  have z15 : s2.2.1 15 = s.2.1 15 := (f2.2.1 15 rfl).trans (f1.2.1 15 rfl)
  refine ⟨200, l_111c h pv ?_ 200 0 1 s2 (by omega) (by omega) (by omega) (by omega) (fr_rfl _ _) (by rw [z14]; exact hv.2.1) (by rw [z15]; exact hv.2.2) ?_ (fun k _ _ z => absurd z (by omega)) (fun k z => absurd z (by omega))⟩
  · intro s3 f3 c14 c15 c12
    have pv3 := PV_B pv f3
    have fV : Fr fqV s s3 := fr_tr (F := fqB) rfl (fr_tr (F := fqA) rfl (fr_sI 801 (fr_tr (F := fs36) rfl (fr_sI 800 (fr_rfl _ _)) f1)) f2) f3
    have z9b : ∀ i, nR D ≤ i → i < 150 → s3.2.1 9 i = 0 := by
      intro i h1 h2
      rw [f3.2.1 9 rfl, z9, e9 i, if_neg (by omega)]
      exact hv.1 i (by rw [nR_S f]; exact h1) h2
    refine k s3 fV ⟨?_, pv3, z9b, ?_, c12⟩ (Jvie_S pv3.1 z9b c14 c15)
    · rw [f3.1 800 rfl, f2.1 800 rfl]
      exact f1.1 800 rfl
    · intro k hk
      rw [f3.2.1 10 rfl]
      exact b3 k hk
  · intro k hk ha h1 h2
    have : k = 0 := by omega
    subst this
    rfl
