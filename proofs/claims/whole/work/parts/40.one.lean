/-! ===== who is of one with whom ===== -/
def bt (x : Int32) (i : Nat) : Bool := x.toBitVec.getLsbD i
theorem bt_and {x y : Int32} {i : Nat} : bt (x &&& y) i = (bt x i && bt y i) := BitVec.getLsbD_and
theorem bt_or {x y : Int32} {i : Nat} : bt (x ||| y) i = (bt x i || bt y i) := BitVec.getLsbD_or
theorem bt_0 {i : Nat} : bt 0 i = false := BitVec.getLsbD_zero
theorem bt_ext {x y : Int32} (h : ∀ i, bt x i = bt y i) : x = y := by
  have e : x.toBitVec = y.toBitVec := BitVec.eq_of_getLsbD_eq (fun i _ => h i)
  exact Int32.toBitVec.inj e
theorem nz_iff {x y : Int32} : ¬ x &&& y = 0 ↔ ∃ i, bt x i = true ∧ bt y i = true := by
  constructor
  · intro h
    refine Classical.byContradiction (fun z => h (bt_ext (fun i => ?_)))
    rw [bt_and, bt_0]
    cases hx : bt x i with
    | false => rfl
    | true =>
      cases hy : bt y i with
      | false => rfl
      | true => exact absurd ⟨i, hx, hy⟩ z
  · rintro ⟨i, hx, hy⟩ z
    have := congrArg (fun w => bt w i) z
    simp only [bt_and, bt_0, hx, hy] at this
    cases this
theorem sub_iff {x a : Int32} : a ||| x = a ↔ ∀ i, bt x i = true → bt a i = true := by
  constructor
  · intro h i hx
    have := congrArg (fun w => bt w i) h
    simp only [bt_or, hx, Bool.or_true] at this
    exact this.symm
  · intro h
    refine bt_ext (fun i => ?_)
    rw [bt_or]
    cases hx : bt x i with
    | false => rw [Bool.or_false]
    | true => rw [h i hx]; rfl
theorem flt_le {p q : Nat → Bool} : ∀ {L : List Nat}, (∀ a, a ∈ L → p a = true → q a = true) → (L.filter p).length ≤ (L.filter q).length
  | [], _ => Nat.le_refl 0
  | a :: L, h => by
    have ih := flt_le (L := L) (fun b hb => h b (List.mem_cons_of_mem a hb))
    by_cases hp : p a = true
    · rw [List.filter_cons_of_pos hp, List.filter_cons_of_pos (h a (List.mem_cons_self) hp), List.length_cons, List.length_cons]
      omega
    · rw [List.filter_cons_of_neg hp]
      by_cases hq : q a = true
      · rw [List.filter_cons_of_pos hq, List.length_cons]; omega
      · rw [List.filter_cons_of_neg hq]; exact ih
theorem flt_lt {p q : Nat → Bool} {x : Nat} : ∀ {L : List Nat}, (∀ a, a ∈ L → p a = true → q a = true) → x ∈ L → ¬ p x = true → q x = true → (L.filter p).length < (L.filter q).length
  | [], _, hx, _, _ => absurd hx (List.not_mem_nil)
  | a :: L, h, hx, h1, h2 => by
    have hle := flt_le (L := L) (fun b hb => h b (List.mem_cons_of_mem a hb))
    by_cases e : x = a
    · subst e
      rw [List.filter_cons_of_neg h1, List.filter_cons_of_pos h2, List.length_cons]
      omega
    · have ih := flt_lt (L := L) (fun b hb => h b (List.mem_cons_of_mem a hb)) ((List.mem_cons.mp hx).resolve_left e) h1 h2
      by_cases hp : p a = true
      · rw [List.filter_cons_of_pos hp, List.filter_cons_of_pos (h a (List.mem_cons_self) hp), List.length_cons, List.length_cons]
        omega
      · rw [List.filter_cons_of_neg hp]
        by_cases hq : q a = true
        · rw [List.filter_cons_of_pos hq, List.length_cons]; omega
        · rw [List.filter_cons_of_neg hq]; exact ih
theorem flt_all {p : Nat → Bool} : ∀ {L : List Nat}, L.length ≤ (L.filter p).length → ∀ a, a ∈ L → p a = true
  | [], _, a, ha => absurd ha (List.not_mem_nil)
  | b :: L, h, a, ha => by
    by_cases hp : p b = true
    · rw [List.filter_cons_of_pos hp, List.length_cons, List.length_cons] at h
      rcases List.mem_cons.mp ha with e | e
      · rw [e]; exact hp
      · exact flt_all (L := L) (by omega) a e
    · rw [List.filter_cons_of_neg hp, List.length_cons] at h
      have := List.length_filter_le p L
      omega
def adj (T : Nat → Int32) (a b : Nat) : Prop := ¬ T a &&& T b = 0
/-- b is of one with o -/
def Rc (T : Nat → Int32) (o b : Nat) : Prop := ∀ P : Nat → Prop, P o → (∀ a c, a < 36 → c < 36 → P a → adj T a c → P c) → P b
theorem Rc_self {T : Nat → Int32} {o : Nat} : Rc T o o := fun _ h _ => h
theorem Rc_step {T : Nat → Int32} {o a b : Nat} (h : Rc T o a) (ha : a < 36) (hb : b < 36) (hab : adj T a b) : Rc T o b := fun P h0 hs => hs a b ha hb (h P h0 hs) hab
/-! the class: the things of all who are of one -/
def ab (T : Nat → Int32) (A : Int32) : Nat → Int32
  | 0 => A
  | k + 1 => if T k &&& ab T A k = 0 then ab T A k else ab T A k ||| T k
theorem ab_mono {T : Nat → Int32} {A : Int32} {j : Nat} : ∀ k, j ≤ k → ∀ i, bt (ab T A j) i = true → bt (ab T A k) i = true := by
  intro k hk
  induction hk with
  | refl => intro i h; exact h
  | step _ ih =>
    intro i h
    rw [ab]
    split
    · exact ih i h
    · rw [bt_or, ih i h]; rfl
theorem ab_fix {T : Nat → Int32} {A : Int32} : ∀ n, (∀ k, k < n → T k &&& A = 0 ∨ A ||| T k = A) → ab T A n = A
  | 0, _ => rfl
  | n + 1, h => by
    rw [ab, ab_fix n (fun k hk => h k (by omega))]
    rcases h n (by omega) with e | e
    · rw [if_pos e]
    · split
      · rfl
      · exact e
theorem ab_take {T : Nat → Int32} {A : Int32} {k n : Nat} (hk : k < n) (h : ¬ T k &&& A = 0) : ∀ i, bt (T k) i = true → bt (ab T A n) i = true := by
  intro i hi
  refine ab_mono (j := k + 1) n hk i ?_
  rw [ab, if_neg]
  · rw [bt_or, hi, Bool.or_true]
  · obtain ⟨j, h1, h2⟩ := nz_iff.mp h
    exact nz_iff.mpr ⟨j, h1, ab_mono (j := 0) k (by omega) j h2⟩
theorem ab_sound {T : Nat → Int32} {A : Int32} {o : Nat} (h : ∀ i, bt A i = true → ∃ k, k < 36 ∧ Rc T o k ∧ bt (T k) i = true) : ∀ n, n ≤ 36 → ∀ i, bt (ab T A n) i = true → ∃ k, k < 36 ∧ Rc T o k ∧ bt (T k) i = true
  | 0, _ => h
  | n + 1, hn => by
    intro i hi
    have ih := ab_sound h n (by omega)
    rw [ab] at hi
    split at hi
    · exact ih i hi
    · rename_i ne
      rw [bt_or, Bool.or_eq_true] at hi
      rcases hi with hi | hi
      · exact ih i hi
      · obtain ⟨j, h1, h2⟩ := nz_iff.mp ne
        obtain ⟨k, hk, hR, hb⟩ := ih j h2
        exact ⟨n, by omega, Rc_step hR hk (by omega) (nz_iff.mpr ⟨j, hb, h1⟩), hi⟩
def absb (T : Nat → Int32) (A : Int32) (k : Nat) : Bool := !decide (T k &&& A = 0) && decide (A ||| T k = A)
def cntA (T : Nat → Int32) (A : Int32) : Nat := ((List.range 36).filter (absb T A)).length
/-- what the class's set is in the end -/
def CL (T : Nat → Int32) (o : Nat) (A : Int32) : Prop := (∀ i, bt (T o) i = true → bt A i = true) ∧ (∀ i, bt A i = true → ∃ k, k < 36 ∧ Rc T o k ∧ bt (T k) i = true) ∧ (∀ k, k < 36 → ¬ T k &&& A = 0 → ∀ i, bt (T k) i = true → bt A i = true)
theorem cntA_up {T : Nat → Int32} {A : Int32} (h : ¬ ab T A 36 = A) : cntA T A < cntA T (ab T A 36) := by
  have hex : ∃ k, k < 36 ∧ ¬ T k &&& A = 0 ∧ ¬ A ||| T k = A := by
    refine Classical.byContradiction (fun z => h (ab_fix 36 (fun k hk => ?_)))
    by_cases e : T k &&& A = 0
    · exact Or.inl e
    · refine Or.inr (Classical.byContradiction (fun y => z ⟨k, hk, e, y⟩))
  obtain ⟨k, hk, h1, h2⟩ := hex
  refine flt_lt (x := k) ?_ (List.mem_range.mpr hk) ?_ ?_
  · intro a ha hp
    unfold absb at hp ⊢
    simp only [Bool.and_eq_true, Bool.not_eq_true', decide_eq_false_iff_not, decide_eq_true_eq] at hp ⊢
    have m := ab_mono (T := T) (A := A) (j := 0) 36 (by omega)
    refine ⟨?_, sub_iff.mpr (fun i hi => m i (sub_iff.mp hp.2 i hi))⟩
    obtain ⟨i, q1, q2⟩ := nz_iff.mp hp.1
    exact nz_iff.mpr ⟨i, q1, m i q2⟩
  · unfold absb
    simp [h2]
  · unfold absb
    simp only [Bool.and_eq_true, Bool.not_eq_true', decide_eq_false_iff_not, decide_eq_true_eq]
    have m := ab_mono (T := T) (A := A) (j := 0) 36 (by omega)
    refine ⟨?_, sub_iff.mpr (ab_take hk h1)⟩
    obtain ⟨i, q1, q2⟩ := nz_iff.mp h1
    exact nz_iff.mpr ⟨i, q1, m i q2⟩
theorem n36 {k : Nat} (h : k ≤ 36) : ((36 : Int32) ≤ nI k) ↔ k = 36 := by
  have e : (36 : Int32) = nI 36 := rfl
  rw [e, nI_leI (by omega) (by omega)]
  omega
theorem l_163i {s : ST} {A x3 x4 : Int32} {X : Int32 → Int32 → Int32 → ST → Prop} {K : Int32 → ST → Prop} (hX : X (ab (s.2.1 28) A 36) x3 x4 s) : ∀ n k, k ≤ 36 → 36 - k < n → w_163_L27 n (ab (s.2.1 28) A k) x3 x4 (Int32.ofNat 36) (nI k) s X K := by
  intro n
  induction n with
  | zero => intro k _ z; omega
  | succ n ih =>
    intro k hk hn
    rw [w_163_L27]
    by_cases c : k = 36
    · subst c
      exact br_t (by decide) hX
    refine br_f (fun z => c ((n36 hk).mp z)) ⟨pin_nI (by omega) (by omega), ?_⟩
    have nx := ih (k + 1) (by omega) (by omega)
    rw [ab, ← nI_1] at nx
    rw [nI_clamp (by omega)]
    by_cases d : s.2.1 28 k &&& ab (s.2.1 28) A k = 0
    · rw [if_pos d] at nx
      exact br_t d nx
    · rw [if_neg d] at nx
      exact br_f d nx
theorem l_163 {s : ST} {o : Nat} {X1 X2 K : Int32 → ST → Prop} (h1 : ∀ A, CL (s.2.1 28) o A → X1 A s) (h2 : ∀ A, CL (s.2.1 28) o A → X2 A s) : ∀ n r A, r ≤ 36 → 36 - r < n → (∀ i, bt (s.2.1 28 o) i = true → bt A i = true) → (∀ i, bt A i = true → ∃ k, k < 36 ∧ Rc (s.2.1 28) o k ∧ bt (s.2.1 28 k) i = true) → r ≤ cntA (s.2.1 28) A → w_163_L14 n A (nI r) s X1 X2 K := by
  intro n
  induction n with
  | zero => intro r A _ z; omega
  | succ n ih =>
    intro r A hr hn a1 a2 a3
    rw [w_163_L14]
    by_cases c : r = 36
    · subst c
      refine br_t (by decide) (h1 A ⟨a1, a2, ?_⟩)
      intro k hk _
      have z := flt_all (p := absb (s.2.1 28) A) (L := List.range 36) (by rw [List.length_range]; exact a3) k (List.mem_range.mpr hk)
      unfold absb at z
      simp only [Bool.and_eq_true, decide_eq_true_eq] at z
      exact sub_iff.mp z.2
    refine br_f (fun z => c ((n36 hr).mp z)) ⟨37, l_163i ?_ 37 0 (by omega) (by omega)⟩
    by_cases d : ab (s.2.1 28) A 36 = A
    · rw [d]
      refine br_f (fun z => z rfl) (h2 A ⟨a1, a2, ?_⟩)
      intro k hk hne i hi
      have := ab_take hk hne i hi
      rw [d] at this
      exact this
    · refine br_t d ?_
      rw [nI_1]
      refine ih (r + 1) _ (by omega) (by omega) (fun i hi => ab_mono (j := 0) 36 (by omega) i (a1 i hi)) (ab_sound a2 36 (Nat.le_refl _)) ?_
      have := cntA_up d
      omega
theorem mp_163 {s : ST} {o : Nat} {K : Int32 → ST → Prop} (ho : o < 36) (k : ∀ A, CL (s.2.1 28) o A → K A s) : w_163 (nI o) s K := by
  unfold w_163
  simp only [e_181, t_181, Int32.reduceToInt]
  rw [nI_toInt (by omega), nI_clamp (by omega)]
  refine br_f (fun z => z (by omega)) ⟨pin_nI ho (by omega), 37, l_163 k k 37 0 _ (by omega) (by omega) (fun i hi => hi) (fun i hi => ⟨o, ho, Rc_self, hi⟩) (by omega)⟩
/-! the reference: who is of one -/
def on (I : Nat → Int32) (k : Nat) : Prop := ¬ I k = 0
def stepI (T I : Nat → Int32) (a m : Nat) : Nat → Int32 := fun b => if I a = 0 then I b else if b < m then (if I b = 0 then (if T a &&& T b = 0 then 0 else 1) else 1) else I b
theorem stepI_0 {T I : Nat → Int32} {a m b : Nat} (h : I a = 0) : stepI T I a m b = I b := by unfold stepI; rw [if_pos h]
theorem stepI_1 {T I : Nat → Int32} {a m b : Nat} (h : ¬ I a = 0) (hb : b < m) : stepI T I a m b = if I b = 0 then (if T a &&& T b = 0 then 0 else 1) else 1 := by unfold stepI; rw [if_neg h, if_pos hb]
theorem stepI_2 {T I : Nat → Int32} {a m b : Nat} (h : ¬ I a = 0) (hb : ¬ b < m) : stepI T I a m b = I b := by unfold stepI; rw [if_neg h, if_neg hb]
abbrev fq109 : FS := ([], [109], [], false, false)
theorem l_266i {D : ST} {I : Nat → Int32} {x2 : Int32} {a : Nat} {X : Int32 → Int32 → ST → Prop} {K : ST → Prop} (ha : a < 36) (hX : ∀ s, Fr fq109 D s → (∀ b, b < 36 → s.2.1 109 b = stepI (D.2.1 108) I a 36 b) → X x2 (nI a) s) : ∀ n m s, m ≤ 36 → 36 - m < n → Fr fq109 D s → (∀ b, b < 36 → s.2.1 109 b = stepI (D.2.1 108) I a m b) → w_266_L29 n x2 (nI a) (nI m) s X K := by
  intro n
  induction n with
  | zero => intro m s _ z; omega
  | succ n ih =>
    intro m s hm hn f hs
    rw [w_266_L29]
    by_cases c : m = 36
    · subst c
      exact br_t (by decide) (hX s f hs)
    refine br_f (fun z => c ((n36 hm).mp z)) ⟨pin_nI ha (by omega), ?_⟩
    have pm : pin (nI m) 36 = true := pin_nI (by omega) (by omega)
    rw [nI_clamp (show a < 2 ^ 31 by omega), nI_clamp (show m < 2 ^ 31 by omega), nI_1, nar0, nar1]
    have hsa := hs a ha
    have hsm := hs m (by omega)
    by_cases d : I a = 0
    · have e : s.2.1 109 a = 0 := by rw [hsa, stepI_0 d]; exact d
      refine br_t e (hX s f ?_)
      intro b hb
      rw [hs b hb, stepI_0 d, stepI_0 d]
    · have e : ¬ s.2.1 109 a = 0 := by
        rw [hsa]
        by_cases g : a < m
        · rw [stepI_1 d g, if_neg d]; decide
        · rw [stepI_2 d g]; exact d
      refine br_f e ⟨pm, ?_⟩
      have em : s.2.1 109 m = I m := by rw [hsm, stepI_2 d (Nat.lt_irrefl m)]
      have upd_ok : ∀ y, y = (if I m = 0 then (if D.2.1 108 a &&& D.2.1 108 m = 0 then (0 : Int32) else 1) else 1) → ∀ b, b < 36 → upd (s.2.1 109) m y b = stepI (D.2.1 108) I a (m + 1) b := by
        intro y hy b hb
        rw [upd_ap]
        by_cases g : b = m
        · subst g
          rw [if_pos rfl, hy, stepI_1 d (Nat.lt_succ_self b)]
        · rw [if_neg g, hs b hb]
          by_cases q : b < m
          · rw [stepI_1 d q, stepI_1 d (Nat.lt_succ_of_lt q)]
          · rw [stepI_2 d q, stepI_2 d (show ¬ b < m + 1 by omega)]
      rw [em, f.2.1 108 rfl]
      by_cases g : I m = 0
      · refine br_f (fun z => z g) ⟨pin_nI ha (by omega), pm, ?_⟩
        rw [if_pos g] at upd_ok
        by_cases q : D.2.1 108 a &&& D.2.1 108 m = 0
        · rw [if_pos q] at upd_ok
          exact br_t q ⟨pm, ih (m + 1) _ (by omega) (by omega) (fr_sA 109 f) (upd_ok 0 rfl)⟩
        · rw [if_neg q] at upd_ok
          exact br_f q ⟨pm, ih (m + 1) _ (by omega) (by omega) (fr_sA 109 f) (upd_ok 1 rfl)⟩
      · rw [if_neg g] at upd_ok
        exact br_t g ⟨pm, ih (m + 1) _ (by omega) (by omega) (fr_sA 109 f) (upd_ok 1 rfl)⟩
def RA (T I : Nat → Int32) : Nat → Nat → Int32
  | 0 => I
  | a + 1 => stepI T (RA T I a) a 36
theorem stepI_on {T I : Nat → Int32} {a m b : Nat} (h : on I b) : on (stepI T I a m) b := by
  unfold on at *
  by_cases c : I a = 0
  · rw [stepI_0 c]; exact h
  · by_cases d : b < m
    · rw [stepI_1 c d, if_neg h]; decide
    · rw [stepI_2 c d]; exact h
theorem RA_on {T I : Nat → Int32} {b j : Nat} : ∀ k, j ≤ k → on (RA T I j) b → on (RA T I k) b := by
  intro k hk
  induction hk with
  | refl => intro h; exact h
  | step _ ih => intro h; exact stepI_on (ih h)
theorem RA_adj {T I : Nat → Int32} {a b : Nat} (ha : a < 36) (hb : b < 36) (h : on I a) (hab : adj T a b) : on (RA T I 36) b := by
  refine RA_on (j := a + 1) 36 (by omega) ?_
  have h1 : on (RA T I a) a := RA_on (j := 0) a (by omega) h
  unfold on at h1 ⊢
  rw [RA, stepI_1 h1 hb]
  by_cases c : RA T I a b = 0
  · rw [if_pos c, if_neg hab]; decide
  · rw [if_neg c]; decide
theorem RA_sound {T I : Nat → Int32} {P : Nat → Prop} (h : ∀ b, b < 36 → on I b → P b) (hs : ∀ a c, a < 36 → c < 36 → P a → adj T a c → P c) : ∀ n, n ≤ 36 → ∀ b, b < 36 → on (RA T I n) b → P b
  | 0, _ => h
  | n + 1, hn => by
    intro b hb hon
    have ih := RA_sound h hs n (by omega)
    unfold on at hon
    rw [RA] at hon
    by_cases na : RA T I n n = 0
    · rw [stepI_0 na] at hon
      exact ih b hb hon
    · rw [stepI_1 na hb] at hon
      by_cases c : RA T I n b = 0
      · rw [if_pos c] at hon
        by_cases d : T n &&& T b = 0
        · rw [if_pos d] at hon; exact absurd rfl hon
        · exact hs n b (by omega) hb (ih n (by omega) na) d
      · exact ih b hb c
theorem l_266a {D : ST} {I : Nat → Int32} {x2 : Int32} {X : Int32 → ST → Prop} {K : ST → Prop} (hX : ∀ s, Fr fq109 D s → (∀ b, b < 36 → s.2.1 109 b = RA (D.2.1 108) I 36 b) → X x2 s) : ∀ n a s, a ≤ 36 → 36 - a < n → Fr fq109 D s → (∀ b, b < 36 → s.2.1 109 b = RA (D.2.1 108) I a b) → w_266_L24 n x2 (nI a) s X K := by
  intro n
  induction n with
  | zero => intro a s _ z; omega
  | succ n ih =>
    intro a s ha hn f hs
    rw [w_266_L24]
    by_cases c : a = 36
    · subst c
      exact br_t (by decide) (hX s f hs)
    refine br_f (fun z => c ((n36 ha).mp z)) ⟨37, l_266i (D := s) (I := RA (D.2.1 108) I a) (by omega) ?_ 37 0 s (by omega) (by omega) (fr_rfl _ _) ?_⟩
    · intro s1 f1 h1
      rw [nI_1]
      rw [f.2.1 108 rfl] at h1
      exact ih (a + 1) s1 (by omega) (by omega) (fr_tr (F := fq109) rfl f f1) h1
    · intro b hb
      rw [hs b hb]
      by_cases c2 : RA (D.2.1 108) I a a = 0
      · rw [stepI_0 c2]
      · rw [stepI_2 c2 (Nat.not_lt_zero b)]
def cntI (I : Nat → Int32) : Nat := ((List.range 36).filter (fun k => !decide (I k = 0))).length
def clI (T I : Nat → Int32) : Prop := ∀ a b, a < 36 → b < 36 → on I a → adj T a b → on I b
theorem round_I {T I : Nat → Int32} {r : Nat} (h : clI T I ∨ r ≤ cntI I) : clI T (RA T I 36) ∨ r + 1 ≤ cntI (RA T I 36) := by
  by_cases c : clI T I
  · refine Or.inl (fun a b ha hb hon hab => ?_)
    have h1 := RA_sound (T := T) (I := I) (P := fun b => on I b) (fun b _ h => h) (fun a d ha hd h1 h2 => c a d ha hd h1 h2) 36 (Nat.le_refl _) a ha hon
    exact RA_on (j := 0) 36 (by omega) (c a b ha hb h1 hab)
  · refine Or.inr ?_
    have hr : r ≤ cntI I := h.resolve_left c
    have hex : ∃ a b, a < 36 ∧ b < 36 ∧ on I a ∧ adj T a b ∧ ¬ on I b := by
      refine Classical.byContradiction (fun z => c (fun a b ha hb h1 h2 => ?_))
      exact Classical.byContradiction (fun y => z ⟨a, b, ha, hb, h1, h2, y⟩)
    obtain ⟨a, b, ha, hb, h1, h2, h3⟩ := hex
    have : cntI I < cntI (RA T I 36) := by
      refine flt_lt (x := b) ?_ (List.mem_range.mpr hb) ?_ ?_
      · intro k _ hp
        rw [Bool.not_eq_true', decide_eq_false_iff_not] at hp ⊢
        exact RA_on (j := 0) 36 (by omega) hp
      · rw [Bool.not_eq_true', decide_eq_false_iff_not]
        exact h3
      · rw [Bool.not_eq_true', decide_eq_false_iff_not]
        exact RA_adj ha hb h1 h2
    omega
theorem l_266 {D : ST} {o : Nat} {X : ST → Prop} {K : ST → Prop} (ho : o < 36) (hX : ∀ s, Fr fq109 D s → (∀ b, b < 36 → ((¬ s.2.1 109 b = 0) ↔ Rc (D.2.1 108) o b)) → X s) : ∀ n r s, r ≤ 36 → 36 - r < n → Fr fq109 D s → on (s.2.1 109) o → (∀ b, b < 36 → on (s.2.1 109) b → Rc (D.2.1 108) o b) → (clI (D.2.1 108) (s.2.1 109) ∨ r ≤ cntI (s.2.1 109)) → w_266_L19 n (nI r) s X K := by
  intro n
  induction n with
  | zero => intro r s _ z; omega
  | succ n ih =>
    intro r s hr hn f h1 h2 h3
    rw [w_266_L19]
    by_cases c : r = 36
    · subst c
      refine br_t (by decide) (hX s f (fun b hb => ⟨h2 b hb, fun z => ?_⟩))
      rcases h3 with h3 | h3
      · have hlt := z (fun k => k < 36 ∧ on (s.2.1 109) k) ⟨ho, h1⟩ (fun a c ha hc h4 h5 => ⟨hc, h3 a c ha hc h4.2 h5⟩)
        exact hlt.2
      · have y := flt_all (p := fun k => !decide (s.2.1 109 k = 0)) (L := List.range 36) (by rw [List.length_range]; exact h3) b (List.mem_range.mpr hb)
        rw [Bool.not_eq_true', decide_eq_false_iff_not] at y
        exact y
    refine br_f (fun z => c ((n36 hr).mp z)) ⟨37, l_266a (D := s) (I := s.2.1 109) ?_ 37 0 s (by omega) (by omega) (fr_rfl _ _) (fun b _ => rfl)⟩
    intro s1 f1 e1
    rw [f.2.1 108 rfl] at e1
    have on_eq : ∀ b, b < 36 → (on (s1.2.1 109) b ↔ on (RA (D.2.1 108) (s.2.1 109) 36) b) := by
      intro b hb
      unfold on
      rw [e1 b hb]
    rw [nI_1]
    refine ih (r + 1) s1 (by omega) (by omega) (fr_tr (F := fq109) rfl f f1) ?_ ?_ ?_
    · exact (on_eq o ho).mpr (RA_on (j := 0) 36 (by omega) h1)
    · intro b hb hon
      exact RA_sound (T := D.2.1 108) (I := s.2.1 109) h2 (fun a c ha hc h4 h5 => Rc_step h4 ha hc h5) 36 (Nat.le_refl _) b hb ((on_eq b hb).mp hon)
    · rcases round_I h3 with z | z
      · exact Or.inl (fun a b ha hb h4 h5 => (on_eq b hb).mpr (z a b ha hb ((on_eq a ha).mp h4) h5))
      · refine Or.inr ?_
        have e2 : cntI (s1.2.1 109) = cntI (RA (D.2.1 108) (s.2.1 109) 36) := by
          unfold cntI
          have e3 : (List.range 36).filter (fun k => !decide (s1.2.1 109 k = 0)) = (List.range 36).filter (fun k => !decide (RA (D.2.1 108) (s.2.1 109) 36 k = 0)) := by
            refine List.filter_congr (fun k hk => ?_)
            rw [e1 k (List.mem_range.mp hk)]
          exact congrArg List.length e3
        rw [e2]
        exact z
theorem l_266z {D : ST} {o : Nat} {X : ST → Prop} {K : ST → Prop} (ho : o < 36) (hX : ∀ s, Fr fq109 D s → (∀ b, b < 36 → s.2.1 109 b = if b = o then 1 else 0) → X s) : ∀ n k s, k ≤ 36 → 36 - k < n → Fr fq109 D s → (∀ b, b < k → s.2.1 109 b = if b = o then 1 else 0) → w_266_L2 n (nI o) (nI k) s X K := by
  intro n
  induction n with
  | zero => intro k s _ z; omega
  | succ n ih =>
    intro k s hk hn f hs
    rw [w_266_L2]
    by_cases c : k = 36
    · subst c
      exact br_t (by decide) (hX s f hs)
    refine br_f (fun z => c ((n36 hk).mp z)) ?_
    have pk : pin (nI k) 36 = true := pin_nI (by omega) (by omega)
    rw [nI_clamp (show k < 2 ^ 31 by omega), nI_1, nar0, nar1, nI_eq (by omega) (by omega)]
    have upd_ok : ∀ y : Int32, y = (if k = o then 1 else 0) → ∀ b, b < k + 1 → upd (s.2.1 109) k y b = if b = o then 1 else 0 := by
      intro y hy b hb
      by_cases e : b = k
      · subst e; rw [pk_us]; exact hy
      · rw [pk_un e]; exact hs b (by omega)
    by_cases d : k = o
    · rw [if_pos d] at upd_ok
      exact br_f (fun z => z d) ⟨pk, ih (k + 1) _ (by omega) (by omega) (fr_sA 109 f) (upd_ok 1 rfl)⟩
    · rw [if_neg d] at upd_ok
      exact br_t d ⟨pk, ih (k + 1) _ (by omega) (by omega) (fr_sA 109 f) (upd_ok 0 rfl)⟩
theorem mp_266 {s : ST} {o : Nat} {K : ST → Prop} (ho : o < 36) (k : ∀ s1, Fr fq109 s s1 → (∀ b, b < 36 → ((¬ s1.2.1 109 b = 0) ↔ Rc (s.2.1 108) o b)) → K s1) : w_266 (nI o) s K := by
  unfold w_266
  refine ⟨37, l_266z ho ?_ 37 0 s (by omega) (by omega) (fr_rfl _ _) (fun b hb => absurd hb (by omega))⟩
  intro s1 f1 e1
  refine ⟨37, l_266 (D := s) ho k 37 0 s1 (by omega) (by omega) f1 ?_ ?_ (Or.inr (by omega))⟩
  · unfold on
    rw [e1 o ho, if_pos rfl]
    decide
  · intro b hb hon
    unfold on at hon
    rw [e1 b hb] at hon
    by_cases c : b = o
    · subst c; exact Rc_self
    · rw [if_neg c] at hon; exact absurd rfl hon
/-- both say the same of another -/
theorem one_eq {T : Nat → Int32} {o b : Nat} {A : Int32} (hA : CL T o A) (hb : b < 36) (hne : ¬ b = o) : (¬ A &&& T b = 0) ↔ Rc T o b := by
  obtain ⟨h1, h2, h3⟩ := hA
  constructor
  · intro h
    obtain ⟨i, q1, q2⟩ := nz_iff.mp h
    obtain ⟨k, hk, hR, q3⟩ := h2 i q1
    exact Rc_step hR hk hb (nz_iff.mpr ⟨i, q3, q2⟩)
  · intro h
    have z := h (fun k => (k = o ∨ ¬ A &&& T k = 0) ∧ ∀ i, bt (T k) i = true → bt A i = true) ⟨Or.inl rfl, h1⟩ ?_
    · exact z.1.resolve_left hne
    · intro a c ha hc hP hac
      obtain ⟨i, q1, q2⟩ := nz_iff.mp hac
      have q3 : ¬ A &&& T c = 0 := nz_iff.mpr ⟨i, hP.2 i q1, q2⟩
      refine ⟨Or.inr q3, h3 c hc ?_⟩
      exact nz_iff.mpr ⟨i, q2, hP.2 i q1⟩
theorem Rc_congr {T T2 : Nat → Int32} {o b : Nat} (h : ∀ k, k < 36 → T k = T2 k) : Rc T o b ↔ Rc T2 o b := by
  unfold Rc adj
  constructor
  · intro z P h0 hs
    exact z P h0 (fun a c ha hc h1 h2 => hs a c ha hc h1 (by rw [← h a ha, ← h c hc]; exact h2))
  · intro z P h0 hs
    exact z P h0 (fun a c ha hc h1 h2 => hs a c ha hc h1 (by rw [h a ha, h c hc]; exact h2))
