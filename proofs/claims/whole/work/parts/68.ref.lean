/-! ===== the reference's search, whole ===== -/
theorem br_two {c a A B : Prop} (hb : B) (ha : c → a → A) : ((¬ c → B) ∧ (¬ ¬ c → ((a → A) ∧ (¬ a → B)))) := ⟨fun _ => hb, fun z => ⟨fun y => ha (Classical.byContradiction z) y, fun _ => hb⟩⟩
def swN (D : ST) : List Nat → Nat
  | [] => 0
  | p :: r => wP D p + swN D r
theorem swN_app {D : ST} {p : Nat} : ∀ a : List Nat, swN D (a ++ [p]) = swN D a + wP D p
  | [] => by show wP D p + 0 = 0 + wP D p; omega
  | x :: a => by
    show wP D x + swN D (a ++ [p]) = wP D x + swN D a + wP D p
    rw [swN_app a]; omega
theorem swN_rev {D : ST} : ∀ a : List Nat, swN D a.reverse = swN D a
  | [] => rfl
  | x :: a => by
    rw [List.reverse_cons, swN_app, swN_rev a]
    show swN D a + wP D x = wP D x + swN D a
    omega
theorem swN_le {D : ST} (hB : Bk D) : ∀ a : List Nat, swN D a ≤ 1000000 * a.length
  | [] => Nat.le_refl _
  | x :: a => by
    have h1 := swN_le hB a
    have h2 := wP_le hB x
    show wP D x + swN D a ≤ 1000000 * (a.length + 1)
    omega
def TL (D : ST) (I q : Nat) (ds x : Int) : List Nat → List (List Nat)
  | [] => []
  | p :: r => EE (gQ D I ds) (wP D) (q - r.length) (nP D - (p + 1)) r.reverse (p + 1) (x - swN D r) ++ TL D I q ds x r
def RS (D : ST) (I q : Nat) (ds x : Int) (r : List Nat) (k : Nat) : List (List Nat) := EE (gQ D I ds) (wP D) (q - r.length) (nP D - k) r.reverse k (x - swN D r) ++ TL D I q ds x r
def TM (D : ST) (q : Nat) : List Nat → Nat
  | [] => 0
  | p :: r => CST (q - r.length) (nP D - (p + 1)) + TM D q r
def MS (D : ST) (q : Nat) (r : List Nat) (k : Nat) : Nat := CST (q - r.length) (nP D - k) + TM D q r
def CH (D : ST) (s : ST) : List Nat → Prop
  | [] => True
  | p :: r => s.2.1 103 r.length = nI (ro D p) ∧ s.2.1 104 r.length = nI (p + 1) ∧ p < nP D ∧ CH D s r
theorem CH_c {D s s1 : ST} : ∀ r : List Nat, (∀ j, j < r.length → s1.2.1 103 j = s.2.1 103 j ∧ s1.2.1 104 j = s.2.1 104 j) → CH D s r → CH D s1 r
  | [], _, _ => trivial
  | p :: r, h, hc => by
    obtain ⟨h1, h2, h3, h4⟩ := hc
    have := h r.length (Nat.lt_succ_self _)
    exact ⟨by rw [this.1]; exact h1, by rw [this.2]; exact h2, h3, CH_c r (fun j hj => h j (Nat.lt_succ_of_lt hj)) h4⟩
theorem CH_at {D s : ST} : ∀ r : List Nat, CH D s r → ∀ j p, r.reverse[j]? = some p → s.2.1 103 j = nI (ro D p) ∧ p < nP D
  | [], _, j, p, h => by rw [List.reverse_nil, List.getElem?_nil] at h; cases h
  | a :: r, hc, j, p, h => by
    obtain ⟨h1, h2, h3, h4⟩ := hc
    rw [List.reverse_cons] at h
    by_cases c : j < r.reverse.length
    · rw [List.getElem?_append_left c] at h
      exact CH_at r h4 j p h
    · rw [List.getElem?_append_right (by omega)] at h
      have hj := (List.getElem?_eq_some_iff.mp h).1
      rw [List.length_singleton] at hj
      rw [List.length_reverse] at c hj
      have e : j = r.length := by omega
      rw [List.length_reverse, e, Nat.sub_self] at h
      have e2 : a = p := by injection h
      subst e2
      rw [e]
      exact ⟨h1, h3⟩
theorem CH_0 {D s : ST} {r : List Nat} {f : Nat} (h : CH D s r) (hf : r.reverse.head? = some f) : s.2.1 103 0 = nI (ro D f) ∧ f < nP D := CH_at r h 0 f (by rw [← List.head?_eq_getElem?]; exact hf)
theorem RS_s {D : ST} {I q k : Nat} {ds x : Int} {r : List Nat} (hk : k < nP D) (hr : r.length < q) : RS D I q ds x r k = (if gQ D I ds r.reverse k = true then EE (gQ D I ds) (wP D) (q - (r.length + 1)) (nP D - (k + 1)) (k :: r).reverse (k + 1) (x - swN D (k :: r)) else []) ++ RS D I q ds x r (k + 1) := by
  unfold RS
  have e1 : q - r.length = (q - (r.length + 1)) + 1 := by omega
  have e2 : nP D - k = (nP D - (k + 1)) + 1 := by omega
  have e3 : x - ((swN D (k :: r) : Nat) : Int) = x - (swN D r : Int) - (wP D k : Int) := by
    have : swN D (k :: r) = wP D k + swN D r := rfl
    omega
  rw [e2, e1, EE_s, List.reverse_cons, e3, List.append_assoc]
theorem MS_s {D : ST} {q k : Nat} {r : List Nat} (hk : k < nP D) (hr : r.length < q) : MS D q r k = 1 + CST (q - (r.length + 1)) (nP D - (k + 1)) + MS D q r (k + 1) := by
  unfold MS
  have e1 : q - r.length = (q - (r.length + 1)) + 1 := by omega
  have e2 : nP D - k = (nP D - (k + 1)) + 1 := by omega
  rw [e1, e2, CST]
  omega
theorem l_149 {D s : ST} {x1 x2 x3 x4 x6 x7 : Int32} {q : Nat} {U : List Nat} {X : Int32 → Int32 → Int32 → Int32 → Int32 → Int32 → Int32 → Int32 → ST → Prop} {K : Int32 → ST → Prop} (hB : Bk D) (rr : RW D (D.1 5500) s) (hq : q ≤ 4) (hl : U.length = q) (hU : ∀ j p, U[j]? = some p → s.2.1 103 j = nI (ro D p) ∧ p < nP D) (hX : X x1 x2 x3 x4 (nI q) x6 x7 (nI (swN D U)) s) : ∀ m j acc, j + m = q → acc + swN D (U.drop j) = swN D U → w_255_L149 (m + 1) x1 x2 x3 x4 (nI q) x6 x7 (nI acc) (nI j) s X K := by
  have hR := (bkR hB).2.2
  intro m
  induction m with
  | zero =>
    intro j acc hj ha
    rw [w_255_L149, nI_leI (by omega) (by omega)]
    refine br_t (by omega) ?_
    rw [List.drop_of_length_le (by omega)] at ha
    have : acc = swN D U := ha
    rw [this]
    exact hX
  | succ m ih =>
    intro j acc hj ha
    have hjl : j < U.length := by omega
    obtain ⟨h1, h2⟩ := hU j U[j] (List.getElem?_eq_getElem hjl)
    have hx := ro_lt hB h2
    rw [w_255_L149, nI_leI (by omega) (by omega), nI_clamp (by omega), h1, nI_clamp (by omega), rr.2.2.1 _ hx, wP_e hB h2, nI_add, nI_1]
    refine br_f (by omega) ⟨pin_nI (by omega) (by omega), pin_nI (by omega) (by omega), ih (j + 1) _ (by omega) ?_⟩
    rw [List.drop_eq_getElem_cons hjl] at ha
    have : swN D (U[j] :: U.drop (j + 1)) = wP D U[j] + swN D (U.drop (j + 1)) := rfl
    omega
abbrev fq106 : FS := ([], [106], [], false, false)
theorem l_176 {S0 : ST} {x1 x2 x3 x4 x6 x7 : Int32} {q : Nat} {X : Int32 → Int32 → Int32 → Int32 → Int32 → Int32 → Int32 → ST → Prop} {K : Int32 → ST → Prop} (hq : q ≤ 4) (hX : ∀ s, Fr fq106 S0 s → (∀ j, j < q → s.2.1 106 j = S0.2.1 103 j) → X x1 x2 x3 x4 (nI q) x6 x7 s) : ∀ m j s, j + m = q → Fr fq106 S0 s → (∀ i, i < j → s.2.1 106 i = S0.2.1 103 i) → w_255_L176 (m + 1) x1 x2 x3 x4 (nI q) x6 x7 (nI j) s X K := by
  intro m
  induction m with
  | zero =>
    intro j s hj fr h
    rw [w_255_L176, nI_leI (by omega) (by omega)]
    exact br_t (by omega) (hX s fr (fun i hi => h i (by omega)))
  | succ m ih =>
    intro j s hj fr h
    rw [w_255_L176, nI_leI (by omega) (by omega), nI_clamp (by omega), nI_1]
    refine br_f (by omega) ⟨pin_nI (by omega) (by omega), pin_nI (by omega) (by omega), ih (j + 1) _ (by omega) (fr_sA 106 fr) ?_⟩
    intro i hi
    show upd (s.2.1 106) j (s.2.1 103 j) i = _
    by_cases e : i = j
    · subst e; rw [pk_us, fr.2.1 103 rfl]
    · rw [pk_un e]; exact h i (by omega)
theorem l_254 {s : ST} {q : Nat} {A C : List Nat} {X29 : ST → Prop} {X14 K : Int32 → ST → Prop} (hq : q ≤ 4) (la : A.length = q) (lc : C.length = q) (hA : ∀ j p, A[j]? = some p → s.2.1 103 j = nI p ∧ p < 150) (hC : ∀ j p, C[j]? = some p → s.2.1 106 j = nI p ∧ p < 150) (h1 : lex A C = false → X29 s) (h2 : ∀ j a b, j < q → s.2.1 103 j = nI a → s.2.1 106 j = nI b → a < 150 → b < 150 → lex A C = decide (a < b) → X14 (nI j) s) : ∀ m j, j + m = q → lex A C = lex (A.drop j) (C.drop j) → w_254_L2 (m + 1) (nI q) (nI j) s X29 X14 K := by
  intro m
  induction m with
  | zero =>
    intro j hj he
    rw [w_254_L2, nI_leI (by omega) (by omega)]
    refine br_t (by omega) (h1 ?_)
    rw [he, List.drop_of_length_le (by omega)]
    rfl
  | succ m ih =>
    intro j hj he
    have ja : j < A.length := by omega
    have jc : j < C.length := by omega
    obtain ⟨a1, a2⟩ := hA j A[j] (List.getElem?_eq_getElem ja)
    obtain ⟨c1, c2⟩ := hC j C[j] (List.getElem?_eq_getElem jc)
    rw [List.drop_eq_getElem_cons ja, List.drop_eq_getElem_cons jc, lex] at he
    rw [w_254_L2, nI_leI (by omega) (by omega), nI_clamp (by omega), a1, c1, nI_eq (by omega) (by omega), nI_1]
    refine br_f (by omega) ⟨pin_nI (by omega) (by omega), pin_nI (by omega) (by omega), ?_⟩
    by_cases e : A[j] = C[j]
    · rw [if_pos e] at he
      exact br_t e (ih (j + 1) (by omega) he)
    · rw [if_neg e] at he
      exact br_f e (h2 j _ _ (by omega) a1 c1 a2 c2 he)
theorem mp_254 {s : ST} {q : Nat} {A C : List Nat} {K : Int32 → ST → Prop} (hq : q ≤ 4) (la : A.length = q) (lc : C.length = q) (hA : ∀ j p, A[j]? = some p → s.2.1 103 j = nI p ∧ p < 150) (hC : ∀ j p, C[j]? = some p → s.2.1 106 j = nI p ∧ p < 150) (k1 : lex A C = true → K 1 s) (k0 : lex A C = false → K 0 s) : w_254 (nI q) s K := by
  refine ⟨q + 1, l_254 hq la lc hA hC k0 ?_ q 0 (by omega) rfl⟩
  intro j a b hj h1 h2 ha hb he
  refine ⟨pin_nI (by omega) (by omega), pin_nI (by omega) (by omega), ?_⟩
  rw [nI_clamp (by omega), h1, h2, nI_leI (by omega) (by omega)]
  by_cases c : b ≤ a
  · rw [decide_eq_false (by omega)] at he
    exact br_t c (k0 he)
  · rw [decide_eq_true (by omega)] at he
    exact br_f c (k1 he)
/-- what the reference has for the first one -/
def FB (D : ST) (q : Nat) (done : List (List Nat)) (s : ST) : Prop := done ≠ [] → ∃ b, LST (ro D) done b ∧ b.length = q ∧ ∀ j p, b[j]? = some p → s.2.1 106 j = nI (ro D p) ∧ p < nP D
abbrev fqG : FS := ([], [103, 104, 106], [], false, false)
theorem map_at {D s : ST} {a q : Nat} {U : List Nat} (hB : Bk D) (h : ∀ j p, U[j]? = some p → s.2.1 a j = nI (ro D p) ∧ p < nP D) : ∀ j p, (U.map (ro D))[j]? = some p → s.2.1 a j = nI p ∧ p < 150 := by
  intro j p hp
  rw [List.getElem?_map] at hp
  cases e : U[j]? with
  | none => rw [e] at hp; cases hp
  | some y =>
    rw [e] at hp
    have e2 : ro D y = p := by injection hp
    subst e2
    have := h j y e
    exact ⟨this.1, by have h1 := ro_lt hB this.2; have h2 := (bkR hB).2.2; omega⟩
