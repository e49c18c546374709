/-! ===== rows of rows that fit: what is counted ===== -/
section FIT
variable (g : List Nat → Nat → Bool) (w : Nat → Nat)
/-- all ways to go on: l steps, m places from k on, pre what is chosen, x what is asked yet -/
def EE : Nat → Nat → List Nat → Nat → Int → List (List Nat)
  | 0, _, pre, _, x => if x ≤ 0 then [pre] else []
  | _ + 1, 0, _, _, _ => []
  | l + 1, m + 1, pre, k, x => (if g pre k = true then EE l m (pre ++ [k]) (k + 1) (x - w k) else []) ++ EE (l + 1) m pre (k + 1) x
/-- the most that l steps bring, or -1 -/
def MM (h : Nat → Nat → Bool) : Nat → Nat → Nat → Nat → Int
  | 0, _, _, _ => 0
  | _ + 1, 0, _, _ => -1
  | l + 1, m + 1, s, k => if MM h (l + 1) m s (k + 1) < (if h s k = true ∧ ¬ MM h l m (s + 1) (k + 1) = -1 then (w k : Int) + MM h l m (s + 1) (k + 1) else -1) then (if h s k = true ∧ ¬ MM h l m (s + 1) (k + 1) = -1 then (w k : Int) + MM h l m (s + 1) (k + 1) else -1) else MM h (l + 1) m s (k + 1)
/-- a way to go on -/
def VAL (n : Nat) : Nat → List Nat → Nat → Int → List Nat → Prop
  | 0, _, _, x, u => u = [] ∧ x ≤ 0
  | l + 1, pre, k, x, u => ∃ p v, u = p :: v ∧ k ≤ p ∧ p < n ∧ g pre p = true ∧ VAL n l (pre ++ [p]) (p + 1) (x - w p) v
def CST : Nat → Nat → Nat
  | 0, _ => 0
  | _ + 1, 0 => 1
  | l + 1, m + 1 => 1 + CST l m + CST (l + 1) m
end FIT
section FIT2
variable {g : List Nat → Nat → Bool} {w : Nat → Nat}
theorem EE_0 {m : Nat} {pre : List Nat} {k : Nat} {x : Int} : EE g w 0 m pre k x = if x ≤ 0 then [pre] else [] := by cases m <;> rfl
theorem EE_n {l : Nat} {pre : List Nat} {k : Nat} {x : Int} : EE g w (l + 1) 0 pre k x = [] := rfl
theorem EE_s {l m : Nat} {pre : List Nat} {k : Nat} {x : Int} : EE g w (l + 1) (m + 1) pre k x = (if g pre k = true then EE g w l m (pre ++ [k]) (k + 1) (x - w k) else []) ++ EE g w (l + 1) m pre (k + 1) x := rfl
theorem MM_0 {h : Nat → Nat → Bool} {m s k : Nat} : MM w h 0 m s k = 0 := by cases m <;> rfl
theorem MM_n {h : Nat → Nat → Bool} {l s k : Nat} : MM w h (l + 1) 0 s k = -1 := rfl
theorem MM_rng {h : Nat → Nat → Bool} (hw : ∀ p, w p ≤ 1000000) : ∀ m l s k, -1 ≤ MM w h l m s k ∧ MM w h l m s k ≤ 1000000 * l := by
  intro m
  induction m with
  | zero =>
    intro l s k
    cases l with
    | zero => rw [MM_0]; omega
    | succ l => rw [MM_n]; omega
  | succ m ih =>
    intro l s k
    cases l with
    | zero => rw [MM_0]; omega
    | succ l =>
      have h1 := ih (l + 1) s (k + 1)
      have h2 := ih l (s + 1) (k + 1)
      have hk := hw k
      rw [MM]
      by_cases c : h s k = true ∧ ¬ MM w h l m (s + 1) (k + 1) = -1
      · rw [if_pos c]
        split <;> omega
      · rw [if_neg c]
        split <;> omega
theorem EE_MM {h : Nat → Nat → Bool} {f : Nat} (hg : ∀ pre p, pre.head? = some f → g pre p = h pre.length p) (hw : ∀ p, w p ≤ 1000000) : ∀ m l pre k x, pre.head? = some f → (EE g w l m pre k x ≠ [] ↔ (¬ MM w h l m pre.length k = -1 ∧ x ≤ MM w h l m pre.length k)) := by
  intro m
  induction m with
  | zero =>
    intro l pre k x hp
    cases l with
    | zero =>
      rw [EE_0, MM_0]
      by_cases c : x ≤ 0
      · rw [if_pos c]; simp [c]
      · rw [if_neg c]; simp [c]
    | succ l => rw [EE_n, MM_n]; simp
  | succ m ih =>
    intro l pre k x hp
    cases l with
    | zero =>
      rw [EE_0, MM_0]
      by_cases c : x ≤ 0
      · rw [if_pos c]; simp [c]
      · rw [if_neg c]; simp [c]
    | succ l =>
      have hp2 : (pre ++ [k]).head? = some f := by
        cases pre with
        | nil => cases hp
        | cons a r => exact hp
      have hl : (pre ++ [k]).length = pre.length + 1 := by rw [List.length_append, List.length_singleton]
      have i1 := ih (l + 1) pre (k + 1) x hp
      have i2 := ih l (pre ++ [k]) (k + 1) (x - w k) hp2
      rw [hl] at i2
      have r1 := MM_rng (h := h) hw m (l + 1) pre.length (k + 1)
      have r2 := MM_rng (h := h) hw m l (pre.length + 1) (k + 1)
      rw [EE_s, MM, hg pre k hp]
      have ap : ∀ a b : List (List Nat), a ++ b ≠ [] ↔ (a ≠ [] ∨ b ≠ []) := by
        intro a b
        cases a with
        | nil => simp
        | cons y r => simp
      rw [ap, i1]
      by_cases c : h pre.length k = true
      · rw [if_pos c, i2]
        by_cases d : MM w h l m (pre.length + 1) (k + 1) = -1
        · rw [if_neg (show ¬ (h pre.length k = true ∧ ¬ MM w h l m (pre.length + 1) (k + 1) = -1) from fun z => z.2 d)]
          rw [if_neg (by omega)]
          constructor
          · intro z
            rcases z with z | z
            · exact absurd d z.1
            · exact z
          · intro z; exact Or.inr z
        · rw [if_pos (show h pre.length k = true ∧ ¬ MM w h l m (pre.length + 1) (k + 1) = -1 from ⟨c, d⟩)]
          split <;> omega
      · rw [if_neg c, if_neg (show ¬ (h pre.length k = true ∧ ¬ MM w h l m (pre.length + 1) (k + 1) = -1) from fun z => c z.1), if_neg (by omega)]
        simp
theorem EE_far {d : Nat} : ∀ l pre k x, (∀ p pre2, pre <+: pre2 → k ≤ p → g pre2 p = false) → EE g w l d pre k x = EE g w l 0 pre k x := by
  induction d with
  | zero => intro l pre k x _; rfl
  | succ d ih =>
    intro l pre k x h
    cases l with
    | zero => rw [EE_0, EE_0]
    | succ l =>
      rw [EE_s, if_neg (by rw [h k pre (List.prefix_refl _) (Nat.le_refl _)]; decide), ih (l + 1) pre (k + 1) x (fun p pre2 h1 h2 => h p pre2 h1 (by omega))]
      rfl
theorem EE_ext {d : Nat} : ∀ m l pre k x, (∀ p pre2, pre <+: pre2 → k + m ≤ p → g pre2 p = false) → EE g w l (m + d) pre k x = EE g w l m pre k x := by
  intro m
  induction m with
  | zero =>
    intro l pre k x h
    rw [Nat.zero_add]
    exact EE_far l pre k x (fun p pre2 h1 h2 => h p pre2 h1 (by omega))
  | succ m ih =>
    intro l pre k x h
    cases l with
    | zero => rw [EE_0, EE_0]
    | succ l =>
      have e : m + 1 + d = (m + d) + 1 := by omega
      rw [e, EE_s, EE_s, ih (l + 1) pre (k + 1) x (fun p pre2 h1 h2 => h p pre2 h1 (by omega)), ih l (pre ++ [k]) (k + 1) (x - w k) (fun p pre2 h1 h2 => h p pre2 (List.IsPrefix.trans (List.prefix_append _ _) h1) (by omega))]
theorem EE_val {n : Nat} : ∀ m l pre k x, k + m = n → ∀ u, (u ∈ EE g w l m pre k x ↔ ∃ v, u = pre ++ v ∧ VAL g w n l pre k x v) := by
  intro m
  induction m with
  | zero =>
    intro l pre k x hk u
    cases l with
    | zero =>
      rw [EE_0]
      by_cases c : x ≤ 0
      · rw [if_pos c, List.mem_singleton]
        constructor
        · intro e; exact ⟨[], by rw [e, List.append_nil], rfl, c⟩
        · intro ⟨v, e, h1, _⟩; rw [e, h1, List.append_nil]
      · rw [if_neg c]
        constructor
        · intro z; cases z
        · intro ⟨v, _, _, h1⟩; exact absurd h1 c
    | succ l =>
      rw [EE_n]
      constructor
      · intro z; cases z
      · intro ⟨v, _, p, v2, _, h1, h2, _⟩; omega
  | succ m ih =>
    intro l pre k x hk u
    cases l with
    | zero =>
      rw [EE_0]
      by_cases c : x ≤ 0
      · rw [if_pos c, List.mem_singleton]
        constructor
        · intro e; exact ⟨[], by rw [e, List.append_nil], rfl, c⟩
        · intro ⟨v, e, h1, _⟩; rw [e, h1, List.append_nil]
      · rw [if_neg c]
        constructor
        · intro z; cases z
        · intro ⟨v, _, _, h1⟩; exact absurd h1 c
    | succ l =>
      rw [EE_s, List.mem_append, ih (l + 1) pre (k + 1) x (by omega) u]
      constructor
      · intro z
        rcases z with z | ⟨v, e, p, v2, h1, h2, h3, h4, h5⟩
        · by_cases c : g pre k = true
          · rw [if_pos c, ih l (pre ++ [k]) (k + 1) (x - w k) (by omega) u] at z
            obtain ⟨v, e, h1⟩ := z
            exact ⟨k :: v, by rw [e, List.append_assoc]; rfl, k, v, rfl, Nat.le_refl _, by omega, c, h1⟩
          · rw [if_neg c] at z; cases z
        · exact ⟨v, e, p, v2, h1, by omega, h3, h4, h5⟩
      · intro ⟨v, e, p, v2, h1, h2, h3, h4, h5⟩
        by_cases c : p = k
        · subst c
          left
          rw [if_pos h4, ih l (pre ++ [p]) (p + 1) (x - w p) (by omega) u]
          exact ⟨v2, by rw [e, h1, List.append_assoc]; rfl, h5⟩
        · exact Or.inr ⟨v, e, p, v2, h1, by omega, h3, h4, h5⟩
theorem EE_ne {n m l : Nat} {pre : List Nat} {k : Nat} {x : Int} (h : k + m = n) : EE g w l m pre k x ≠ [] ↔ ∃ v, VAL g w n l pre k x v := by
  constructor
  · intro z
    cases e : EE g w l m pre k x with
    | nil => exact absurd e z
    | cons u r =>
      obtain ⟨v, _, h1⟩ := (EE_val m l pre k x h u).mp (by rw [e]; exact List.mem_cons_self)
      exact ⟨v, h1⟩
  · intro ⟨v, h1⟩ z
    have := (EE_val m l pre k x h (pre ++ v)).mpr ⟨v, rfl, h1⟩
    rw [z] at this
    cases this
end FIT2
/-! the least one, by the rows' numbers -/
def lex : List Nat → List Nat → Bool
  | a :: u, b :: v => if a = b then lex u v else decide (a < b)
  | _, _ => false
theorem lex_tr : ∀ u v z, lex u v = true → lex v z = true → lex u z = true
  | [], _, _, h, _ => by cases h
  | _ :: _, [], _, h, _ => by cases h
  | _ :: _, _ :: _, [], _, h => by cases h
  | a :: u, b :: v, c :: z, h1, h2 => by
    rw [lex] at h1 h2 ⊢
    by_cases e : a = b
    · subst e
      rw [if_pos rfl] at h1
      by_cases f : a = c
      · rw [if_pos f] at h2 ⊢; exact lex_tr u v z h1 h2
      · rw [if_neg f] at h2 ⊢; exact h2
    · rw [if_neg e] at h1
      have q1 := of_decide_eq_true h1
      by_cases f : b = c
      · subst f
        rw [if_neg e]; exact h1
      · rw [if_neg f] at h2
        have q2 := of_decide_eq_true h2
        rw [if_neg (by omega)]
        exact decide_eq_true (by omega)
theorem lex_irr : ∀ u, lex u u = false
  | [] => rfl
  | a :: u => by rw [lex, if_pos rfl]; exact lex_irr u
/-- b is the least of the list, r giving the rows' numbers -/
def LST (r : Nat → Nat) (done : List (List Nat)) (b : List Nat) : Prop := b ∈ done ∧ ∀ u, u ∈ done → lex (u.map r) (b.map r) = false
theorem LST_1 {r : Nat → Nat} {u : List Nat} : LST r [u] u := ⟨List.mem_singleton.mpr rfl, fun v hv => by rw [List.mem_singleton.mp hv]; exact lex_irr _⟩
theorem LST_k {r : Nat → Nat} {done : List (List Nat)} {b u : List Nat} (h : LST r done b) (c : lex (u.map r) (b.map r) = false) : LST r (done ++ [u]) b := by
  refine ⟨List.mem_append_left _ h.1, fun v hv => ?_⟩
  rcases List.mem_append.mp hv with z | z
  · exact h.2 v z
  · rw [List.mem_singleton.mp z]; exact c
theorem LST_n {r : Nat → Nat} {done : List (List Nat)} {b u : List Nat} (h : LST r done b) (c : lex (u.map r) (b.map r) = true) : LST r (done ++ [u]) u := by
  refine ⟨List.mem_append_right _ (List.mem_singleton.mpr rfl), fun v hv => ?_⟩
  rcases List.mem_append.mp hv with z | z
  · cases e : lex (v.map r) (u.map r) with
    | false => rfl
    | true =>
      have := lex_tr _ _ _ e c
      rw [h.2 v z] at this
      cases this
  · rw [List.mem_singleton.mp z]; exact lex_irr _
/-- a way to go on that is the least -/
def MIN (g : List Nat → Nat → Bool) (w r : Nat → Nat) (n l : Nat) (pre : List Nat) (k : Nat) (x : Int) (u : List Nat) : Prop := VAL g w n l pre k x u ∧ ∀ v, VAL g w n l pre k x v → lex (v.map r) (u.map r) = false
theorem MIN_h {g : List Nat → Nat → Bool} {w r : Nat → Nat} {n l : Nat} {pre : List Nat} {k p : Nat} {x : Int} {u : List Nat} (h : MIN g w r n (l + 1) pre k x (p :: u)) : k ≤ p ∧ p < n ∧ g pre p = true ∧ (∃ v, VAL g w n l (pre ++ [p]) (p + 1) (x - w p) v) ∧ MIN g w r n l (pre ++ [p]) (p + 1) (x - w p) u ∧ ∀ q, k ≤ q → q < n → g pre q = true → (∃ v, VAL g w n l (pre ++ [q]) (q + 1) (x - w q) v) → r p ≤ r q := by
  obtain ⟨⟨p2, v2, e, h1, h2, h3, h4⟩, hm⟩ := h
  have e1 : p = p2 := by injection e
  have e2 : u = v2 := by injection e
  subst e1
  subst e2
  refine ⟨h1, h2, h3, ⟨u, h4⟩, ⟨h4, fun v hv => ?_⟩, fun q q1 q2 q3 ⟨v, hv⟩ => ?_⟩
  · have := hm (p :: v) ⟨p, v, rfl, h1, h2, h3, hv⟩
    rw [List.map_cons, List.map_cons, lex, if_pos rfl] at this
    exact this
  · have := hm (q :: v) ⟨q, v, rfl, q1, q2, q3, hv⟩
    rw [List.map_cons, List.map_cons, lex] at this
    by_cases c : r q = r p
    · omega
    · rw [if_neg c] at this
      have := of_decide_eq_false this
      omega
