/-! ===== their order, as lists ===== -/
theorem lat_iff {dy hr : Nat → Int32} {x i : Nat} : lat dy hr x i = true ↔ ((dy i).toInt < (dy x).toInt ∨ ((dy i).toInt = (dy x).toInt ∧ (hr i).toInt < (hr x).toInt)) := by
  unfold lat
  simp only [Bool.or_eq_true, Bool.and_eq_true, decide_eq_true_eq]
theorem lat_niff {dy hr : Nat → Int32} {x i : Nat} : lat dy hr x i = false ↔ ¬ ((dy i).toInt < (dy x).toInt ∨ ((dy i).toInt = (dy x).toInt ∧ (hr i).toInt < (hr x).toInt)) := by
  rw [← lat_iff, Bool.not_eq_true]
theorem lat_tr {dy hr : Nat → Int32} {x y z : Nat} (h1 : lat dy hr x y = false) (h2 : lat dy hr y z = false) : lat dy hr x z = false := by
  rw [lat_niff] at h1 h2 ⊢
  omega
theorem lat_irr {dy hr : Nat → Int32} {x : Nat} : lat dy hr x x = false := by
  rw [lat_niff]
  omega
def srt (dy hr : Nat → Int32) (L : List Nat) : Prop := L.Pairwise (fun x y => lat dy hr x y = false)
theorem ins_srt {dy hr : Nat → Int32} {i : Nat} {L : List Nat} (h : srt dy hr L) : srt dy hr (insF dy hr i L) := by
  unfold insF srt
  rw [List.pairwise_append]
  refine ⟨List.Pairwise.filter _ h, ?_, ?_⟩
  · rw [List.pairwise_cons]
    refine ⟨fun y hy => ?_, List.Pairwise.filter _ h⟩
    have h1 := (List.mem_filter.mp hy).2
    rw [lat_iff] at h1
    rw [lat_niff]
    omega
  · intro a ha b hb
    have h1 := (List.mem_filter.mp ha).2
    rw [Bool.not_eq_true', lat_niff] at h1
    rcases List.mem_cons.mp hb with e | e
    · subst e
      rw [lat_niff]
      exact h1
    · have h2 := (List.mem_filter.mp e).2
      rw [lat_iff] at h2
      rw [lat_niff]
      omega
theorem ordL_srt (dy hr : Nat → Int32) : ∀ n, srt dy hr (ordL dy hr n)
  | 0 => List.Pairwise.nil
  | n + 1 => ins_srt (ordL_srt dy hr n)
theorem ordL_mem {dy hr : Nat → Int32} {i : Nat} : ∀ n, i ∈ ordL dy hr n ↔ i < n
  | 0 => by simp [ordL]
  | n + 1 => by
    have ih := ordL_mem (dy := dy) (hr := hr) (i := i) n
    rw [ordL, insF, List.mem_append, List.mem_cons, List.mem_filter, List.mem_filter, ih]
    cases e : lat dy hr i n <;> simp <;> omega
theorem ordL_len {dy hr : Nat → Int32} : ∀ n, (ordL dy hr n).length = n
  | 0 => rfl
  | n + 1 => by
    have ih := ordL_len (dy := dy) (hr := hr) n
    rw [ordL, insF, List.length_append, List.length_cons]
    have : ∀ L : List Nat, (L.filter (fun x => !lat dy hr x n)).length + (L.filter (fun x => lat dy hr x n)).length = L.length := by
      intro L
      induction L with
      | nil => rfl
      | cons a L ihL =>
        cases e : lat dy hr a n <;> simp [List.filter_cons, e] <;> omega
    have := this (ordL dy hr n)
    omega
theorem ordL_nd {dy hr : Nat → Int32} : ∀ n, (ordL dy hr n).Nodup
  | 0 => List.Pairwise.nil
  | n + 1 => by
    have ih := ordL_nd (dy := dy) (hr := hr) n
    rw [ordL, insF]
    unfold List.Nodup
    rw [List.pairwise_append]
    refine ⟨List.Pairwise.filter _ ih, ?_, ?_⟩
    · rw [List.pairwise_cons]
      refine ⟨fun y hy => ?_, List.Pairwise.filter _ ih⟩
      have := (ordL_mem n).mp (List.mem_filter.mp hy).1
      omega
    · intro a ha b hb
      have h1 := (ordL_mem n).mp (List.mem_filter.mp ha).1
      rcases List.mem_cons.mp hb with e | e
      · omega
      · intro e2
        subst e2
        have h2 := (List.mem_filter.mp ha).2
        have h3 := (List.mem_filter.mp e).2
        rw [h3] at h2
        cases h2
theorem ordL_congr {dy hr dy2 hr2 : Nat → Int32} : ∀ n, (∀ i, i < n → dy i = dy2 i ∧ hr i = hr2 i) → ordL dy hr n = ordL dy2 hr2 n
  | 0, _ => rfl
  | n + 1, h => by
    have ih := ordL_congr (dy := dy) (hr := hr) (dy2 := dy2) (hr2 := hr2) n (fun i hi => h i (by omega))
    rw [ordL, ordL, ih, insF, insF]
    have e : ∀ x, x ∈ ordL dy2 hr2 n → lat dy hr x n = lat dy2 hr2 x n := by
      intro x hx
      have hx := (ordL_mem n).mp hx
      unfold lat
      rw [(h n (by omega)).1, (h n (by omega)).2, (h x (by omega)).1, (h x (by omega)).2]
    rw [List.filter_congr (fun x hx => by rw [e x hx] : ∀ x ∈ ordL dy2 hr2 n, (!lat dy hr x n) = !lat dy2 hr2 x n), List.filter_congr e]
/-- where a sorted list is cut by a later one -/
theorem cut {dy hr : Nat → Int32} {i : Nat} {L : List Nat} (h : srt dy hr L) (k : Nat) (hk : k ≤ L.length) (h1 : ∀ j (hj : j < L.length), k ≤ j → lat dy hr L[j] i = true) (h2 : ∀ (hj : k - 1 < L.length), 0 < k → lat dy hr L[k - 1] i = false) : L.filter (fun x => !lat dy hr x i) = L.take k ∧ L.filter (fun x => lat dy hr x i) = L.drop k := by
  have hlt : ∀ j (hj : j < L.length), j < k → lat dy hr L[j] i = false := by
    intro j hj hjk
    by_cases e : j = k - 1
    · subst e
      exact h2 hj (by omega)
    · have h3 := (List.pairwise_iff_getElem.mp h) j (k - 1) hj (by omega) (by omega)
      exact lat_tr h3 (h2 (by omega) (by omega))
  have e1 : (L.take k).filter (fun x => !lat dy hr x i) = L.take k := by
    rw [List.filter_eq_self]
    intro a ha
    obtain ⟨j, hj, rfl⟩ := List.mem_take_iff_getElem.mp ha
    rw [hlt j (by omega) (by omega)]
    rfl
  have e2 : (L.drop k).filter (fun x => !lat dy hr x i) = [] := by
    rw [List.filter_eq_nil_iff]
    intro a ha
    obtain ⟨j, hj, rfl⟩ := List.mem_drop_iff_getElem.mp ha
    rw [h1 _ (by omega) (by omega)]
    decide
  have e3 : (L.take k).filter (fun x => lat dy hr x i) = [] := by
    rw [List.filter_eq_nil_iff]
    intro a ha
    obtain ⟨j, hj, rfl⟩ := List.mem_take_iff_getElem.mp ha
    rw [hlt j (by omega) (by omega)]
    decide
  have e4 : (L.drop k).filter (fun x => lat dy hr x i) = L.drop k := by
    rw [List.filter_eq_self]
    intro a ha
    obtain ⟨j, hj, rfl⟩ := List.mem_drop_iff_getElem.mp ha
    exact h1 _ (by omega) (by omega)
  constructor
  · have z := congrArg (List.filter (fun x => !lat dy hr x i)) (List.take_append_drop k L)
    rw [List.filter_append, e1, e2, List.append_nil] at z
    exact z.symm
  · have z := congrArg (List.filter (fun x => lat dy hr x i)) (List.take_append_drop k L)
    rw [List.filter_append, e3, e4, List.nil_append] at z
    exact z.symm
/-- in a sorted list the earlier ones stand ahead of the later ones -/
theorem parts_srt {dy hr : Nat → Int32} (i : Nat) : ∀ {L : List Nat}, srt dy hr L → L.filter (fun x => !lat dy hr x i) ++ L.filter (fun x => lat dy hr x i) = L
  | [], _ => rfl
  | a :: L, h => by
    have h' := List.pairwise_cons.mp h
    have ih := parts_srt i h'.2
    cases e : lat dy hr a i with
    | false =>
      rw [List.filter_cons_of_pos (by rw [e]; rfl), List.filter_cons_of_neg (by rw [e]; decide), List.cons_append, ih]
    | true =>
      have n1 : L.filter (fun x => !lat dy hr x i) = [] := by
        rw [List.filter_eq_nil_iff]
        intro b hb
        have h1 := h'.1 b hb
        have h2 : lat dy hr b i = true := by
          rw [lat_niff] at h1
          rw [lat_iff] at e ⊢
          omega
        rw [h2]
        decide
      rw [n1, List.nil_append] at ih
      rw [List.filter_cons_of_neg (by rw [e]; decide), n1, List.nil_append, List.filter_cons_of_pos (p := fun x => lat dy hr x i) e, ih]
/-- the rows that are known, in their order: putting in those alone is the same as leaving the others out -/
def ordK (dy hr : Nat → Int32) (p : Nat → Bool) : Nat → List Nat
  | 0 => []
  | n + 1 => if p n = true then insF dy hr n (ordK dy hr p n) else ordK dy hr p n
theorem flt_comm {dy hr : Nat → Int32} {p q : Nat → Bool} {L : List Nat} : (L.filter q).filter p = (L.filter p).filter q := by
  rw [List.filter_filter, List.filter_filter]
  congr 1
  funext a
  exact Bool.and_comm _ _
theorem ordK_eq {dy hr : Nat → Int32} {p : Nat → Bool} : ∀ n, ordK dy hr p n = (ordL dy hr n).filter p
  | 0 => rfl
  | n + 1 => by
    have ih := ordK_eq (dy := dy) (hr := hr) (p := p) n
    rw [ordK, ordL]
    have e : (insF dy hr n (ordL dy hr n)).filter p = ((ordL dy hr n).filter p).filter (fun x => !lat dy hr x n) ++ ((if p n = true then [n] else []) ++ ((ordL dy hr n).filter p).filter (fun x => lat dy hr x n)) := by
      have c1 : ((ordL dy hr n).filter (fun x => !lat dy hr x n)).filter p = ((ordL dy hr n).filter p).filter (fun x => !lat dy hr x n) := flt_comm (dy := dy) (hr := hr)
      have c2 : ((ordL dy hr n).filter (fun x => lat dy hr x n)).filter p = ((ordL dy hr n).filter p).filter (fun x => lat dy hr x n) := flt_comm (dy := dy) (hr := hr)
      rw [insF, List.filter_append, c1, List.filter_cons, c2]
      by_cases c : p n = true
      · rw [if_pos c, if_pos c]; rfl
      · rw [if_neg c, if_neg c]; rfl
    rw [e, ih]
    by_cases c : p n = true
    · rw [if_pos c, if_pos c]; rfl
    · rw [if_neg c, if_neg c, List.nil_append]
      exact (parts_srt n (List.Pairwise.filter _ (ordL_srt dy hr n))).symm
/-- a row that holds a list with one put in -/
theorem AL_ins {dy hr : Nat → Int32} {g : Nat → Int32} {i k : Nat} {L : List Nat} (h : srt dy hr L) (hk : k ≤ L.length) (h1 : ∀ j (hj : j < L.length), k ≤ j → lat dy hr L[j] i = true) (h2 : ∀ (hj : k - 1 < L.length), 0 < k → lat dy hr L[k - 1] i = false) (g1 : ∀ j (hj : j < L.length), j < k → g j = nI L[j]) (g2 : g k = nI i) (g3 : ∀ j (hj : j < L.length), k ≤ j → g (j + 1) = nI L[j]) : AL g (insF dy hr i L) := by
  obtain ⟨e1, e2⟩ := cut h k hk h1 h2
  unfold insF
  rw [e1, e2]
  intro j hj
  have hl : (L.take k).length = k := by rw [List.length_take]; omega
  by_cases c : j < k
  · rw [List.getElem_append_left (by omega), List.getElem_take]
    exact g1 j (by omega) c
  · rw [List.getElem_append_right (by omega)]
    by_cases d : j = k
    · subst d
      have z : j - (L.take j).length = 0 := by omega
      simp only [z, List.getElem_cons_zero]
      exact g2
    · obtain ⟨m, rfl⟩ : ∃ m, j = k + m + 1 := ⟨j - k - 1, by omega⟩
      have z : k + m + 1 - (L.take k).length = m + 1 := by omega
      simp only [z, List.getElem_cons_succ, List.getElem_drop]
      rw [List.length_append, List.length_cons, List.length_drop, hl] at hj
      exact g3 (k + m) (by omega) (by omega)
