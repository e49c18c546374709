/-! ===== the pure machine's cells as cells of the heap ===== -/
def wg : List Cond := lw_tbl.filter goodWord
def isNW : Cond → Bool
  | .methodLinkNest _ _ _ _ => true
  | .castable _ _ => true
  | .declares _ => true
  | _ => false
theorem wg_good : GoodIn wg wg := fun w hw => ⟨hw, good_of_word (List.mem_filter.mp hw).2⟩
def ptr (base : Nat) (sp : Nat → Nat) : Value → Value
  | .ref a => .ref (base + a)
  | .float k => .ref (sp k.toNat)
  | v => v
def pE (base : Nat) (sp : Nat → Nat) (dA : Nat → ClassId) : PC → va_E
  | .inl (t, n, .inl f) => .inl (dA t, n, .inl f)
  | .inl (t, n, .inr (.inl f)) => .inl (dA t, n, .inr (.inl f))
  | .inl (t, n, .inr (.inr f)) => .inl (dA t, n, .inr (.inr (.inr (.inr (fun j => (f j).map (fun a => base + a))))))
  | .inr (c, fs) => .inr (c, fs.map (ptr base sp))
def pws (base : Nat) (sp : Nat → Nat) (dA : Nat → ClassId) (h : PH) : va_W := h.mapIdx (fun a e => (base + a, pE base sp dA e))
def psz : PC → Nat
  | .inl (_, n, _) => n
  | .inr (_, fs) => fs.length
def psl (h : PH) : Nat := (h.map psz).sum
def pAb (base : Nat) : Nat → Prop := fun q => base ≤ q
theorem pws_get {base : Nat} {sp : Nat → Nat} {dA : Nat → ClassId} {h : PH} {a : Nat} {e : PC} (he : h[a]? = some e) : (pws base sp dA h)[a]? = some (base + a, pE base sp dA e) := by
  simp [pws, List.getElem?_mapIdx, he]
theorem pws_len {base : Nat} {sp : Nat → Nat} {dA : Nat → ClassId} {h : PH} : (pws base sp dA h).length = h.length := by simp [pws]
theorem pws_set {base : Nat} {sp : Nat → Nat} {dA : Nat → ClassId} {h : PH} {a : Nat} {e : PC} : (pws base sp dA h).set a (base + a, pE base sp dA e) = pws base sp dA (h.set a e) := by
  simp [pws, List.mapIdx_set]
theorem pws_push {base : Nat} {sp : Nat → Nat} {dA : Nat → ClassId} {h : PH} {e : PC} : pws base sp dA (h ++ [e]) = pws base sp dA h ++ [(base + h.length, pE base sp dA e)] := by
  simp [pws, List.mapIdx_append]
theorem pws_at {base : Nat} {sp : Nat → Nat} {dA : Nat → ClassId} {h : PH} {k : Nat} {q : Nat × va_E} (hq : (pws base sp dA h)[k]? = some q) : q.1 = base + k ∧ k < h.length := by
  have hk : k < h.length := by
    have := (List.getElem?_eq_some_iff.mp hq).1
    rwa [pws_len] at this
  have h1 : h[k]? = some h[k] := List.getElem?_eq_getElem hk
  rw [pws_get h1] at hq
  cases hq
  exact ⟨rfl, hk⟩
theorem pws_D {base : Nat} {sp : Nat → Nat} {dA : Nat → ClassId} {h : PH} : va_D (pAb base) (pws base sp dA h) := by
  refine ⟨fun i j x y hi hj hxy => ?_, fun k q hk => ?_⟩
  · have h1 := (pws_at hi).1
    have h2 := (pws_at hj).1
    omega
  · have := (pws_at hk).1
    show base ≤ q.1
    omega
theorem psl_push {h : PH} {e : PC} : psl (h ++ [e]) = psl h + psz e := by simp [psl]
theorem psl_set {h : PH} {a : Nat} {e0 e : PC} (h0 : h[a]? = some e0) (hz : psz e = psz e0) : psl (h.set a e) = psl h := by
  unfold psl
  induction h generalizing a with
  | nil => simp at h0
  | cons x t ih =>
    cases a with
    | zero =>
      simp at h0
      subst h0
      simp [hz]
    | succ k =>
      simp at h0
      simp only [List.set_cons_succ, List.map_cons, List.sum_cons, ih h0]
/-- the new cell's address -/
theorem pws_fresh {base : Nat} {sp : Nat → Nat} {dA : Nat → ClassId} {h : PH} {q : Nat} {e : va_E} {H : Heap} {D : va_G} {cl : List vw_C} (hP : va_P D cl (pws base sp dA h ++ [(q, e)]) H) (hD : va_D (pAb base) (pws base sp dA h ++ [(q, e)])) (hz : H.size ≤ base + h.length + 1) : q = base + h.length := by
  have hl : (pws base sp dA h ++ [(q, e)])[h.length]? = some (q, e) := by
    rw [List.getElem?_append_right (by rw [pws_len]; exact Nat.le_refl _), pws_len, Nat.sub_self]
    rfl
  have h1 : base ≤ q := hD.2 _ _ hl
  have h2 : q < H.size := (hP _ _ hl).lt
  by_cases hq : q < base + h.length
  · have hk : q - base < h.length := by omega
    have hg : h[q - base]? = some h[q - base] := List.getElem?_eq_getElem hk
    have h3 : (pws base sp dA h ++ [(q, e)])[q - base]? = some (base + (q - base), pE base sp dA h[q - base]) := by
      rw [List.getElem?_append_left (by rw [pws_len]; exact hk)]
      exact pws_get hg
    have := hD.1 _ _ _ _ h3 hl (by show base + (q - base) = q; omega)
    omega
  · omega
/-! ===== locals ===== -/
def pL (base : Nat) (sp : Nat → Nat) (ls : Array Slot) (n : Nat) (L : List Value) : Prop := ls.size = n ∧ L.length = n ∧ lv_wf ls ∧ ∀ (i : Nat) (v : Value), L[i]? = some v → (∀ k, v ≠ .retAddr k) → ls[i]? = some (.val (ptr base sp v))
def pnr : Value → Bool
  | .retAddr _ => false
  | _ => true
def pprs (base : Nat) (sp : Nat → Nat) (L : List Value) : List (Nat × Value) := (L.zipIdx.filter (fun q => pnr q.1)).map (fun q => (q.2, ptr base sp q.1))
theorem pnr_iff {v : Value} : pnr v = true ↔ ∀ k, v ≠ .retAddr k := by
  cases v <;> simp [pnr]
theorem pprs_mem {base : Nat} {sp : Nat → Nat} {L : List Value} {q : Nat × Value} : q ∈ pprs base sp L ↔ ∃ v, L[q.1]? = some v ∧ (∀ k, v ≠ .retAddr k) ∧ q.2 = ptr base sp v := by
  unfold pprs
  rw [List.mem_map]
  constructor
  · rintro ⟨x, hx, rfl⟩
    obtain ⟨h1, h2⟩ := List.mem_filter.mp hx
    have h3 := List.mem_zipIdx_iff_getElem?.mp h1
    exact ⟨x.1, h3, pnr_iff.mp h2, rfl⟩
  · rintro ⟨v, h1, h2, h3⟩
    refine ⟨(v, q.1), List.mem_filter.mpr ⟨List.mem_zipIdx_iff_getElem?.mpr h1, pnr_iff.mpr h2⟩, ?_⟩
    rw [← h3]
theorem pL.has {base : Nat} {sp : Nat → Nat} {ls : Array Slot} {n : Nat} {L : List Value} (h : pL base sp ls n L) : lv_has ls n (pprs base sp L) := by
  refine ⟨h.1, h.2.2.1, fun q hq => ?_⟩
  obtain ⟨v, h1, h2, h3⟩ := pprs_mem.mp hq
  rw [h3]
  exact h.2.2.2 q.1 v h1 h2
theorem ptr_cat {base : Nat} {sp : Nat → Nat} (v : Value) : (ptr base sp v).category = v.category := by cases v <;> rfl
theorem pcat_ok {L : List Value} {j : Nat} {v : Value} (h : pcat L (j + 1) = true) (hv : L[j]? = some v) : v.category = 1 := by
  unfold pcat at h
  simp only [hv] at h
  cases v <;> first | rfl | simp at h
theorem pL.set1 {base : Nat} {sp : Nat → Nat} {ls ls' : Array Slot} {n i : Nat} {L : List Value} {v : Value} (h : pL base sp ls n L) (hc : pcat L i = true) (hl : lv_has ls' n ((i, ptr base sp v) :: (pprs base sp L).filter (fun q => !(q.1 == i) && !(q.1 + 1 == i && q.2.category == 2)))) : pL base sp ls' n (L.set i v) := by
  refine ⟨hl.1, by rw [List.length_set]; exact h.2.1, hl.2.1, fun j w hj hw => ?_⟩
  by_cases hji : j = i
  · subst hji
    have hlt : j < L.length := by
      have := (List.getElem?_eq_some_iff.mp hj).1
      rwa [List.length_set] at this
    rw [List.getElem?_set_self hlt] at hj
    cases hj
    exact hl.2.2 (j, ptr base sp v) List.mem_cons_self
  · rw [List.getElem?_set_ne (Ne.symm hji)] at hj
    refine hl.2.2 (j, ptr base sp w) (List.mem_cons_of_mem _ (List.mem_filter.mpr ⟨pprs_mem.mpr ⟨w, hj, hw, rfl⟩, ?_⟩))
    by_cases h1 : j + 1 = i
    · subst h1
      have := pcat_ok hc hj
      simp [ptr_cat, this]
    · simp [hji, h1]
theorem pL.set2 {base : Nat} {sp : Nat → Nat} {ls ls' : Array Slot} {n i : Nat} {L : List Value} {v : Value} (h : pL base sp ls n L) (hc : pcat L i = true) (hl : lv_has ls' n ((i, ptr base sp v) :: (pprs base sp L).filter (fun q => !(q.1 == i) && (!(q.1 == i + 1) && !(q.1 + 1 == i && q.2.category == 2))))) : pL base sp ls' n ((L.set i v).set (i + 1) pu) := by
  refine ⟨hl.1, by rw [List.length_set, List.length_set]; exact h.2.1, hl.2.1, fun j w hj hw => ?_⟩
  by_cases hj1 : j = i + 1
  · subst hj1
    have hlt : i + 1 < (L.set i v).length := by
      have := (List.getElem?_eq_some_iff.mp hj).1
      rwa [List.length_set] at this
    rw [List.getElem?_set_self hlt] at hj
    cases hj
    exact absurd rfl (hw 0)
  · rw [List.getElem?_set_ne (Ne.symm hj1)] at hj
    by_cases hji : j = i
    · subst hji
      have hlt : j < L.length := by
        have := (List.getElem?_eq_some_iff.mp hj).1
        rwa [List.length_set] at this
      rw [List.getElem?_set_self hlt] at hj
      cases hj
      exact hl.2.2 (j, ptr base sp v) List.mem_cons_self
    · rw [List.getElem?_set_ne (Ne.symm hji)] at hj
      refine hl.2.2 (j, ptr base sp w) (List.mem_cons_of_mem _ (List.mem_filter.mpr ⟨pprs_mem.mpr ⟨w, hj, hw, rfl⟩, ?_⟩))
      by_cases h1 : j + 1 = i
      · subst h1
        have := pcat_ok hc hj
        simp [ptr_cat, this, hj1]
      · simp [hji, h1, hj1]
theorem pent_args {base : Nat} {sp : Nat → Nat} : ∀ (as : List Value) (r : List Value) (k i : Nat) (v : Value), (∀ x ∈ r, x = pu) → ((as.flatMap (fun v => if v.category = 2 then [v, pu] else [v])) ++ r)[i]? = some v → (∀ k, v ≠ .retAddr k) → (k + i, ptr base sp v) ∈ lv_args k (as.map (ptr base sp))
  | [], r, k, i, v, hr, hi, hv => by
    simp at hi
    exact absurd (hr v (List.mem_of_getElem? hi)) (hv 0)
  | a :: as, r, k, i, v, hr, hi, hv => by
    have ih := pent_args (base := base) (sp := sp) as r
    by_cases ha : a.category = 2
    · simp only [List.flatMap_cons, if_pos ha, List.cons_append, List.nil_append] at hi
      match i, hi with
      | 0, hi =>
        simp at hi
        subst hi
        simp [lv_args]
      | 1, hi =>
        simp at hi
        exact absurd hi.symm (hv 0)
      | i + 2, hi =>
        simp at hi
        have := ih (k + 2) i v hr (by simpa using hi) hv
        simp only [List.map_cons, lv_args]
        refine List.mem_cons_of_mem _ ?_
        rw [if_pos (by rw [ptr_cat]; exact ha)]
        rwa [show k + (i + 2) = k + 2 + i by omega]
    · simp only [List.flatMap_cons, if_neg ha, List.cons_append, List.nil_append] at hi
      cases i with
      | zero =>
        simp at hi
        subst hi
        simp [lv_args]
      | succ i =>
        simp at hi
        have := ih (k + 1) i v hr (by simpa using hi) hv
        simp only [List.map_cons, lv_args]
        refine List.mem_cons_of_mem _ ?_
        rw [if_neg (by rw [ptr_cat]; exact ha)]
        rwa [show k + (i + 1) = k + 1 + i by omega]
theorem lg_sl_len {base : Nat} {sp : Nat → Nat} (as : List Value) : (lg_sl (as.map (ptr base sp))).length = (as.flatMap (fun v => if v.category = 2 then [v, pu] else [v])).length := by
  induction as with
  | nil => rfl
  | cons a t ih =>
    unfold lg_sl at ih ⊢
    simp only [List.map_cons, List.flatMap_cons, List.length_append, ih]
    rw [ptr_cat]
    by_cases ha : a.category = 2 <;> simp [ha]
theorem pL.entry {base : Nat} {sp : Nat → Nat} {as : List Value} {n : Nat} (hn : (pent as n).length = n) : pL base sp ((lg_sl (as.map (ptr base sp)) ++ List.replicate (n - (lg_sl (as.map (ptr base sp))).length) Slot.unset).toArray) n (pent as n) := by
  have hle : (lg_sl (as.map (ptr base sp))).length ≤ n := by
    rw [lg_sl_len]
    have : (pent as n).length = (as.flatMap (fun v => if v.category = 2 then [v, pu] else [v])).length + (n - (as.flatMap (fun v => if v.category = 2 then [v, pu] else [v])).length) := by
      simp [pent]
    omega
  have hv := lv_entry (as.map (ptr base sp)) hle
  refine ⟨hv.1, hn, hv.2.1, fun i v hi hr => ?_⟩
  have := pent_args (base := base) (sp := sp) as _ 0 i v (fun x hx => (List.mem_replicate.mp hx).2) hi hr
  rw [Nat.zero_add] at this
  exact hv.2.2 _ this
