/-! ===== a condition's code, and what it says of a row ===== -/
section EV
variable {G : Nat → Nat × Nat} {L : Nat} {fx : Nat → Int64} {n p : Nat} {S r : List Int64} {a d : Int64}
theorem ev_end (c : L ≤ p) : ev G L fx (n + 1) p (a :: r) = decide (a = 1) := by rw [ev.eq_def]; exact if_pos c
theorem ev_0 (c : ¬ L ≤ p) (c0 : (G p).1 = 0) : ev G L fx (n + 1) p S = ev G L fx n (p + 1) (lN (G p).2 :: S) := by rw [ev.eq_def]; exact (if_neg c).trans (if_pos c0)
theorem ev_1 (c : ¬ L ≤ p) (c0 : ¬ (G p).1 = 0) (c1 : (G p).1 = 1) : ev G L fx (n + 1) p S = ev G L fx n (p + 1) (fx (G p).2 :: S) := by rw [ev.eq_def]; exact (if_neg c).trans ((if_neg c0).trans (if_pos c1))
theorem ev_2 (c : ¬ L ≤ p) (c0 : ¬ (G p).1 = 0) (c1 : ¬ (G p).1 = 1) (c2 : (G p).1 = 2) : ev G L fx (n + 1) p (a :: r) = ev G L fx n (p + 1) ((1 - a) :: r) := by rw [ev.eq_def]; exact (if_neg c).trans ((if_neg c0).trans ((if_neg c1).trans (if_pos c2)))
theorem ev_3 (c : ¬ L ≤ p) (c0 : ¬ (G p).1 = 0) (c1 : ¬ (G p).1 = 1) (c2 : ¬ (G p).1 = 2) (c3 : (G p).1 = 3) : ev G L fx (n + 1) p (a :: r) = if a = 0 then ev G L fx n (G p).2 (a :: r) else ev G L fx n (p + 1) r := by rw [ev.eq_def]; exact (if_neg c).trans ((if_neg c0).trans ((if_neg c1).trans ((if_neg c2).trans (if_pos c3))))
theorem ev_4 (c : ¬ L ≤ p) (c0 : ¬ (G p).1 = 0) (c1 : ¬ (G p).1 = 1) (c2 : ¬ (G p).1 = 2) (c3 : ¬ (G p).1 = 3) (c4 : (G p).1 = 4) : ev G L fx (n + 1) p (a :: r) = if a = 0 then ev G L fx n (p + 1) r else ev G L fx n (G p).2 (a :: r) := by rw [ev.eq_def]; exact (if_neg c).trans ((if_neg c0).trans ((if_neg c1).trans ((if_neg c2).trans ((if_neg c3).trans (if_pos c4)))))
theorem ev_5 (c : ¬ L ≤ p) (c0 : ¬ (G p).1 = 0) (c1 : ¬ (G p).1 = 1) (c2 : ¬ (G p).1 = 2) (c3 : ¬ (G p).1 = 3) (c4 : ¬ (G p).1 = 4) : ev G L fx (n + 1) p (a :: d :: r) = if ((G p).1 = 8 ∨ (G p).1 = 9) ∧ a = 0 then false else ev G L fx n (p + 1) (evB (G p).1 d a :: r) := by rw [ev.eq_def]; exact (if_neg c).trans ((if_neg c0).trans ((if_neg c1).trans ((if_neg c2).trans ((if_neg c3).trans (if_neg c4)))))
end EV
def TS : List Bool → List Int64 → Prop
  | [], [] => True
  | t :: T, a :: S => (t = true → a = 0 ∨ a = 1) ∧ TS T S
  | _, _ => False
theorem TS_len : ∀ {T : List Bool} {S : List Int64}, TS T S → S.length = T.length
  | [], [], _ => rfl
  | _ :: T, _ :: S, h => by rw [List.length_cons, List.length_cons, TS_len h.2]
  | [], _ :: _, h => h.elim
  | _ :: _, [], h => h.elim
theorem TS_cons {t : Bool} {T : List Bool} {S : List Int64} (h : TS (t :: T) S) : ∃ a r, S = a :: r ∧ (t = true → a = 0 ∨ a = 1) ∧ TS T r := by
  cases S with
  | nil => exact h.elim
  | cons a r => exact ⟨a, r, rfl, h.1, h.2⟩
def SA (g : Nat → Int64) (S : List Int64) : Prop := ∀ i (h : i < S.length), g (S.length - 1 - i) = S[i]
theorem SA_push {g : Nat → Int64} {S : List Int64} {a : Int64} (h : SA g S) : SA (vp_updL g S.length a) (a :: S) := by
  intro i hi
  rw [List.length_cons] at hi
  rw [List.length_cons, updL_ap]
  cases i with
  | zero => rw [if_pos (by omega)]; rfl
  | succ i =>
    rw [if_neg (by omega), List.getElem_cons_succ]
    have := h i (by omega)
    have e : S.length + 1 - 1 - (i + 1) = S.length - 1 - i := by omega
    rw [e]
    exact this
theorem SA_top {g : Nat → Int64} {r : List Int64} {a : Int64} (h : SA g (a :: r)) : g r.length = a := by
  have this : g (r.length + 1 - 1 - 0) = a := h 0 (by rw [List.length_cons]; omega)
  exact this
theorem SA_pop {g : Nat → Int64} {r : List Int64} {a : Int64} (h : SA g (a :: r)) : SA g r := by
  intro i hi
  have this : g (r.length + 1 - 1 - (i + 1)) = r[i] := h (i + 1) (by rw [List.length_cons]; omega)
  have e : r.length + 1 - 1 - (i + 1) = r.length - 1 - i := by omega
  rw [e] at this
  exact this
theorem SA_set {g : Nat → Int64} {r : List Int64} {a b : Int64} (h : SA g (a :: r)) : SA (vp_updL g r.length b) (b :: r) := SA_push (SA_pop h)
theorem SA_bin {g : Nat → Int64} {r : List Int64} {a b c : Int64} (h : SA g (a :: b :: r)) : SA (vp_updL g r.length c) (c :: r) := SA_push (SA_pop (SA_pop h))
theorem st_len {G : Nat → Nat × Nat} {L : Nat} {st : Nat → List Bool} (h : wt G L st) : ∀ p, p ≤ L → (st p).length ≤ p
  | 0, _ => by rw [h.1]; exact Nat.le_refl 0
  | p + 1, hp => by
    have ih := st_len h p (by omega)
    obtain ⟨w0, w1, w2, w3, w4, w5⟩ := h.2.2.2 p (by omega)
    by_cases c0 : (G p).1 = 0
    · rw [(w1 c0).1, List.length_cons]; omega
    by_cases c1 : (G p).1 = 1
    · rw [(w2 c1).1, List.length_cons]; omega
    by_cases c2 : (G p).1 = 2
    · obtain ⟨_, r, e1, e2⟩ := w3 c2
      rw [e1] at ih
      rw [e2]
      rw [List.length_cons] at ih ⊢
      omega
    by_cases c3 : (G p).1 = 3 ∨ (G p).1 = 4
    · obtain ⟨r, e1, e2, _⟩ := w4 c3
      rw [e1, List.length_cons] at ih
      rw [e2]
      omega
    · obtain ⟨_, r, e1, e2⟩ := w5 (by omega)
      rw [e1, List.length_cons, List.length_cons] at ih
      rw [e2, List.length_cons]
      omega
theorem mp_24 {s : ST} {op : Nat} {a b : Int64} {K : Int64 → ST → Prop} (h1 : 5 ≤ op) (h2 : op ≤ 12) (hz : ¬ ((op = 8 ∨ op = 9) ∧ b = 0)) (k : K (evB op a b) s) : w_24 (nI op) a b s K := by
  have hc : op = 5 ∨ op = 6 ∨ op = 7 ∨ op = 8 ∨ op = 9 ∨ op = 10 ∨ op = 11 ∨ op = 12 := by omega
  unfold w_24
  unfold evB at k
  rcases hc with e | e | e | e | e | e | e | e <;> subst e
  · exact ⟨fun z => absurd z (by decide), fun _ => k, fun z => absurd z (by decide), fun z => absurd z (by decide), fun z => absurd z (by decide), fun z => absurd z (by decide), fun z => absurd z (by decide), fun z => absurd z (by decide)⟩
  · exact ⟨fun z => absurd z (by decide), fun z => absurd z (by decide), fun _ => k, fun z => absurd z (by decide), fun z => absurd z (by decide), fun z => absurd z (by decide), fun z => absurd z (by decide), fun z => absurd z (by decide)⟩
  · exact ⟨fun z => absurd z (by decide), fun z => absurd z (by decide), fun z => absurd z (by decide), fun _ => k, fun z => absurd z (by decide), fun z => absurd z (by decide), fun z => absurd z (by decide), fun z => absurd z (by decide)⟩
  · have nb : ¬ b = 0 := fun z => hz ⟨Or.inl rfl, z⟩
    exact ⟨fun z => absurd z (by decide), fun z => absurd z (by decide), fun z => absurd z (by decide), fun z => absurd z (by decide), fun _ => br_t (fun y => nb ((lg_cmp_eq _ _).mp y)) ⟨nb, k⟩, fun z => absurd z (by decide), fun z => absurd z (by decide), fun z => absurd z (by decide)⟩
  · have nb : ¬ b = 0 := fun z => hz ⟨Or.inr rfl, z⟩
    exact ⟨fun z => absurd z (by decide), fun z => absurd z (by decide), fun z => absurd z (by decide), fun z => absurd z (by decide), fun z => absurd z (by decide), fun _ => br_t (fun y => nb ((lg_cmp_eq _ _).mp y)) ⟨nb, k⟩, fun z => absurd z (by decide), fun z => absurd z (by decide)⟩
  · refine ⟨fun z => absurd z (by decide), fun z => absurd z (by decide), fun z => absurd z (by decide), fun z => absurd z (by decide), fun z => absurd z (by decide), fun z => absurd z (by decide), fun _ => ?_, fun z => absurd z (by decide)⟩
    have k : K (if a < b then 1 else 0) s := k
    rw [lg_cmp_ge]
    by_cases d : a < b
    · rw [if_pos d] at k
      exact br_f (lg_lt_not_le d) k
    · rw [if_neg d] at k
      exact br_t (by rw [Int64.le_iff_toInt_le]; rw [Int64.lt_iff_toInt_lt] at d; omega) k
  · refine ⟨fun z => absurd z (by decide), fun z => absurd z (by decide), fun z => absurd z (by decide), fun z => absurd z (by decide), fun z => absurd z (by decide), fun z => absurd z (by decide), fun z => absurd z (by decide), fun _ => ?_⟩
    have k : K (if b < a then 1 else 0) s := k
    rw [lg_cmp_le]
    by_cases d : b < a
    · rw [if_pos d] at k
      exact br_f (lg_lt_not_le d) k
    · rw [if_neg d] at k
      exact br_t (by rw [Int64.le_iff_toInt_le]; rw [Int64.lt_iff_toInt_lt] at d; omega) k
  · refine ⟨fun _ => ?_, fun z => absurd z (by decide), fun z => absurd z (by decide), fun z => absurd z (by decide), fun z => absurd z (by decide), fun z => absurd z (by decide), fun z => absurd z (by decide), fun z => absurd z (by decide)⟩
    have k : K (if a = b then 1 else 0) s := k
    rw [lg_cmp_eq]
    by_cases d : a = b
    · rw [if_pos d] at k
      exact br_f (fun z => z d) k
    · rw [if_neg d] at k
      exact br_t d k
theorem mp_231 {s : ST} {op : Nat} {a b : Int64} {K : Int64 → ST → Prop} (h1 : 5 ≤ op) (h2 : op ≤ 12) (hz : ¬ ((op = 8 ∨ op = 9) ∧ b = 0)) (k : K (evB op a b) s) : w_231 (nI (mpo op)) a b s K := by
  have hc : op = 5 ∨ op = 6 ∨ op = 7 ∨ op = 8 ∨ op = 9 ∨ op = 10 ∨ op = 11 ∨ op = 12 := by omega
  unfold w_231
  unfold evB at k
  rcases hc with e | e | e | e | e | e | e | e <;> subst e
  · exact ⟨fun z => absurd z (by decide), fun _ => k, fun z => absurd z (by decide), fun z => absurd z (by decide), fun z => absurd z (by decide), fun z => absurd z (by decide), fun z => absurd z (by decide), fun z => absurd z (by decide)⟩
  · exact ⟨fun z => absurd z (by decide), fun z => absurd z (by decide), fun _ => k, fun z => absurd z (by decide), fun z => absurd z (by decide), fun z => absurd z (by decide), fun z => absurd z (by decide), fun z => absurd z (by decide)⟩
  · exact ⟨fun z => absurd z (by decide), fun z => absurd z (by decide), fun z => absurd z (by decide), fun _ => k, fun z => absurd z (by decide), fun z => absurd z (by decide), fun z => absurd z (by decide), fun z => absurd z (by decide)⟩
  · have nb : ¬ b = 0 := fun z => hz ⟨Or.inl rfl, z⟩
    exact ⟨fun z => absurd z (by decide), fun z => absurd z (by decide), fun z => absurd z (by decide), fun z => absurd z (by decide), fun _ => ⟨nb, k⟩, fun z => absurd z (by decide), fun z => absurd z (by decide), fun z => absurd z (by decide)⟩
  · have nb : ¬ b = 0 := fun z => hz ⟨Or.inr rfl, z⟩
    exact ⟨fun z => absurd z (by decide), fun z => absurd z (by decide), fun z => absurd z (by decide), fun z => absurd z (by decide), fun z => absurd z (by decide), fun _ => ⟨nb, k⟩, fun z => absurd z (by decide), fun z => absurd z (by decide)⟩
  · refine ⟨fun z => absurd z (by decide), fun z => absurd z (by decide), fun z => absurd z (by decide), fun z => absurd z (by decide), fun z => absurd z (by decide), fun z => absurd z (by decide), fun _ => ?_, fun z => absurd z (by decide)⟩
    have k : K (if a < b then 1 else 0) s := k
    rw [lg_cmp_ge]
    by_cases d : a < b
    · rw [if_pos d] at k
      exact br_f (lg_lt_not_le d) k
    · rw [if_neg d] at k
      exact br_t (by rw [Int64.le_iff_toInt_le]; rw [Int64.lt_iff_toInt_lt] at d; omega) k
  · refine ⟨fun z => absurd z (by decide), fun z => absurd z (by decide), fun z => absurd z (by decide), fun z => absurd z (by decide), fun z => absurd z (by decide), fun z => absurd z (by decide), fun z => absurd z (by decide), fun _ => ?_⟩
    have k : K (if b < a then 1 else 0) s := k
    rw [lg_cmp_le]
    by_cases d : b < a
    · rw [if_pos d] at k
      exact br_f (lg_lt_not_le d) k
    · rw [if_neg d] at k
      exact br_t (by rw [Int64.le_iff_toInt_le]; rw [Int64.lt_iff_toInt_lt] at d; omega) k
  · refine ⟨fun _ => ?_, fun z => absurd z (by decide), fun z => absurd z (by decide), fun z => absurd z (by decide), fun z => absurd z (by decide), fun z => absurd z (by decide), fun z => absurd z (by decide), fun z => absurd z (by decide)⟩
    have k : K (if a = b then 1 else 0) s := k
    rw [lg_cmp_eq]
    by_cases d : a = b
    · rw [if_pos d] at k
      exact br_f (fun z => z d) k
    · rw [if_neg d] at k
      exact br_t d k
theorem enc_op {v op : Nat} (h : op ≤ 12) (hv : v < 10000000) : nI (16 * v + op) &&& 15 = nI op := by
  rw [pk_andN (by omega) (m := 15) 4 rfl]
  congr 1
  omega
theorem enc_v {v op : Nat} (h : op ≤ 12) (hv : v < 10000000) : nI (16 * v + op) >>> ((4 : Int32) &&& 31) = nI v := by
  rw [pk_shrN (by omega) _ 4 rfl]
  congr 1
  omega
theorem wt_v {G : Nat → Nat × Nat} {L : Nat} {st : Nat → List Bool} {p : Nat} (hL : L ≤ 160) (h : wt1 G L st p) : (G p).2 < 10000000 := by
  obtain ⟨w0, w1, w2, w3, w4, w5⟩ := h
  by_cases c0 : (G p).1 = 0
  · exact (w1 c0).2
  by_cases c1 : (G p).1 = 1
  · have := (w2 c1).2; omega
  by_cases c2 : (G p).1 = 2
  · have := (w3 c2).1; omega
  by_cases c3 : (G p).1 = 3 ∨ (G p).1 = 4
  · obtain ⟨r, _, _, _, h4, _⟩ := w4 c3; omega
  · have := (w5 (by omega)).1; omega
theorem TS_up {T : List Bool} {S : List Int64} {a : Int64} (h : TS T S) : TS (false :: T) (a :: S) := ⟨fun z => absurd z (by decide), h⟩
theorem not01 {a : Int64} (h : a = 0 ∨ a = 1) : 1 - a = 0 ∨ 1 - a = 1 := by
  rcases h with e | e
  · subst e; exact Or.inr (by decide)
  · subst e; exact Or.inl (by decide)
theorem evB01 {op : Nat} {a b : Int64} (h : 10 ≤ op) (h2 : op ≤ 12) : evB op a b = 0 ∨ evB op a b = 1 := by
  have hc : op = 10 ∨ op = 11 ∨ op = 12 := by omega
  rcases hc with e | e | e <;> subst e
  · show (if a < b then (1 : Int64) else 0) = 0 ∨ (if a < b then (1 : Int64) else 0) = 1
    by_cases d : a < b
    · rw [if_pos d]; exact Or.inr rfl
    · rw [if_neg d]; exact Or.inl rfl
  · show (if b < a then (1 : Int64) else 0) = 0 ∨ (if b < a then (1 : Int64) else 0) = 1
    by_cases d : b < a
    · rw [if_pos d]; exact Or.inr rfl
    · rw [if_neg d]; exact Or.inl rfl
  · show (if a = b then (1 : Int64) else 0) = 0 ∨ (if a = b then (1 : Int64) else 0) = 1
    by_cases d : a = b
    · rw [if_pos d]; exact Or.inr rfl
    · rw [if_neg d]; exact Or.inl rfl
theorem TS_bin {op : Nat} {r : List Bool} {S : List Int64} {a b : Int64} (h2 : op ≤ 12) (h : TS r S) : TS (decide (10 ≤ op) :: r) (evB op a b :: S) := ⟨fun z => evB01 (of_decide_eq_true z) h2, h⟩
