/-! ===== a flow deals a house's coins; a dealing is within each cut ===== -/
theorem rs_nn {c s : Int} : 0 ≤ rs c s := by unfold rs; split <;> omega
theorem rs_le {c s : Int} (hc : 0 ≤ c) (hs : 0 ≤ s) : rs c s ≤ c := by unfold rs; split <;> omega
theorem rs_own {c s : Int} (hc : 0 ≤ c) : c - rs c s ≤ s := by unfold rs; split <;> omega
/-- the nodes of the houses: below n, apart, none of those kept -/
def Nk (H : Nat) (b : Nat) (nd : Nat → Nat) (n : Nat) : Prop := b ≤ n ∧ (∀ h, h < H → b ≤ nd h ∧ nd h < n) ∧ (∀ h g, h < H → g < H → nd h = nd g → h = g)
theorem Nk_up {H b n h : Nat} {nd : Nat → Nat} (k : Nk H b nd n) (hh : h < H) : Nk H b (uf nd h n) (n + 1) := by
  obtain ⟨k0, k1, k2⟩ := k
  refine ⟨by omega, fun g hg => ?_, fun g f hg hf e => ?_⟩
  · by_cases c : g = h
    · rw [c, uf_s]; omega
    · rw [uf_n c]; have := k1 g hg; omega
  · by_cases c : g = h <;> by_cases d : f = h
    · omega
    · rw [c, uf_s, uf_n d] at e; have := k1 f hf; omega
    · rw [d, uf_s, uf_n c] at e; have := k1 g hg; omega
    · rw [uf_n c, uf_n d] at e; exact k2 g f hg hf e
/-- no edge from m on touches u -/
def Un (F T : Nat → Nat) (m M u : Nat) : Prop := ∀ k, m ≤ k → k < M → ¬ F k = u ∧ ¬ T k = u
theorem Un_1 {F T : Nat → Nat} {m M u : Nat} (h : Un F T (m + 1) M u) (h1 : ¬ F m = u) (h2 : ¬ T m = u) : Un F T m M u := by
  intro k a b
  by_cases c : k = m
  · rw [c]; exact ⟨h1, h2⟩
  · exact h k (by omega) b
theorem SK_un {H : Nat} {sk : Nat → Bool} {ok : Bool} {nd : Nat → Nat} {cp : Nat → Int} {ou t u M : Nat} {F T : Nat → Nat} {C : Nat → Int} (hn : ∀ h, h < H → sk h = true → ¬ nd h = u) (ho : ok = true → ¬ ou = u) (ht : ¬ t = u) : ∀ (j m : Nat), j ≤ H → SK H sk ok nd cp ou t F T C M j m → m ≤ M ∧ Un F T m M u := by
  intro j
  induction j with
  | zero =>
    intro m _ h
    cases c : ok with
    | true =>
      obtain ⟨a1, a2, _, a4⟩ := h.1 c
      exact ⟨by omega, fun k h1 h2 => by rw [show k = m by omega, a1, a2]; exact ⟨ho c, ht⟩⟩
    | false =>
      have := h.2 c
      exact ⟨by omega, fun k h1 h2 => absurd h2 (by omega)⟩
  | succ j ih =>
    intro m hj h
    cases c : sk (H - (j + 1)) with
    | true =>
      obtain ⟨a1, a2, _, a4⟩ := h.1 c
      obtain ⟨b1, b2⟩ := ih (m + 1) (by omega) a4
      exact ⟨by omega, Un_1 b2 (by rw [a1]; exact hn _ (by omega) c) (by rw [a2]; exact ht)⟩
    | false => exact ih m (by omega) (h.2 c)
/-- the end by edges of worth: those who may end there -/
theorem SK_cut {H : Nat} {sk : Nat → Bool} {ok : Bool} {nd : Nat → Nat} {cp x : Nat → Int} {y : Int} {ou t M : Nat} {F T : Nat → Nat} {C : Nat → Int} {c : Nat → Bool} (hx : ∀ h, h < H → 0 ≤ x h ∧ x h ≤ cp h) (hy : y ≤ 1000000000) (h0 : ∀ h, h < H → sk h = false → x h = 0) (hy0 : ok = false → y = 0) (hc : c t = false) : ∀ (j m : Nat), j ≤ H → SK H sk ok nd cp ou t F T C M j m → zs m (crs F T C c) + (zs H (fun h => if c (nd h) = true then x h else 0) - zs (H - j) (fun h => if c (nd h) = true then x h else 0)) + (if c ou = true then y else 0) ≤ zs M (crs F T C c) := by
  intro j
  induction j with
  | zero =>
    intro m _ h
    rw [show H - 0 = H from rfl]
    cases d : ok with
    | true =>
      obtain ⟨a1, a2, a3, a4⟩ := h.1 d
      rw [a4]
      show _ ≤ zs m _ + crs F T C c m
      unfold crs
      rw [a1, a2, a3, hc]
      cases c ou <;> simp <;> omega
    | false =>
      rw [h.2 d, hy0 d]
      simp
  | succ j ih =>
    intro m hj h
    have e : zs (H - j) (fun h => if c (nd h) = true then x h else 0) = zs (H - (j + 1)) (fun h => if c (nd h) = true then x h else 0) + (if c (nd (H - (j + 1))) = true then x (H - (j + 1)) else 0) := by
      rw [show H - j = (H - (j + 1)) + 1 by omega]
      rfl
    have hx1 := hx (H - (j + 1)) (by omega)
    cases d : sk (H - (j + 1)) with
    | true =>
      obtain ⟨a1, a2, a3, a4⟩ := h.1 d
      have h1 := ih (m + 1) (by omega) a4
      have e2 : zs (m + 1) (crs F T C c) = zs m (crs F T C c) + (if c (nd (H - (j + 1))) = true then cp (H - (j + 1)) else 0) := by
        show zs m _ + crs F T C c m = _
        unfold crs
        rw [a1, a2, a3, hc]
        simp
      rw [e2, e] at h1
      split at h1 <;> omega
    | false =>
      have h1 := ih m (by omega) (h.2 d)
      have h2 := h0 _ (by omega) d
      rw [e, h2] at h1
      simp only [ite_self] at h1
      omega
theorem BA_un {H u M : Nat} {F T : Nat → Nat} {C : Nat → Int} {Q : (Nat → Nat) → (Nat → Int) → Nat → Nat → Prop} (hu : ¬ u = 2) (hQ : ∀ nd hs n m, Nk H 3 nd n → u < n → (∀ h, h < H → ¬ nd h = u) → Q nd hs n m → m ≤ M ∧ Un F T m M u) : ∀ (R : List Rw) (nd : Nat → Nat) (hs : Nat → Int) (n m : Nat), (∀ r, r ∈ R → Rv H r) → Nk H 3 nd n → u < n → (∀ h, h < H → ¬ nd h = u) → BA F T C Q R nd hs n m → m ≤ M ∧ Un F T m M u := by
  intro R
  induction R with
  | nil => intro nd hs n m _ k hn hd h; exact hQ nd hs n m k hn hd h
  | cons r R ih =>
    intro nd hs n m hr k hn hd h
    obtain ⟨q1, q2, q3, _⟩ := hr r List.mem_cons_self
    have hr2 : ∀ r, r ∈ R → Rv H r := fun r h => hr r (List.mem_cons_of_mem _ h)
    obtain ⟨kd, g, o, x⟩ := r
    have hup : ∀ h, h < H → ¬ uf nd g n h = u := by
      intro f hf
      by_cases c : f = g
      · rw [c, uf_s]; omega
      · rw [uf_n c]; exact hd f hf
    match kd, q1 with
    | 0, _ => exact ih _ _ _ _ hr2 k hn hd h
    | 1, _ =>
      obtain ⟨a1, a2, _, a4, a5, _, h⟩ := h
      obtain ⟨b1, b2⟩ := ih _ _ _ _ hr2 (Nk_up k q2) (by omega) hup h
      refine ⟨by omega, Un_1 (Un_1 b2 ?_ ?_) ?_ ?_⟩
      · rw [a4]; exact hd g q2
      · rw [a5]; omega
      · rw [a1]; exact hd g q2
      · rw [a2]; omega
    | 2, _ =>
      obtain ⟨a1, a2, _, a4, a5, _, h⟩ := h
      obtain ⟨b1, b2⟩ := ih _ _ _ _ hr2 (Nk_up k q2) (by omega) hup h
      refine ⟨by omega, Un_1 (Un_1 b2 ?_ ?_) ?_ ?_⟩
      · rw [a4]; exact hd g q2
      · rw [a5]; omega
      · rw [a1]; exact hd g q2
      · rw [a2]; exact hd o (q3 rfl).1
    | 3, _ => exact ih _ _ _ _ hr2 k hn hd h
theorem BB_un {H u M : Nat} {F T : Nat → Nat} {C : Nat → Int} {Q : (Nat → Nat) → (Nat → Int) → Nat → Nat → Prop} (hu : ¬ u = 0) (hQ : ∀ nd hs n m, Nk H 1 nd n → u < n → (∀ h, h < H → ¬ nd h = u) → Q nd hs n m → m ≤ M ∧ Un F T m M u) : ∀ (R : List Rw) (nd : Nat → Nat) (hs : Nat → Int) (n m : Nat), (∀ r, r ∈ R → Rv H r) → Nk H 1 nd n → u < n → (∀ h, h < H → ¬ nd h = u) → BB F T C Q R nd hs n m → m ≤ M ∧ Un F T m M u := by
  intro R
  induction R with
  | nil => intro nd hs n m _ k hn hd h; exact hQ nd hs n m k hn hd h
  | cons r R ih =>
    intro nd hs n m hr k hn hd h
    obtain ⟨q1, q2, q3, _⟩ := hr r List.mem_cons_self
    have hr2 : ∀ r, r ∈ R → Rv H r := fun r h => hr r (List.mem_cons_of_mem _ h)
    obtain ⟨kd, g, o, x⟩ := r
    have hup : ∀ h, h < H → ¬ uf nd g n h = u := by
      intro f hf
      by_cases c : f = g
      · rw [c, uf_s]; omega
      · rw [uf_n c]; exact hd f hf
    match kd, q1 with
    | 0, _ => exact ih _ _ _ _ hr2 k hn hd h
    | 1, _ =>
      obtain ⟨a1, a2, _, a4, a5, _, h⟩ := h
      obtain ⟨b1, b2⟩ := ih _ _ _ _ hr2 (Nk_up k q2) (by omega) hup h
      refine ⟨by omega, Un_1 (Un_1 b2 ?_ ?_) ?_ ?_⟩
      · rw [a4]; exact hd g q2
      · rw [a5]; omega
      · rw [a1]; exact hd g q2
      · rw [a2]; omega
    | 2, _ =>
      obtain ⟨a1, a2, _, a4, a5, _, a7, a8, _, h⟩ := h
      have hup2 : ∀ h, h < H → ¬ uf (uf nd g n) o (n + 1) h = u := by
        intro f hf
        by_cases c : f = o
        · rw [c, uf_s]; omega
        · rw [uf_n c]; exact hup f hf
      obtain ⟨b1, b2⟩ := ih _ _ _ _ hr2 (Nk_up (Nk_up k q2) (q3 rfl).1) (by omega) hup2 h
      refine ⟨by omega, Un_1 (Un_1 (Un_1 b2 ?_ ?_) ?_ ?_) ?_ ?_⟩
      · rw [a7]; exact hd g q2
      · rw [a8]; omega
      · rw [a4]; exact hd o (q3 rfl).1
      · rw [a5]; omega
      · rw [a1]; exact hd g q2
      · rw [a2]; omega
    | 3, _ => exact ih _ _ _ _ hr2 k hn hd h
