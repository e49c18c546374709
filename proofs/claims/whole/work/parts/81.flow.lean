/-! ===== flows: sums over edges, conservation by potentials, cuts ===== -/
def zs : Nat → (Nat → Int) → Int
  | 0, _ => 0
  | n + 1, f => zs n f + f n
theorem zs_ext {f g : Nat → Int} : ∀ n : Nat, (∀ k, k < n → f k = g k) → zs n f = zs n g
  | 0, _ => rfl
  | n + 1, h => by
    show zs n f + f n = zs n g + g n
    rw [zs_ext n (fun k hk => h k (by omega)), h n (by omega)]
theorem zs_le {f g : Nat → Int} : ∀ n : Nat, (∀ k, k < n → f k ≤ g k) → zs n f ≤ zs n g
  | 0, _ => Int.le_refl _
  | n + 1, h => by
    show zs n f + f n ≤ zs n g + g n
    have h1 := zs_le n (fun k hk => h k (by omega))
    have h2 := h n (by omega)
    omega
theorem zs_z {f : Nat → Int} (n : Nat) (h : ∀ k, k < n → f k = 0) : zs n f = 0 := by
  induction n with
  | zero => rfl
  | succ n ih =>
    show zs n f + f n = 0
    rw [ih (fun k hk => h k (by omega)), h n (by omega)]
    rfl
theorem zs_nn {f : Nat → Int} (n : Nat) (h : ∀ k, k < n → 0 ≤ f k) : 0 ≤ zs n f := by
  have := zs_le (f := fun _ => 0) n h
  rw [zs_z n (fun _ _ => rfl)] at this
  exact this
def uf {α : Type} (f : Nat → α) (k : Nat) (v : α) : Nat → α := fun j => if j = k then v else f j
theorem uf_s {α : Type} {f : Nat → α} {k : Nat} {v : α} : uf f k v k = v := if_pos rfl
theorem uf_n {α : Type} {f : Nat → α} {k j : Nat} {v : α} (h : ¬ j = k) : uf f k v j = f j := if_neg h
theorem zs_one {f g : Nat → Int} {k : Nat} : ∀ n : Nat, k < n → (∀ j, j < n → ¬ j = k → f j = g j) → zs n f = zs n g - g k + f k
  | 0, h, _ => absurd h (by omega)
  | n + 1, h, e => by
    show zs n f + f n = zs n g + g n - g k + f k
    by_cases c : k = n
    · subst c
      rw [zs_ext k (fun j hj => e j (by omega) (by omega))]
      omega
    · rw [zs_one n (by omega) (fun j hj => e j (by omega)), e n (by omega) (by omega)]
      omega
theorem zs_two {f g : Nat → Int} {k l : Nat} {n : Nat} (hk : k < n) (hl : l < n) (kl : ¬ k = l) (e : ∀ j, j < n → ¬ j = k → ¬ j = l → f j = g j) : zs n f = zs n g - g k + f k - g l + f l := by
  have h1 := zs_one (f := f) (g := uf f k (g k)) n hk (fun j _ hj => by rw [uf_n hj])
  have h2 := zs_one (f := uf f k (g k)) (g := g) n hl (fun j hj hjl => by
    by_cases c : j = k
    · rw [c, uf_s]
    · rw [uf_n c]; exact e j hj c hjl)
  rw [uf_s] at h1
  rw [uf_n (fun z => kl z.symm)] at h2
  omega
theorem zs_ge {f : Nat → Int} {m : Nat} : ∀ M : Nat, m ≤ M → (∀ k, m ≤ k → k < M → f k = 0) → zs M f = zs m f
  | 0, h, _ => by rw [show m = 0 by omega]
  | M + 1, h, e => by
    by_cases c : m = M + 1
    · rw [c]
    · show zs M f + f M = _
      rw [zs_ge M (by omega) (fun k h1 h2 => e k h1 (by omega)), e M (by omega) (by omega)]
      omega
/-- what flow p carries up by the potential q -/
def pot (m : Nat) (F T : Nat → Nat) (p : Nat → Int) (q : Nat → Int) : Int := zs m (fun k => p k * (q (T k) - q (F k)))
/-- p is a flow of worth v from s to t -/
def QF (m : Nat) (F T : Nat → Nat) (p : Nat → Int) (v : Int) (s t : Nat) : Prop := ∀ q : Nat → Int, pot m F T p q = v * (q t - q s)
def dl (u : Nat) (w : Nat) : Int := if w = u then 1 else 0
theorem dl_s {u : Nat} : dl u u = 1 := if_pos rfl
theorem dl_n {u w : Nat} (h : ¬ w = u) : dl u w = 0 := if_neg h
/-- what has come to u and stays, by the first j edges -/
def ex (F T : Nat → Nat) (p : Nat → Int) (j u : Nat) : Int := pot j F T p (dl u)
theorem ex_succ {F T : Nat → Nat} {p : Nat → Int} {j u : Nat} : ex F T p (j + 1) u = ex F T p j u + p j * (dl u (T j) - dl u (F j)) := rfl
theorem ex_off {F T : Nat → Nat} {p : Nat → Int} {j u : Nat} (h1 : ¬ F j = u) (h2 : ¬ T j = u) : ex F T p (j + 1) u = ex F T p j u := by
  rw [ex_succ, dl_n h1, dl_n h2]
  omega
theorem ex_from {F T : Nat → Nat} {p : Nat → Int} {j u : Nat} (h1 : F j = u) (h2 : ¬ T j = u) : ex F T p (j + 1) u = ex F T p j u - p j := by
  rw [ex_succ, h1, dl_s, dl_n h2]
  omega
theorem ex_to {F T : Nat → Nat} {p : Nat → Int} {j u : Nat} (h1 : ¬ F j = u) (h2 : T j = u) : ex F T p (j + 1) u = ex F T p j u + p j := by
  rw [ex_succ, h2, dl_s, dl_n h1]
  omega
theorem ex_stay {F T : Nat → Nat} {p : Nat → Int} {j M u : Nat} (h : j ≤ M) (e : ∀ k, j ≤ k → k < M → ¬ F k = u ∧ ¬ T k = u) : ex F T p M u = ex F T p j u := by
  refine zs_ge M h (fun k h1 h2 => ?_)
  obtain ⟨e1, e2⟩ := e k h1 h2
  show p k * (dl u (T k) - dl u (F k)) = 0
  rw [dl_n e1, dl_n e2]
  omega
/-- what a cut lets through -/
def crs (F T : Nat → Nat) (C : Nat → Int) (c : Nat → Bool) (k : Nat) : Int := if c (F k) = true ∧ c (T k) = false then C k else 0
theorem cut_full {m s t : Nat} {F T : Nat → Nat} {C p : Nat → Int} {v : Int} {c : Nat → Bool} (h : QF m F T p v s t) (hs : c s = true) (ht : c t = false) (h1 : ∀ k, k < m → c (F k) = true → c (T k) = false → p k = C k) (h2 : ∀ k, k < m → c (F k) = false → c (T k) = true → p k = 0) : v = zs m (crs F T C c) := by
  have e := h (fun u => if c u = true then 0 else 1)
  unfold pot at e
  simp only [hs, ht, if_true, Bool.false_eq_true, if_false] at e
  rw [show v * (1 - 0) = v by omega] at e
  rw [← e]
  refine zs_ext m (fun k hk => ?_)
  have h1 := h1 k hk
  have h2 := h2 k hk
  unfold crs
  cases a : c (F k) <;> cases b : c (T k)
  · simp
  · have := h2 a b; simp [this]
  · have := h1 a b; simp [this]
  · simp
/-! ===== what can become of a house's coins, row by row ===== -/
def rs (c s : Int) : Int := if c < s then 0 else c - s
abbrev Rw := Nat × Nat × Nat × Int
def Fe (H : Nat) (sk : Nat → Bool) (ok : Bool) : List Rw → (Nat → Int) → (Nat → Int) → Int → Prop
  | [], _, x, y => (∀ h, h < H → sk h = false → x h = 0) ∧ (ok = false → y = 0)
  | (0, h, _, s) :: R, hs, x, y => Fe H sk ok R (uf hs h (hs h + s)) x y
  | (1, h, _, s) :: R, hs, x, y => ∃ p, 0 ≤ p ∧ p ≤ s ∧ 0 ≤ x h - p ∧ x h - p ≤ rs (hs h) s ∧ Fe H sk ok R (uf hs h (rs (hs h) s)) (uf x h (x h - p)) (y + p)
  | (2, h, o, s) :: R, hs, x, y => ∃ p, 0 ≤ p ∧ p ≤ s ∧ 0 ≤ x h - p ∧ x h - p ≤ rs (hs h) s ∧ Fe H sk ok R (uf (uf hs h (rs (hs h) s)) o (hs o + s)) (uf (uf x h (x h - p)) o (x o + p)) y
  | (_ + 3, _, _, _) :: R, hs, x, y => Fe H sk ok R hs x y
def Rv (H : Nat) (r : Rw) : Prop := r.1 ≤ 3 ∧ (r.2.1 < H ∧ (r.1 = 2 → r.2.2.1 < H ∧ ¬ r.2.2.1 = r.2.1) ∧ 1 ≤ r.2.2.2 ∧ r.2.2.2 ≤ 1000000)
/-- the edges behind the rows: to the end -/
def SK (H : Nat) (sk : Nat → Bool) (ok : Bool) (nd : Nat → Nat) (cp : Nat → Int) (ou t : Nat) (F T : Nat → Nat) (C : Nat → Int) (M : Nat) : Nat → Nat → Prop
  | 0, m => (ok = true → F m = ou ∧ T m = t ∧ C m = 1000000000 ∧ M = m + 1) ∧ (ok = false → M = m)
  | j + 1, m => (sk (H - (j + 1)) = true → F m = nd (H - (j + 1)) ∧ T m = t ∧ C m = cp (H - (j + 1)) ∧ SK H sk ok nd cp ou t F T C M j (m + 1)) ∧ (sk (H - (j + 1)) = false → SK H sk ok nd cp ou t F T C M j m)
/-- the class's edges of the rows; Q of what is there behind them -/
def BA (F T : Nat → Nat) (C : Nat → Int) (Q : (Nat → Nat) → (Nat → Int) → Nat → Nat → Prop) : List Rw → (Nat → Nat) → (Nat → Int) → Nat → Nat → Prop
  | [], nd, hs, n, m => Q nd hs n m
  | (0, h, _, s) :: R, nd, hs, n, m => BA F T C Q R nd (uf hs h (hs h + s)) n m
  | (1, h, _, s) :: R, nd, hs, n, m => F m = nd h ∧ T m = 2 ∧ C m = hs h - rs (hs h) s ∧ F (m + 1) = nd h ∧ T (m + 1) = n ∧ C (m + 1) = rs (hs h) s ∧ BA F T C Q R (uf nd h n) (uf hs h (rs (hs h) s)) (n + 1) (m + 2)
  | (2, h, o, s) :: R, nd, hs, n, m => F m = nd h ∧ T m = nd o ∧ C m = hs h - rs (hs h) s ∧ F (m + 1) = nd h ∧ T (m + 1) = n ∧ C (m + 1) = rs (hs h) s ∧ BA F T C Q R (uf nd h n) (uf (uf hs h (rs (hs h) s)) o (hs o + s)) (n + 1) (m + 2)
  | (_ + 3, _, _, _) :: R, nd, hs, n, m => BA F T C Q R nd hs n m
/-- the reference's -/
def BB (F T : Nat → Nat) (C : Nat → Int) (Q : (Nat → Nat) → (Nat → Int) → Nat → Nat → Prop) : List Rw → (Nat → Nat) → (Nat → Int) → Nat → Nat → Prop
  | [], nd, hs, n, m => Q nd hs n m
  | (0, h, _, s) :: R, nd, hs, n, m => BB F T C Q R nd (uf hs h (hs h + s)) n m
  | (1, h, _, s) :: R, nd, hs, n, m => F m = nd h ∧ T m = n ∧ C m = rs (hs h) s ∧ F (m + 1) = nd h ∧ T (m + 1) = 0 ∧ C (m + 1) = s ∧ BB F T C Q R (uf nd h n) (uf hs h (rs (hs h) s)) (n + 1) (m + 2)
  | (2, h, o, s) :: R, nd, hs, n, m => F m = nd h ∧ T m = n ∧ C m = rs (hs h) s ∧ F (m + 1) = nd o ∧ T (m + 1) = n + 1 ∧ C (m + 1) = hs o ∧ F (m + 2) = nd h ∧ T (m + 2) = n + 1 ∧ C (m + 2) = s ∧ BB F T C Q R (uf (uf nd h n) o (n + 1)) (uf (uf hs h (rs (hs h) s)) o (hs o + s)) (n + 2) (m + 3)
  | (_ + 3, _, _, _) :: R, nd, hs, n, m => BB F T C Q R nd hs n m
