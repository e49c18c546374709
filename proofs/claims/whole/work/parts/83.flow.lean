/-! ===== a flow deals a house's coins ===== -/
def xv (v : Int) (s : Nat) (F T : Nat → Nat) (p : Nat → Int) (j u : Nat) : Int := v * dl u s + ex F T p j u
theorem xv_off {v : Int} {s : Nat} {F T : Nat → Nat} {p : Nat → Int} {j u : Nat} (h1 : ¬ F j = u) (h2 : ¬ T j = u) : xv v s F T p (j + 1) u = xv v s F T p j u := by
  unfold xv; rw [ex_off h1 h2]
theorem xv_from {v : Int} {s : Nat} {F T : Nat → Nat} {p : Nat → Int} {j u : Nat} (h1 : F j = u) (h2 : ¬ T j = u) : xv v s F T p (j + 1) u = xv v s F T p j u - p j := by
  unfold xv; rw [ex_from h1 h2]; omega
theorem xv_to {v : Int} {s : Nat} {F T : Nat → Nat} {p : Nat → Int} {j u : Nat} (h1 : ¬ F j = u) (h2 : T j = u) : xv v s F T p (j + 1) u = xv v s F T p j u + p j := by
  unfold xv; rw [ex_to h1 h2]; omega
theorem xv_stay {v : Int} {s : Nat} {F T : Nat → Nat} {p : Nat → Int} {j M u : Nat} (h : j ≤ M ∧ Un F T j M u) : xv v s F T p M u = xv v s F T p j u := by
  unfold xv; rw [ex_stay h.1 h.2]
theorem xv_fin {v : Int} {s t M u : Nat} {F T : Nat → Nat} {p : Nat → Int} (h : QF M F T p v s t) (hu : ¬ u = t) : xv v s F T p M u = 0 := by
  have e := h (dl u)
  unfold xv ex
  rw [e, dl_n (fun z => hu z.symm)]
  generalize dl u s = a
  have : v * (0 - a) = -(v * a) := by rw [Int.zero_sub, Int.mul_neg]
  omega
section Fl
variable {H M : Nat} {sk : Nat → Bool} {ok : Bool} {F T : Nat → Nat} {C p : Nat → Int} {v : Int}
theorem BA_fe {cp : Nat → Int} (hp : ∀ k, k < M → 0 ≤ p k ∧ p k ≤ C k) (hf : ∀ u, ¬ u = 1 → xv v 0 F T p M u = 0) : ∀ (R : List Rw) (nd : Nat → Nat) (hs : Nat → Int) (n m : Nat) (x : Nat → Int) (y : Int), (∀ r, r ∈ R → Rv H r) → Nk H 3 nd n → (∀ u, n ≤ u → xv v 0 F T p m u = 0) → (∀ h, h < H → 0 ≤ hs h) → (∀ h, h < H → x h = xv v 0 F T p m (nd h)) → y = xv v 0 F T p m 2 → BA F T C (fun nd _ _ m => SK H sk ok nd cp 2 1 F T C M H m) R nd hs n m → Fe H sk ok R hs x y := by
  have hQ : ∀ u, ¬ u = 1 → ¬ u = 2 → ∀ (nd : Nat → Nat) (hs : Nat → Int) (n m : Nat), Nk H 3 nd n → u < n → (∀ h, h < H → ¬ nd h = u) → SK H sk ok nd cp 2 1 F T C M H m → m ≤ M ∧ Un F T m M u := by
    intro u u1 u2 nd hs n m k hn hd h
    exact SK_un (fun g hg _ => hd g hg) (fun _ z => u2 z.symm) (fun z => u1 z.symm) H m (Nat.le_refl _) h
  intro R
  induction R with
  | nil =>
    intro nd hs n m x y _ k fr hh hx hy h
    obtain ⟨k0, k1, k2⟩ := k
    refine ⟨fun g hg c => ?_, fun c => ?_⟩
    · have kg := k1 g hg
      rw [hx g hg, ← xv_stay (SK_un (u := nd g) ?_ (fun _ => by omega) (by omega) H m (Nat.le_refl _) h)]
      · exact hf _ (by omega)
      · intro f hf2 c2 z
        rw [k2 f g hf2 hg z, c] at c2
        cases c2
    · rw [hy, ← xv_stay (SK_un (u := 2) ?_ (fun z => by rw [c] at z; cases z) (by omega) H m (Nat.le_refl _) h)]
      · exact hf _ (by omega)
      · intro f hf2 _
        have := k1 f hf2
        omega
  | cons r R ih =>
    intro nd hs n m x y hr k fr hh hx hy h
    obtain ⟨q1, q2, q3, q4, _⟩ := hr r List.mem_cons_self
    have hr2 : ∀ r, r ∈ R → Rv H r := fun r h => hr r (List.mem_cons_of_mem _ h)
    obtain ⟨kd, g, o, a⟩ := r
    have q4 : 1 ≤ a := q4
    have q2 : g < H := q2
    obtain ⟨k0, k1, k2⟩ := k
    have kg := k1 g q2
    have hg := hh g q2
    have r1 := rs_nn (c := hs g) (s := a)
    have r3 := rs_own (s := a) hg
    have hup : ∀ h, h < H → ¬ uf nd g n h = nd g := by
      intro f hf
      by_cases c : f = g
      · rw [c, uf_s]; omega
      · rw [uf_n c]; exact fun z => c (k2 f g hf q2 z)
    match kd, q1 with
    | 0, _ =>
      refine ih nd _ n m x y hr2 ⟨k0, k1, k2⟩ fr (fun f hf => ?_) hx hy h
      by_cases c : f = g
      · rw [c, uf_s]; omega
      · rw [uf_n c]; exact hh f hf
    | 1, _ =>
      obtain ⟨a1, a2, a3, a4, a5, a6, h⟩ := h
      have kk := Nk_up (n := n) ⟨k0, k1, k2⟩ q2
      have u1 := BA_un (u := nd g) (M := M) (by omega) (hQ (nd g) (by omega) (by omega)) R _ _ _ _ hr2 kk (by omega) hup h
      have e0 := hf (nd g) (by omega)
      rw [xv_stay u1, xv_from (j := m + 1) a4 (by rw [a5]; omega), xv_from (j := m) a1 (by rw [a2]; omega), ← hx g q2] at e0
      have p1 := hp m (by omega)
      have p2 := hp (m + 1) (by omega)
      rw [a3] at p1
      rw [a6] at p2
      refine ⟨p m, p1.1, by omega, by omega, by omega, ih _ _ _ _ _ _ hr2 kk ?_ ?_ ?_ ?_ h⟩
      · intro u hu
        rw [xv_off (j := m + 1) (by rw [a4]; omega) (by rw [a5]; omega), xv_off (j := m) (by rw [a1]; omega) (by rw [a2]; omega)]
        exact fr u (by omega)
      · intro f hf
        by_cases c : f = g
        · rw [c, uf_s]; exact r1
        · rw [uf_n c]; exact hh f hf
      · intro f hf
        by_cases c : f = g
        · rw [c, uf_s, uf_s, xv_to (j := m + 1) (by rw [a4]; omega) a5, xv_off (j := m) (by rw [a1]; omega) (by rw [a2]; omega), fr n (by omega)]
          omega
        · have kf := k1 f hf
          have hne : ¬ nd g = nd f := fun z => c (k2 g f q2 hf z).symm
          rw [uf_n c, uf_n c, xv_off (j := m + 1) (by rw [a4]; exact hne) (by rw [a5]; omega), xv_off (j := m) (by rw [a1]; exact hne) (by rw [a2]; omega)]
          exact hx f hf
      · rw [xv_off (j := m + 1) (by rw [a4]; omega) (by rw [a5]; omega), xv_to (j := m) (by rw [a1]; omega) a2, hy]
    | 2, _ =>
      obtain ⟨a1, a2, a3, a4, a5, a6, h⟩ := h
      obtain ⟨o1, o2⟩ := q3 rfl
      have o1 : o < H := o1
      have o2 : ¬ o = g := o2
      have ko := k1 o o1
      have hgo : ¬ nd g = nd o := fun z => o2 (k2 g o q2 o1 z).symm
      have kk := Nk_up (n := n) ⟨k0, k1, k2⟩ q2
      have u1 := BA_un (u := nd g) (M := M) (by omega) (hQ (nd g) (by omega) (by omega)) R _ _ _ _ hr2 kk (by omega) hup h
      have e0 := hf (nd g) (by omega)
      rw [xv_stay u1, xv_from (j := m + 1) a4 (by rw [a5]; omega), xv_from (j := m) a1 (by rw [a2]; exact fun z => hgo z.symm), ← hx g q2] at e0
      have p1 := hp m (by omega)
      have p2 := hp (m + 1) (by omega)
      rw [a3] at p1
      rw [a6] at p2
      refine ⟨p m, p1.1, by omega, by omega, by omega, ih _ _ _ _ _ _ hr2 kk ?_ ?_ ?_ ?_ h⟩
      · intro u hu
        rw [xv_off (j := m + 1) (by rw [a4]; omega) (by rw [a5]; omega), xv_off (j := m) (by rw [a1]; omega) (by rw [a2]; omega)]
        exact fr u (by omega)
      · intro f hf
        by_cases d : f = o
        · rw [d, uf_s]; have := hh o o1; omega
        · rw [uf_n d]
          by_cases c : f = g
          · rw [c, uf_s]; exact r1
          · rw [uf_n c]; exact hh f hf
      · intro f hf
        by_cases d : f = o
        · rw [d, uf_s, uf_n o2, xv_off (j := m + 1) (by rw [a4]; exact hgo) (by rw [a5]; omega), xv_to (j := m) (by rw [a1]; exact hgo) a2, hx o o1]
        · rw [uf_n d]
          by_cases c : f = g
          · rw [c, uf_s, uf_s, xv_to (j := m + 1) (by rw [a4]; omega) a5, xv_off (j := m) (by rw [a1]; omega) (by rw [a2]; omega), fr n (by omega)]
            omega
          · have kf := k1 f hf
            have hne : ¬ nd g = nd f := fun z => c (k2 g f q2 hf z).symm
            have hne2 : ¬ nd o = nd f := fun z => d (k2 o f o1 hf z).symm
            rw [uf_n c, uf_n c, xv_off (j := m + 1) (by rw [a4]; exact hne) (by rw [a5]; omega), xv_off (j := m) (by rw [a1]; exact hne) (by rw [a2]; exact hne2)]
            exact hx f hf
      · rw [xv_off (j := m + 1) (by rw [a4]; omega) (by rw [a5]; omega), xv_off (j := m) (by rw [a1]; omega) (by rw [a2]; omega), hy]
    | 3, _ => exact ih nd hs n m x y hr2 ⟨k0, k1, k2⟩ fr hh hx hy h
theorem BB_nt {t : Nat} {Q : (Nat → Nat) → (Nat → Int) → Nat → Nat → Prop} : ∀ (R : List Rw) (nd : Nat → Nat) (hs : Nat → Int) (n m : Nat), BB F T C (fun nd hs n m => t = n ∧ Q nd hs n m) R nd hs n m → n ≤ t := by
  intro R
  induction R with
  | nil => intro nd hs n m h; have := h.1; omega
  | cons r R ih =>
    intro nd hs n m h
    obtain ⟨kd, g, o, a⟩ := r
    match kd with
    | 0 => exact ih _ _ _ _ h
    | 1 =>
      obtain ⟨a1, a2, a3, a4, a5, a6, h⟩ := h
      have := ih _ _ _ _ h
      omega
    | 2 =>
      obtain ⟨a1, a2, a3, a4, a5, a6, a7, a8, a9, h⟩ := h
      have := ih _ _ _ _ h
      omega
    | _ + 3 => exact ih _ _ _ _ h
theorem BB_fe {s t : Nat} (hp : ∀ k, k < M → 0 ≤ p k ∧ p k ≤ C k) (hf : ∀ u, ¬ u = t → xv v s F T p M u = 0) : ∀ (R : List Rw) (nd : Nat → Nat) (hs : Nat → Int) (n m : Nat) (x : Nat → Int) (y : Int), (∀ r, r ∈ R → Rv H r) → Nk H 1 nd n → (∀ u, n ≤ u → xv v s F T p m u = 0) → (∀ h, h < H → 0 ≤ hs h) → (∀ h, h < H → x h = xv v s F T p m (nd h)) → y = xv v s F T p m 0 → BB F T C (fun nd hs n m => t = n ∧ SK H sk ok nd hs 0 t F T C M H m) R nd hs n m → Fe H sk ok R hs x y ∧ n ≤ t := by
  have hQ : ∀ u, ¬ u = 0 → ∀ (nd : Nat → Nat) (hs : Nat → Int) (n m : Nat), Nk H 1 nd n → u < n → (∀ h, h < H → ¬ nd h = u) → (t = n ∧ SK H sk ok nd hs 0 t F T C M H m) → m ≤ M ∧ Un F T m M u := by
    intro u u1 nd hs n m k hn hd h
    exact SK_un (fun g hg _ => hd g hg) (fun _ z => u1 z.symm) (by omega) H m (Nat.le_refl _) h.2
  intro R
  induction R with
  | nil =>
    intro nd hs n m x y _ k fr hh hx hy h
    obtain ⟨k0, k1, k2⟩ := k
    obtain ⟨ht, h⟩ := h
    refine ⟨⟨fun g hg c => ?_, fun c => ?_⟩, by omega⟩
    · have kg := k1 g hg
      rw [hx g hg, ← xv_stay (SK_un (u := nd g) ?_ (fun _ => by omega) (by omega) H m (Nat.le_refl _) h)]
      · exact hf _ (by omega)
      · intro f hf2 c2 z
        rw [k2 f g hf2 hg z, c] at c2
        cases c2
    · rw [hy, ← xv_stay (SK_un (u := 0) ?_ (fun z => by rw [c] at z; cases z) (by omega) H m (Nat.le_refl _) h)]
      · exact hf _ (by omega)
      · intro f hf2 _
        have := k1 f hf2
        omega
  | cons r R ih =>
    intro nd hs n m x y hr k fr hh hx hy h
    obtain ⟨q1, q2, q3, q4, _⟩ := hr r List.mem_cons_self
    have hr2 : ∀ r, r ∈ R → Rv H r := fun r h => hr r (List.mem_cons_of_mem _ h)
    obtain ⟨kd, g, o, a⟩ := r
    have q4 : 1 ≤ a := q4
    have q2 : g < H := q2
    obtain ⟨k0, k1, k2⟩ := k
    have kg := k1 g q2
    have hg := hh g q2
    have r1 := rs_nn (c := hs g) (s := a)
    have hup : ∀ h, h < H → ¬ uf nd g n h = nd g := by
      intro f hf
      by_cases c : f = g
      · rw [c, uf_s]; omega
      · rw [uf_n c]; exact fun z => c (k2 f g hf q2 z)
    match kd, q1 with
    | 0, _ =>
      refine ih nd _ n m x y hr2 ⟨k0, k1, k2⟩ fr (fun f hf => ?_) hx hy h
      by_cases c : f = g
      · rw [c, uf_s]; omega
      · rw [uf_n c]; exact hh f hf
    | 1, _ =>
      obtain ⟨a1, a2, a3, a4, a5, a6, h⟩ := h
      have kk := Nk_up (n := n) ⟨k0, k1, k2⟩ q2
      have u1 := BB_un (u := nd g) (M := M) (by omega) (hQ (nd g) (by omega)) R _ _ _ _ hr2 kk (by omega) hup h
      have e1 := xv_stay (v := v) (s := s) (p := p) u1
      rw [xv_from (j := m + 1) a4 (by rw [a5]; omega), xv_from (j := m) a1 (by rw [a2]; omega), ← hx g q2] at e1
      have p1 := hp m (by omega)
      have p2 := hp (m + 1) (by omega)
      rw [a3] at p1
      rw [a6] at p2
      have key : xv v s F T p M (nd g) = 0 → (Fe H sk ok R (uf hs g (rs (hs g) a)) (uf x g (x g - p (m + 1))) (y + p (m + 1)) ∧ n + 1 ≤ t) := by
        intro e0
        rw [e0] at e1
        refine ih _ _ _ _ _ _ hr2 kk ?_ ?_ ?_ ?_ h
        · intro u hu
          rw [xv_off (j := m + 1) (by rw [a4]; omega) (by rw [a5]; omega), xv_off (j := m) (by rw [a1]; omega) (by rw [a2]; omega)]
          exact fr u (by omega)
        · intro f hf
          by_cases c : f = g
          · rw [c, uf_s]; exact r1
          · rw [uf_n c]; exact hh f hf
        · intro f hf
          by_cases c : f = g
          · rw [c, uf_s, uf_s, xv_off (j := m + 1) (by rw [a4]; omega) (by rw [a5]; omega), xv_to (j := m) (by rw [a1]; omega) a2, fr n (by omega)]
            omega
          · have kf := k1 f hf
            have hne : ¬ nd g = nd f := fun z => c (k2 g f q2 hf z).symm
            rw [uf_n c, uf_n c, xv_off (j := m + 1) (by rw [a4]; exact hne) (by rw [a5]; omega), xv_off (j := m) (by rw [a1]; exact hne) (by rw [a2]; omega)]
            exact hx f hf
        · rw [xv_to (j := m + 1) (by rw [a4]; omega) a5, xv_off (j := m) (by rw [a1]; omega) (by rw [a2]; omega), hy]
      have hnt : n + 1 ≤ t := BB_nt R _ _ _ _ h
      have e0 := hf (nd g) (by omega)
      have kz := key e0
      rw [e0] at e1
      exact ⟨⟨p (m + 1), p2.1, by omega, by omega, by omega, kz.1⟩, by omega⟩
    | 2, _ =>
      obtain ⟨a1, a2, a3, a4, a5, a6, a7, a8, a9, h⟩ := h
      obtain ⟨o1, o2⟩ := q3 rfl
      have o1 : o < H := o1
      have o2 : ¬ o = g := o2
      have ko := k1 o o1
      have hgo : ¬ nd g = nd o := fun z => o2 (k2 g o q2 o1 z).symm
      have kk := Nk_up (n := n + 1) (Nk_up (n := n) ⟨k0, k1, k2⟩ q2) o1
      have hnt : n + 2 ≤ t := BB_nt R _ _ _ _ h
      have u1 := BB_un (u := nd g) (M := M) (by omega) (hQ (nd g) (by omega)) R _ _ _ _ hr2 kk (by omega) (fun f hf => by
        by_cases d : f = o
        · rw [d, uf_s]; omega
        · rw [uf_n d]; exact hup f hf) h
      have u2 := BB_un (u := nd o) (M := M) (by omega) (hQ (nd o) (by omega)) R _ _ _ _ hr2 kk (by omega) (fun f hf => by
        by_cases d : f = o
        · rw [d, uf_s]; omega
        · rw [uf_n d]
          by_cases c : f = g
          · rw [c, uf_s]; omega
          · rw [uf_n c]; exact fun z => d (k2 f o hf o1 z)) h
      have e0 := hf (nd g) (by omega)
      rw [xv_stay u1, xv_from (j := m + 2) a7 (by rw [a8]; omega), xv_off (j := m + 1) (by rw [a4]; exact fun z => hgo z.symm) (by rw [a5]; omega), xv_from (j := m) a1 (by rw [a2]; omega), ← hx g q2] at e0
      have e2 := hf (nd o) (by omega)
      rw [xv_stay u2, xv_off (j := m + 2) (by rw [a7]; exact hgo) (by rw [a8]; omega), xv_from (j := m + 1) a4 (by rw [a5]; omega), xv_off (j := m) (by rw [a1]; exact hgo) (by rw [a2]; omega), ← hx o o1] at e2
      have p1 := hp m (by omega)
      have p2 := hp (m + 2) (by omega)
      rw [a3] at p1
      rw [a9] at p2
      have kz := ih (uf (uf nd g n) o (n + 1)) (uf (uf hs g (rs (hs g) a)) o (hs o + a)) (n + 2) (m + 3) (uf (uf x g (x g - p (m + 2))) o (x o + p (m + 2))) y hr2 kk ?_ ?_ ?_ ?_ h
      · exact ⟨⟨p (m + 2), p2.1, by omega, by omega, by omega, kz.1⟩, by omega⟩
      · intro u hu
        rw [xv_off (j := m + 2) (by rw [a7]; omega) (by rw [a8]; omega), xv_off (j := m + 1) (by rw [a4]; omega) (by rw [a5]; omega), xv_off (j := m) (by rw [a1]; omega) (by rw [a2]; omega)]
        exact fr u (by omega)
      · intro f hf
        by_cases d : f = o
        · rw [d, uf_s]; have := hh o o1; omega
        · rw [uf_n d]
          by_cases c : f = g
          · rw [c, uf_s]; exact r1
          · rw [uf_n c]; exact hh f hf
      · intro f hf
        by_cases d : f = o
        · rw [d, uf_s, uf_s, xv_to (j := m + 2) (by rw [a7]; omega) a8, xv_to (j := m + 1) (by rw [a4]; omega) a5, xv_off (j := m) (by rw [a1]; omega) (by rw [a2]; omega), fr (n + 1) (by omega)]
          omega
        · rw [uf_n d, uf_n d]
          by_cases c : f = g
          · rw [c, uf_s, uf_s, xv_off (j := m + 2) (by rw [a7]; omega) (by rw [a8]; omega), xv_off (j := m + 1) (by rw [a4]; omega) (by rw [a5]; omega), xv_to (j := m) (by rw [a1]; omega) a2, fr n (by omega)]
            omega
          · have kf := k1 f hf
            have hne : ¬ nd g = nd f := fun z => c (k2 g f q2 hf z).symm
            have hne2 : ¬ nd o = nd f := fun z => d (k2 o f o1 hf z).symm
            rw [uf_n c, uf_n c, xv_off (j := m + 2) (by rw [a7]; exact hne) (by rw [a8]; omega), xv_off (j := m + 1) (by rw [a4]; exact hne2) (by rw [a5]; omega), xv_off (j := m) (by rw [a1]; exact hne) (by rw [a2]; omega)]
            exact hx f hf
      · rw [xv_off (j := m + 2) (by rw [a7]; omega) (by rw [a8]; omega), xv_off (j := m + 1) (by rw [a4]; omega) (by rw [a5]; omega), xv_off (j := m) (by rw [a1]; omega) (by rw [a2]; omega), hy]
    | 3, _ => exact ih nd hs n m x y hr2 ⟨k0, k1, k2⟩ fr hh hx hy h
end Fl
