/-! ===== a dealing is within each cut; so both nets have one greatest flow ===== -/
def bI (b : Bool) (x : Int) : Int := if b = true then x else 0
theorem bI_t {x : Int} : bI true x = x := if_pos rfl
theorem bI_f {x : Int} : bI false x = 0 := if_neg (by decide)
section Cu
variable {H M : Nat} {sk : Nat → Bool} {ok : Bool} {F T : Nat → Nat} {C : Nat → Int} {c : Nat → Bool} {v : Int}
theorem crs_b {k a b : Nat} {x : Int} (h1 : F k = a) (h2 : T k = b) (h3 : C k = x) : crs F T C c k = bI (c a && !c b) x := by
  unfold crs bI
  rw [h1, h2, h3]
  cases c a <;> cases c b <;> simp
def psi (H : Nat) (c : Nat → Bool) (nd : Nat → Nat) (x : Nat → Int) : Int := zs H (fun h => bI (c (nd h)) (x h))
theorem psi_1 {nd nd1 : Nat → Nat} {x x1 : Nat → Int} {g : Nat} (hg : g < H) (e : ∀ f, f < H → ¬ f = g → nd1 f = nd f ∧ x1 f = x f) : psi H c nd1 x1 = psi H c nd x - bI (c (nd g)) (x g) + bI (c (nd1 g)) (x1 g) := by
  unfold psi
  exact zs_one H hg (fun f hf hn => by obtain ⟨e1, e2⟩ := e f hf hn; show bI _ _ = bI _ _; rw [e1, e2])
theorem psi_2 {nd nd1 : Nat → Nat} {x x1 : Nat → Int} {g o : Nat} (hg : g < H) (ho : o < H) (go : ¬ g = o) (e : ∀ f, f < H → ¬ f = g → ¬ f = o → nd1 f = nd f ∧ x1 f = x f) : psi H c nd1 x1 = psi H c nd x - bI (c (nd g)) (x g) + bI (c (nd1 g)) (x1 g) - bI (c (nd o)) (x o) + bI (c (nd1 o)) (x1 o) := by
  unfold psi
  exact zs_two hg ho go (fun f hf h1 h2 => by obtain ⟨e1, e2⟩ := e f hf h1 h2; show bI _ _ = bI _ _; rw [e1, e2])
theorem SK_cut2 {nd : Nat → Nat} {cp x : Nat → Int} {y : Int} {ou t m : Nat} (hx : ∀ h, h < H → 0 ≤ x h ∧ x h ≤ cp h) (hy : y ≤ 1000000000) (h0 : ∀ h, h < H → sk h = false → x h = 0) (hy0 : ok = false → y = 0) (hc : c t = false) (h : SK H sk ok nd cp ou t F T C M H m) : zs m (crs F T C c) + psi H c nd x + bI (c ou) y ≤ zs M (crs F T C c) := by
  have := SK_cut (c := c) hx hy h0 hy0 hc H m (Nat.le_refl _) h
  rw [Nat.sub_self] at this
  unfold psi bI
  have e0 : zs 0 (fun h => if c (nd h) = true then x h else 0) = 0 := rfl
  rw [e0] at this
  omega
theorem rs_c {a s : Int} : (a < s ∧ rs a s = 0) ∨ (s ≤ a ∧ rs a s = a - s) := by
  unfold rs
  by_cases c : a < s
  · left; exact ⟨c, if_pos c⟩
  · right; exact ⟨by omega, if_neg c⟩
theorem BA_cut (hc : c 1 = false) : ∀ (R : List Rw) (nd : Nat → Nat) (hs : Nat → Int) (n m : Nat) (x : Nat → Int) (y : Int), (∀ r, r ∈ R → Rv H r) → (∀ h, h < H → 0 ≤ x h ∧ x h ≤ hs h ∧ hs h + 1000000 * (R.length : Int) ≤ 1000000000) → y + 1000000 * (R.length : Int) ≤ 1000000000 → Fe H sk ok R hs x y → v ≤ zs m (crs F T C c) + psi H c nd x + bI (c 2) y → BA F T C (fun nd _ _ m => SK H sk ok nd (fun _ => 1000000000) 2 1 F T C M H m) R nd hs n m → v ≤ zs M (crs F T C c) := by
  intro R
  induction R with
  | nil =>
    intro nd hs n m x y _ hx hy fe hv h
    have := SK_cut2 (c := c) (x := x) (y := y) (fun g hg => by obtain ⟨z1, z2, z3⟩ := hx g hg; rw [List.length_nil] at z3; omega) (by rw [List.length_nil] at hy; omega) fe.1 fe.2 hc h
    omega
  | cons r R ih =>
    intro nd hs n m x y hr hx hy fe hv h
    obtain ⟨q1, q2, q3, q4, q5⟩ := hr r List.mem_cons_self
    have hr2 : ∀ r, r ∈ R → Rv H r := fun r h => hr r (List.mem_cons_of_mem _ h)
    obtain ⟨kd, g, o, a⟩ := r
    have q4 : 1 ≤ a := q4
    have q5 : a ≤ 1000000 := q5
    have q2 : g < H := q2
    rw [List.length_cons] at hy
    have hL : ((R.length + 1 : Nat) : Int) = (R.length : Int) + 1 := by omega
    rw [hL] at hy
    have hw : ∀ h, h < H → 0 ≤ x h ∧ x h ≤ hs h ∧ hs h + 1000000 * ((R.length : Int) + 1) ≤ 1000000000 := fun f hf => by
      have := hx f hf
      rw [List.length_cons, hL] at this
      exact this
    have hg := hw g q2
    have rc := rs_c (a := hs g) (s := a)
    match kd, q1 with
    | 0, _ =>
      refine ih nd _ n m x y hr2 (fun f hf => ?_) (by omega) fe hv h
      have := hw f hf
      by_cases d : f = g
      · rw [d, uf_s]; rw [d] at this; omega
      · rw [uf_n d]; omega
    | 1, _ =>
      obtain ⟨a1, a2, a3, a4, a5, a6, h⟩ := h
      obtain ⟨p, p1, p2, p3, p4, fe⟩ := fe
      refine ih _ _ _ _ _ _ hr2 (fun f hf => ?_) (by omega) fe ?_ h
      · have := hw f hf
        by_cases d : f = g
        · rw [d, uf_s, uf_s]; omega
        · rw [uf_n d, uf_n d]; omega
      · rw [psi_1 (nd := nd) (x := x) q2 (fun f hf d => ⟨uf_n d, uf_n d⟩), uf_s, uf_s]
        show v ≤ zs m _ + crs F T C c m + crs F T C c (m + 1) + _ + _
        rw [crs_b a1 a2 a3, crs_b a4 a5 a6]
        revert hv
        cases c (nd g) <;> cases c n <;> cases c 2 <;> simp only [bI_t, bI_f, Bool.not_true, Bool.not_false, Bool.and_true, Bool.and_false] <;> omega
    | 2, _ =>
      obtain ⟨a1, a2, a3, a4, a5, a6, h⟩ := h
      obtain ⟨p, p1, p2, p3, p4, fe⟩ := fe
      obtain ⟨o1, o2⟩ := q3 rfl
      have o1 : o < H := o1
      have o2 : ¬ o = g := o2
      have ho := hw o o1
      refine ih _ _ _ _ _ _ hr2 (fun f hf => ?_) (by omega) fe ?_ h
      · have := hw f hf
        by_cases d : f = o
        · rw [d, uf_s, uf_s]; omega
        · rw [uf_n d, uf_n d]
          by_cases d : f = g
          · rw [d, uf_s, uf_s]; omega
          · rw [uf_n d, uf_n d]; omega
      · rw [psi_2 (nd := nd) (x := x) q2 o1 (fun z => o2 z.symm) (fun f hf d d2 => ⟨uf_n d, by rw [uf_n d2, uf_n d]⟩), uf_s, uf_s, uf_n (fun z => o2 z.symm), uf_s, uf_n o2]
        show v ≤ zs m _ + crs F T C c m + crs F T C c (m + 1) + _ + _
        rw [crs_b a1 a2 a3, crs_b a4 a5 a6]
        revert hv
        cases c (nd g) <;> cases c n <;> cases c (nd o) <;> simp only [bI_t, bI_f, Bool.not_true, Bool.not_false, Bool.and_true, Bool.and_false] <;> omega
    | 3, _ => exact ih nd hs n m x y hr2 (fun f hf => by have := hw f hf; omega) (by omega) fe hv h
theorem BB_cut {t : Nat} (hc : c t = false) : ∀ (R : List Rw) (nd : Nat → Nat) (hs : Nat → Int) (n m : Nat) (x : Nat → Int) (y : Int), (∀ r, r ∈ R → Rv H r) → (∀ h, h < H → 0 ≤ x h ∧ x h ≤ hs h) → y + 1000000 * (R.length : Int) ≤ 1000000000 → Fe H sk ok R hs x y → v ≤ zs m (crs F T C c) + psi H c nd x + bI (c 0) y → BB F T C (fun nd hs n m => t = n ∧ SK H sk ok nd hs 0 t F T C M H m) R nd hs n m → v ≤ zs M (crs F T C c) := by
  intro R
  induction R with
  | nil =>
    intro nd hs n m x y _ hx hy fe hv h
    have := SK_cut2 (c := c) (x := x) (y := y) hx (by rw [List.length_nil] at hy; omega) fe.1 fe.2 hc h.2
    omega
  | cons r R ih =>
    intro nd hs n m x y hr hx hy fe hv h
    obtain ⟨q1, q2, q3, q4, q5⟩ := hr r List.mem_cons_self
    have hr2 : ∀ r, r ∈ R → Rv H r := fun r h => hr r (List.mem_cons_of_mem _ h)
    obtain ⟨kd, g, o, a⟩ := r
    have q4 : 1 ≤ a := q4
    have q5 : a ≤ 1000000 := q5
    have q2 : g < H := q2
    rw [List.length_cons] at hy
    have hL : ((R.length + 1 : Nat) : Int) = (R.length : Int) + 1 := by omega
    rw [hL] at hy
    have hg := hx g q2
    have rc := rs_c (a := hs g) (s := a)
    match kd, q1 with
    | 0, _ =>
      refine ih nd _ n m x y hr2 (fun f hf => ?_) (by omega) fe hv h
      have := hx f hf
      by_cases d : f = g
      · rw [d, uf_s]; rw [d] at this; omega
      · rw [uf_n d]; omega
    | 1, _ =>
      obtain ⟨a1, a2, a3, a4, a5, a6, h⟩ := h
      obtain ⟨p, p1, p2, p3, p4, fe⟩ := fe
      refine ih _ _ _ _ _ _ hr2 (fun f hf => ?_) (by omega) fe ?_ h
      · have := hx f hf
        by_cases d : f = g
        · rw [d, uf_s, uf_s]; omega
        · rw [uf_n d, uf_n d]; omega
      · rw [psi_1 (nd := nd) (x := x) q2 (fun f hf d => ⟨uf_n d, uf_n d⟩), uf_s, uf_s]
        show v ≤ zs m _ + crs F T C c m + crs F T C c (m + 1) + _ + _
        rw [crs_b a1 a2 a3, crs_b a4 a5 a6]
        revert hv
        cases c (nd g) <;> cases c n <;> cases c 0 <;> simp only [bI_t, bI_f, Bool.not_true, Bool.not_false, Bool.and_true, Bool.and_false] <;> omega
    | 2, _ =>
      obtain ⟨a1, a2, a3, a4, a5, a6, a7, a8, a9, h⟩ := h
      obtain ⟨p, p1, p2, p3, p4, fe⟩ := fe
      obtain ⟨o1, o2⟩ := q3 rfl
      have o1 : o < H := o1
      have o2 : ¬ o = g := o2
      have ho := hx o o1
      refine ih _ _ _ _ _ _ hr2 (fun f hf => ?_) (by omega) fe ?_ h
      · have := hx f hf
        by_cases d : f = o
        · rw [d, uf_s, uf_s]; omega
        · rw [uf_n d, uf_n d]
          by_cases d : f = g
          · rw [d, uf_s, uf_s]; omega
          · rw [uf_n d, uf_n d]; omega
      · rw [psi_2 (nd := nd) (x := x) q2 o1 (fun z => o2 z.symm) (fun f hf d d2 => ⟨by rw [uf_n d2, uf_n d], by rw [uf_n d2, uf_n d]⟩), uf_s, uf_s, uf_n (fun z => o2 z.symm), uf_n (fun z => o2 z.symm), uf_s, uf_s]
        show v ≤ zs m _ + crs F T C c m + crs F T C c (m + 1) + crs F T C c (m + 2) + _ + _
        rw [crs_b a1 a2 a3, crs_b a4 a5 a6, crs_b a7 a8 a9]
        revert hv
        cases c (nd g) <;> cases c n <;> cases c (nd o) <;> cases c (n + 1) <;> simp only [bI_t, bI_f, Bool.not_true, Bool.not_false, Bool.and_true, Bool.and_false] <;> omega
    | 3, _ => exact ih nd hs n m x y hr2 hx (by omega) fe hv h
end Cu
/-- a flow of worth v, and why there is no greater one -/
def Gf (M : Nat) (F T : Nat → Nat) (C : Nat → Int) (s t : Nat) (mx v : Int) : Prop := ∃ p : Nat → Int, (∀ k, k < M → 0 ≤ p k ∧ p k ≤ C k) ∧ QF M F T p v s t ∧ (mx ≤ v ∨ ∃ c : Nat → Bool, c s = true ∧ c t = false ∧ (∀ k, k < M → c (F k) = true → c (T k) = false → p k = C k) ∧ (∀ k, k < M → c (F k) = false → c (T k) = true → p k = 0))
def dx (a : Nat) (v : Int) (h : Nat) : Int := if h = a then v else 0
theorem psi_dx {H a : Nat} {c : Nat → Bool} {nd : Nat → Nat} {v : Int} (ha : a < H) : psi H c nd (dx a v) = bI (c (nd a)) v := by
  have := psi_1 (c := c) (nd := nd) (nd1 := nd) (x := fun _ => 0) (x1 := dx a v) ha (fun f hf hn => ⟨rfl, if_neg hn⟩)
  rw [this]
  have e : psi H c nd (fun _ => 0) = 0 := zs_z H (fun k _ => by show bI _ 0 = 0; unfold bI; split <;> rfl)
  have e1 : dx a v a = v := if_pos rfl
  rw [e, e1]
  show 0 - bI (c (nd a)) 0 + _ = _
  have e2 : bI (c (nd a)) 0 = 0 := by unfold bI; split <;> rfl
  rw [e2]
  omega
theorem fl_eq {H a MA MB t : Nat} {sk : Nat → Bool} {ok : Bool} {FA TA FB TB : Nat → Nat} {CA CB h0 : Nat → Int} {va vb : Int} {R : List Rw} (hr : ∀ r, r ∈ R → Rv H r) (hl : R.length ≤ 150) (ha : a < H) (hh : ∀ h, h < H → 0 ≤ h0 h ∧ h0 h ≤ 1000000) (f0 : FA 0 = 0) (t0 : TA 0 = 3 + a) (c0 : CA 0 = h0 a) (hA : BA FA TA CA (fun nd _ _ m => SK H sk ok nd (fun _ => 1000000000) 2 1 FA TA CA MA H m) R (fun h => 3 + h) h0 (3 + H) 1) (hB : BB FB TB CB (fun nd hs n m => t = n ∧ SK H sk ok nd hs 0 t FB TB CB MB H m) R (fun h => 1 + h) h0 (1 + H) 0) (gA : Gf MA FA TA CA 0 1 (h0 a) va) (gB : Gf MB FB TB CB (1 + a) t (h0 a) vb) (vb0 : 0 ≤ vb) (vb1 : vb ≤ h0 a) : va = vb := by
  obtain ⟨pA, bA, qA, kA⟩ := gA
  obtain ⟨pB, bB, qB, kB⟩ := gB
  have hha := hh a ha
  have nkA : Nk H 3 (fun h => 3 + h) (3 + H) := ⟨by omega, fun h hh => by show 3 ≤ 3 + h ∧ 3 + h < 3 + H; omega, fun h g _ _ e => by have e : 3 + h = 3 + g := e; omega⟩
  have nkB : Nk H 1 (fun h => 1 + h) (1 + H) := ⟨by omega, fun h hh => by show 1 ≤ 1 + h ∧ 1 + h < 1 + H; omega, fun h g _ _ e => by have e : 1 + h = 1 + g := e; omega⟩
  have uA := BA_un (H := H) (u := 0) (M := MA) (by omega) (fun nd hs n m k hn hd h => SK_un (fun g hg _ => hd g hg) (fun _ => by omega) (by omega) H m (Nat.le_refl _) h) R _ _ _ _ hr nkA (by omega) (fun h _ => by show ¬ 3 + h = 0; omega) hA
  have e0 := xv_fin (u := 0) qA (by omega)
  have x1 : ∀ u, xv va 0 FA TA pA 1 u = va * dl u 0 + (0 + pA 0 * (dl u (3 + a) - dl u 0)) := fun u => by
    show va * dl u 0 + (0 + pA 0 * (dl u (TA 0) - dl u (FA 0))) = _
    rw [f0, t0]
  rw [xv_stay uA, x1 0, dl_s, dl_n (show ¬ 3 + a = 0 by omega)] at e0
  have ep : pA 0 = va := by omega
  have b0 := bA 0 (by omega)
  rw [ep, c0] at b0
  have feA : Fe H sk ok R h0 (dx a va) 0 := by
    refine BA_fe (p := pA) (v := va) bA (fun u hu => xv_fin qA hu) R _ _ _ _ _ _ hr nkA ?_ (fun h hh1 => (hh h hh1).1) ?_ ?_ hA
    · intro u hu
      rw [x1 u, dl_n (show ¬ 0 = u by omega), dl_n (show ¬ 3 + a = u by omega)]
      omega
    · intro h hh1
      show dx a va h = xv va 0 FA TA pA 1 (3 + h)
      rw [x1 (3 + h), dl_n (show ¬ 0 = 3 + h by omega), ep]
      unfold dx dl
      by_cases z : h = a
      · rw [if_pos z, if_pos (by omega)]; omega
      · rw [if_neg z, if_neg (by omega)]; omega
    · rw [x1 2, dl_n (show ¬ 0 = 2 by omega), dl_n (show ¬ 3 + a = 2 by omega)]
      omega
  have feB : Fe H sk ok R h0 (dx a vb) 0 := by
    refine (BB_fe (p := pB) (v := vb) (s := 1 + a) bB (fun u hu => xv_fin qB hu) R _ _ _ _ _ _ hr nkB ?_ (fun h hh1 => (hh h hh1).1) ?_ ?_ hB).1
    · intro u hu
      show vb * dl u (1 + a) + 0 = 0
      rw [dl_n (show ¬ 1 + a = u by omega)]
      omega
    · intro h hh1
      show dx a vb h = vb * dl (1 + h) (1 + a) + 0
      unfold dx dl
      by_cases z : h = a
      · rw [if_pos z, if_pos (by omega)]; omega
      · rw [if_neg z, if_neg (by omega)]; omega
    · show 0 = vb * dl 0 (1 + a) + 0
      rw [dl_n (show ¬ 1 + a = 0 by omega)]
      omega
  have dxb : ∀ w : Int, 0 ≤ w → w ≤ h0 a → ∀ h, h < H → 0 ≤ dx a w h ∧ dx a w h ≤ h0 h := by
    intro w w0 w1 h hh1
    have := hh h hh1
    unfold dx
    by_cases z : h = a
    · rw [if_pos z, z]; omega
    · rw [if_neg z]; omega
  have hab : va ≤ vb := by
    rcases kB with k | ⟨c, cs, ct, k1, k2⟩
    · omega
    · have e := cut_full qB cs ct k1 k2
      rw [e]
      refine BB_cut ct R _ _ _ _ _ _ hr (dxb va b0.1 b0.2) (by omega) feA ?_ hB
      rw [psi_dx ha]
      show va ≤ 0 + bI (c (1 + a)) va + bI (c 0) 0
      rw [cs, bI_t]
      unfold bI
      split <;> omega
  have hba : vb ≤ va := by
    rcases kA with k | ⟨c, cs, ct, k1, k2⟩
    · omega
    · have e := cut_full qA cs ct k1 k2
      rw [e]
      refine BA_cut ct R _ _ _ _ _ _ hr (fun h hh1 => ?_) (by omega) feB ?_ hA
      · have := dxb vb vb0 vb1 h hh1
        have := hh h hh1
        omega
      · rw [psi_dx ha]
        show vb ≤ 0 + crs FA TA CA c 0 + bI (c (3 + a)) vb + bI (c 2) 0
        rw [crs_b f0 t0 c0, cs]
        have z0 : bI (c 2) 0 = 0 := by unfold bI; split <;> rfl
        rw [z0]
        cases c (3 + a) <;> simp only [bI_t, bI_f, Bool.not_true, Bool.not_false, Bool.and_true, Bool.and_false] <;> omega
  omega
