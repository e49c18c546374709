/-! ===== cells that come later: objects, rows, a list and what is added to it ===== -/
theorem pob_of {dy : PH} {a c : Nat} {fs : List Value} (h : dy[a]? = some (.inr (c, fs))) : pob dy a c = some fs := by
  unfold pob
  rw [h]
  exact if_pos rfl
theorem prow_of {dy : PH} {a t n : Nat} {f : Nat → Int32} (h : dy[a]? = some (.inl (t, n, .inl f))) : prow dy a t = some (n, f) := by
  unfold prow
  rw [h]
  exact if_pos rfl
theorem prowR_of {dy : PH} {a n : Nat} {f : Nat → Option Nat} (h : dy[a]? = some (.inl (4, n, .inr (.inr f)))) : prowR dy a = some (n, f) := by
  unfold prowR
  rw [h]
  rfl
theorem pgf_of {dy : PH} {a c k : Nat} {fs : List Value} {v : Value} (h : dy[a]? = some (.inr (c, fs))) (hv : fs[k]? = some v) : pgf dy a c k = some v := by
  unfold pgf
  rw [pob_of h]
  exact hv
theorem q_lt {dy : PH} {i : Nat} {x : PC} (h : dy[i]? = some x) : i < dy.length := (List.getElem?_eq_some_iff.mp h).1
theorem q_ss {dy : PH} {i : Nat} {x : PC} (h : i < dy.length) : (dy.set i x)[i]? = some x := List.getElem?_set_self h
theorem q_sn {dy : PH} {i j : Nat} {x y : PC} (h : dy[j]? = some y) (d : ¬ j = i) : (dy.set i x)[j]? = some y := by
  rw [List.getElem?_set_ne (fun z => d z.symm)]
  exact h
theorem q_ao {dy e : PH} {i : Nat} {x : PC} (h : dy[i]? = some x) : (dy ++ e)[i]? = some x := by
  rw [List.getElem?_append_left (q_lt h)]
  exact h
theorem q_an {dy : PH} {x : PC} : (dy ++ [x])[dy.length]? = some x := by
  rw [List.getElem?_append_right (Nat.le_refl _), Nat.sub_self]
  rfl
theorem q_al {dy : PH} {x : PC} : (dy ++ [x]).length = dy.length + 1 := by rw [List.length_append]; rfl
def notR (x : PC) : Prop := ∀ c g, ¬ x = (.inl (4, c, .inr (.inr g)) : PC)
theorem notR_o {o : Nat × List Value} : notR (.inr o) := fun c g h => by cases h
theorem notR_i {n : Nat} {f : Nat → Int32} : notR (.inl (0, n, .inl f)) := fun c g h => by cases h
/-- what stays: all that was there before L0, and behind it all but v and rows of references -/
def Kp (L0 v : Nat) (dy dy1 : PH) : Prop := dy.length ≤ dy1.length ∧ ∀ i x, dy[i]? = some x → ¬ i = v → (i < L0 ∨ notR x) → dy1[i]? = some x
theorem Kp_rf {L0 v : Nat} {dy : PH} : Kp L0 v dy dy := ⟨Nat.le_refl _, fun _ _ h _ _ => h⟩
theorem Kp_tr {L0 v : Nat} {dy dy1 dy2 : PH} (h : Kp L0 v dy dy1) (k : Kp L0 v dy1 dy2) : Kp L0 v dy dy2 := ⟨Nat.le_trans h.1 k.1, fun i x q d z => k.2 i x (h.2 i x q d z) d z⟩
theorem Kp_app {L0 v : Nat} {dy e : PH} : Kp L0 v dy (dy ++ e) := ⟨by rw [List.length_append]; omega, fun i x q _ _ => q_ao q⟩
theorem Kp_v {L0 v : Nat} {dy : PH} {x : PC} : Kp L0 v dy (dy.set v x) := ⟨by rw [List.length_set]; omega, fun i y q d _ => q_sn q d⟩
theorem Kp_R {L0 v b : Nat} {dy : PH} {x : PC} (hb : L0 ≤ b) (h : ∀ y, dy[b]? = some y → ¬ notR y) : Kp L0 v dy (dy.set b x) := by
  refine ⟨by rw [List.length_set]; omega, fun i y q d z => ?_⟩
  by_cases c : i = b
  · rw [c] at q z
    rcases z with z | z
    · omega
    · exact absurd z (h y q)
  · exact q_sn q c
theorem isR {b c : Nat} {g : Nat → Option Nat} {dy : PH} (h : dy[b]? = some (.inl (4, c, .inr (.inr g)))) (y : PC) (k : dy[b]? = some y) : ¬ notR y := by
  rw [h] at k
  injection k with k
  rw [← k]
  exact fun z => z c g rfl
def Lst (dy : PH) (L0 v n : Nat) (g : Nat → Option Nat) : Prop := L0 ≤ v ∧ (∃ mc : Int32, (n = 0 ∧ dy[v]? = some (.inr (13, [.int mc, .float 1, .int 0]))) ∨ ∃ b cap, dy[v]? = some (.inr (13, [.int mc, .ref (b + 118), .int (nI n)])) ∧ dy[b]? = some (.inl (4, cap, .inr (.inr g))) ∧ n ≤ cap ∧ 10 ≤ cap ∧ cap ≤ 15 ∧ L0 ≤ b) ∧ ∀ j, j < n → ∃ c o, g j = some (c + 118) ∧ dy[c]? = some (.inr o)
theorem vu_s {f : Nat → Option Nat} {k : Nat} {x : Option Nat} : va_up f k x k = x := if_pos rfl
theorem vu_n {f : Nat → Option Nat} {k j : Nat} {x : Option Nat} (h : ¬ j = k) : va_up f k x j = f j := if_neg h
/-- a list with one more -/
theorem psl_o {dy : PH} {i c c1 : Nat} {w1 w2 w3 x1 x2 x3 : Value} (h : dy[i]? = some (.inr (c, [w1, w2, w3]))) : psl (dy.set i (.inr (c1, [x1, x2, x3]))) = psl dy := psl_set h rfl
theorem psl_R {dy : PH} {i n : Nat} {f g : Nat → Option Nat} (h : dy[i]? = some (.inl (4, n, .inr (.inr f)))) : psl (dy.set i (.inl (4, n, .inr (.inr g)))) = psl dy := psl_set h rfl
theorem Lst_new {L0 v b p n cap : Nat} {mc : Int32} {g : Nat → Option Nat} {o : Nat × List Value} {dy dyB : PH} (hv : L0 ≤ v) (hb : L0 ≤ b) (bv : ¬ b = v) (k : Kp L0 v dy dyB) {w1 w2 w3 : Value} (hvB : dyB[v]? = some (.inr (13, [w1, w2, w3]))) (hbB : dyB[b]? = some (.inl (4, cap, .inr (.inr g)))) (hp : dy[p]? = some (.inr o)) (pv : ¬ p = v) (hc : n < cap) (h10 : 10 ≤ cap) (h15 : cap ≤ 15) (ho : ∀ j, j < n → ∃ c o, g j = some (c + 118) ∧ dy[c]? = some (.inr o) ∧ ¬ c = v) : Kp L0 v dy ((dyB.set b (.inl (4, cap, .inr (.inr (va_up g n (some (p + 118))))))).set v (.inr (13, [.int mc, .ref (b + 118), .int (nI (n + 1))]))) ∧ Lst ((dyB.set b (.inl (4, cap, .inr (.inr (va_up g n (some (p + 118))))))).set v (.inr (13, [.int mc, .ref (b + 118), .int (nI (n + 1))]))) L0 v (n + 1) (va_up g n (some (p + 118))) ∧ ((dyB.set b (.inl (4, cap, .inr (.inr (va_up g n (some (p + 118))))))).set v (.inr (13, [.int mc, .ref (b + 118), .int (nI (n + 1))]))).length = dyB.length ∧ psl ((dyB.set b (.inl (4, cap, .inr (.inr (va_up g n (some (p + 118))))))).set v (.inr (13, [.int mc, .ref (b + 118), .int (nI (n + 1))]))) = psl dyB := by
  have k1 : Kp L0 v dy ((dyB.set b (.inl (4, cap, .inr (.inr (va_up g n (some (p + 118))))))).set v (.inr (13, [.int mc, .ref (b + 118), .int (nI (n + 1))]))) := Kp_tr k (Kp_tr (Kp_R hb (isR hbB)) Kp_v)
  refine ⟨k1, ⟨hv, ⟨mc, Or.inr ⟨b, cap, q_ss (by rw [List.length_set]; exact q_lt hvB), q_sn (q_ss (q_lt hbB)) bv, by omega, h10, h15, hb⟩⟩, fun j hj => ?_⟩, by rw [List.length_set, List.length_set], by rw [psl_o (q_sn hvB (fun z => bv z.symm)), psl_R hbB]⟩
  by_cases c : j = n
  · rw [c, vu_s]
    exact ⟨p, o, rfl, k1.2 p _ hp pv (Or.inr notR_o)⟩
  · rw [vu_n c]
    obtain ⟨c1, o1, e1, e2, e3⟩ := ho j (by omega)
    exact ⟨c1, o1, e1, k1.2 c1 _ e2 e3 (Or.inr notR_o)⟩
theorem grow0 {s : ST} {v : Nat} {mc p1 : Int32} {K : Nat → ST → Prop} (hA : s.2.2.2.2[v]? = some (.inr (13, [.int mc, .float 1, .int 0]))) (he : (if (10 : Int32) < p1 then p1 else 10) = nI 10) (k : K s.2.2.2.2.length (sD s ((s.2.2.2.2 ++ [(Sum.inl (4, 10, .inr (.inr (fun _ => none))) : PC)]).set v (.inr (13, [.int mc, .ref (s.2.2.2.2.length + 118), .int 0]))))) : w_295 v p1 s K := by
  unfold w_295
  rw [he, nI_clamp (show 10 < 2 ^ 31 by omega)]
  exact Or.inl ⟨pgf_of hA rfl, Or.inl ⟨pgf_of hA rfl, by decide, by decide, _, pob_of (q_ao hA), by show 1 < 3; omega, k⟩⟩
theorem add0 {s : ST} {L0 v p : Nat} {mc : Int32} {o : Nat × List Value} {K : ST → Prop} (hv : L0 ≤ v) (hA : s.2.2.2.2[v]? = some (.inr (13, [.int mc, .float 1, .int 0]))) (hp : s.2.2.2.2[p]? = some (.inr o)) (pv : ¬ p = v) (k : ∀ dy1 g1, Kp L0 v s.2.2.2.2 dy1 → dy1.length ≤ s.2.2.2.2.length + 1 → psl dy1 ≤ psl s.2.2.2.2 + 15 → Lst dy1 L0 v 1 g1 → g1 0 = some (p + 118) → K (sD s dy1)) : w_300_F1 v p 0 s K := by
  have vlt := q_lt hA
  have vA : ¬ s.2.2.2.2.length = v := by omega
  unfold w_300_F1
  refine br_f (fun z => z rfl) ⟨_, pob_of hA, ?_⟩
  unfold w_296
  refine ⟨0, pgf_of hA rfl, _, pob_of hA, grow0 hA (by decide) ?_⟩
  have hB : ((s.2.2.2.2 ++ [(Sum.inl (4, 10, .inr (.inr (fun _ => none))) : PC)]).set v (.inr (13, [.int mc, .ref (s.2.2.2.2.length + 118), .int 0])))[s.2.2.2.2.length]? = some (.inl (4, 10, .inr (.inr (fun _ => none)))) := q_sn q_an vA
  have kB : Kp L0 v s.2.2.2.2 ((s.2.2.2.2 ++ [(Sum.inl (4, 10, .inr (.inr (fun _ => none))) : PC)]).set v (.inr (13, [.int mc, .ref (s.2.2.2.2.length + 118), .int 0]))) := Kp_tr Kp_app Kp_v
  have hvB : ((s.2.2.2.2 ++ [(Sum.inl (4, 10, .inr (.inr (fun _ => none))) : PC)]).set v (.inr (13, [.int mc, .ref (s.2.2.2.2.length + 118), .int 0])))[v]? = some (.inr (13, [.int mc, .ref (s.2.2.2.2.length + 118), .int 0])) := q_ss (by rw [q_al]; omega)
  have fin := Lst_new (mc := mc) (p := p) (n := 0) (cap := 10) (g := fun _ => none) hv (by omega : L0 ≤ s.2.2.2.2.length) vA kB hvB hB hp pv (by omega) (by omega) (by omega) (fun j hj => absurd hj (by omega))
  refine ⟨10, fun _ => none, o, prowR_of hB, by decide, kB.2 p _ hp pv (Or.inr notR_o), _, pob_of (q_sn hvB (fun z => vA z.symm)), by show 2 < 3; omega, ?_⟩
  have l1 : ((s.2.2.2.2 ++ [(Sum.inl (4, 10, .inr (.inr (fun _ => none))) : PC)]).set v (.inr (13, [.int mc, .ref (s.2.2.2.2.length + 118), .int 0]))).length ≤ s.2.2.2.2.length + 1 := by
    rw [List.length_set, q_al]
    omega
  have l2 : psl ((s.2.2.2.2 ++ [(Sum.inl (4, 10, .inr (.inr (fun _ => none))) : PC)]).set v (.inr (13, [.int mc, .ref (s.2.2.2.2.length + 118), .int 0]))) ≤ psl s.2.2.2.2 + 15 := by
    rw [psl_o (q_ao hA), psl_push]
    show psl s.2.2.2.2 + 10 ≤ _
    omega
  exact k _ _ fin.1 (Nat.le_trans (Nat.le_of_eq fin.2.2.1) l1) (Nat.le_trans (Nat.le_of_eq fin.2.2.2) l2) fin.2.1 vu_s
theorem add1 {s : ST} {L0 v p b n cap : Nat} {mc : Int32} {g : Nat → Option Nat} {o : Nat × List Value} {K : ST → Prop} (hv : L0 ≤ v) (hb : L0 ≤ b) (hA : s.2.2.2.2[v]? = some (.inr (13, [.int mc, .ref (b + 118), .int (nI n)]))) (hr : s.2.2.2.2[b]? = some (.inl (4, cap, .inr (.inr g)))) (hn : n ≤ 10) (hnc : n ≤ cap) (h10 : 10 ≤ cap) (h15 : cap ≤ 15) (hp : s.2.2.2.2[p]? = some (.inr o)) (pv : ¬ p = v) (ho : ∀ j, j < n → ∃ c o, g j = some (c + 118) ∧ s.2.2.2.2[c]? = some (.inr o) ∧ ¬ c = v) (k : ∀ dy1 g1, Kp L0 v s.2.2.2.2 dy1 → dy1.length ≤ s.2.2.2.2.length + 1 → psl dy1 ≤ psl s.2.2.2.2 + 15 → Lst dy1 L0 v (n + 1) g1 → (∀ j, j < n → g1 j = g j) → g1 n = some (p + 118) → K (sD s dy1)) : w_300 v p b (nI n) s K := by
  have vlt := q_lt hA
  have bv : ¬ b = v := fun z => by rw [z, hA] at hr; cases hr
  have vA : ¬ s.2.2.2.2.length = v := by omega
  unfold w_300
  refine ⟨cap, g, prowR_of hr, ?_⟩
  by_cases c : n = cap
  · have c10 : cap = 10 := by omega
    subst c10
    subst c
    have hC : ((s.2.2.2.2 ++ [(Sum.inl (4, 15, .inr (.inr (fun _ => none))) : PC)]).set s.2.2.2.2.length (.inl (4, 15, .inr (.inr (va_cpy g (fun _ => none) 0 0 10)))))[s.2.2.2.2.length]? = some (.inl (4, 15, .inr (.inr (va_cpy g (fun _ => none) 0 0 10)))) := q_ss (by rw [q_al]; omega)
    have hvC : ((s.2.2.2.2 ++ [(Sum.inl (4, 15, .inr (.inr (fun _ => none))) : PC)]).set s.2.2.2.2.length (.inl (4, 15, .inr (.inr (va_cpy g (fun _ => none) 0 0 10)))))[v]? = some (.inr (13, [.int mc, .ref (b + 118), .int (nI 10)])) := q_sn (q_ao hA) (fun z => vA z.symm)
    have kC : Kp L0 v s.2.2.2.2 ((s.2.2.2.2 ++ [(Sum.inl (4, 15, .inr (.inr (fun _ => none))) : PC)]).set s.2.2.2.2.length (.inl (4, 15, .inr (.inr (va_cpy g (fun _ => none) 0 0 10))))) := Kp_tr Kp_app (Kp_R (by omega) (isR q_an))
    have hvD : (((s.2.2.2.2 ++ [(Sum.inl (4, 15, .inr (.inr (fun _ => none))) : PC)]).set s.2.2.2.2.length (.inl (4, 15, .inr (.inr (va_cpy g (fun _ => none) 0 0 10))))).set v (.inr (13, [.int mc, .ref (s.2.2.2.2.length + 118), .int (nI 10)])))[v]? = some (.inr (13, [.int mc, .ref (s.2.2.2.2.length + 118), .int (nI 10)])) := q_ss (q_lt hvC)
    have hD : (((s.2.2.2.2 ++ [(Sum.inl (4, 15, .inr (.inr (fun _ => none))) : PC)]).set s.2.2.2.2.length (.inl (4, 15, .inr (.inr (va_cpy g (fun _ => none) 0 0 10))))).set v (.inr (13, [.int mc, .ref (s.2.2.2.2.length + 118), .int (nI 10)])))[s.2.2.2.2.length]? = some (.inl (4, 15, .inr (.inr (va_cpy g (fun _ => none) 0 0 10)))) := q_sn hC vA
    have kD := Kp_tr kC (Kp_v (x := .inr (13, [.int mc, .ref (s.2.2.2.2.length + 118), .int (nI 10)])))
    have cg : ∀ j, j < 10 → va_cpy g (fun _ => none) 0 0 10 j = g j := fun j hj => by
      rw [pk_cpy_in (by omega) (by omega)]
      rw [Nat.zero_add, Nat.sub_zero]
    have fin := Lst_new (mc := mc) (p := p) (n := 10) (cap := 15) (g := va_cpy g (fun _ => none) 0 0 10) hv (by omega : L0 ≤ s.2.2.2.2.length) vA kD hvD hD hp pv (by omega) (by omega) (by omega) (fun j hj => by rw [cg j hj]; exact ho j hj)
    refine br_f (fun z => z rfl) ⟨_, pob_of hA, ?_⟩
    unfold w_296
    refine ⟨nI 10, pgf_of hA rfl, _, pob_of hA, ?_⟩
    unfold w_295
    refine Or.inr ⟨b, pgf_of hA rfl, 10, g, prowR_of hr, br_t (by decide) ?_⟩
    have eN : (if nI 10 + 1 - Int32.ofNat 10 < Int32.ofNat 10 >>> ((1 : Int32) &&& 31) then Int32.ofNat 10 >>> ((1 : Int32) &&& 31) else nI 10 + 1 - Int32.ofNat 10) = 5 := by decide
    unfold w_307
    rw [eN]
    refine br_f (by decide) (br_f (by decide) (Or.inr ⟨b, pgf_of hA rfl, ?_⟩))
    rw [show Int32.ofNat 10 + 5 = nI 15 by decide]
    unfold w_303
    refine ⟨10, g, prowR_of hr, ?_⟩
    unfold w_304_F4
    rw [nI_clamp (show 15 < 2 ^ 31 by omega)]
    refine ⟨by decide, by decide, 10, g, prowR_of (q_ao hr), 10, g, 15, fun _ => none, prowR_of (q_ao hr), prowR_of q_an, by decide, by decide, by decide, by decide, by decide, ?_, ?_⟩
    · rw [show (0 : Int32).toNatClampNeg = 0 from rfl, show (if nI 15 < Int32.ofNat 10 then nI 15 else Int32.ofNat 10).toNatClampNeg = 10 by decide]
      unfold pels
      rw [List.all_eq_true]
      intro i hi
      have hi := List.mem_range.mp hi
      obtain ⟨c1, o1, q1, q2, q3⟩ := ho i hi
      have q4 : (hpS (sD s (s.2.2.2.2 ++ [(Sum.inl (4, 15, .inr (.inr (fun _ => none))) : PC)])))[c1 + 118]? = some (.inr o1) := by
        rw [dy_at]
        exact q_ao q2
      rw [Nat.zero_add, q1]
      show (match (hpS (sD s (s.2.2.2.2 ++ [(Sum.inl (4, 15, .inr (.inr (fun _ => none))) : PC)])))[c1 + 118]? with | some (.inr _) => true | _ => false) = true
      rw [q4]
    · rw [show (0 : Int32).toNatClampNeg = 0 from rfl, show (if nI 15 < Int32.ofNat 10 then nI 15 else Int32.ofNat 10).toNatClampNeg = 10 by decide]
      refine ⟨_, pob_of hvC, by show 1 < 3; omega, 15, va_cpy g (fun _ => none) 0 0 10, o, prowR_of hD, by decide, kD.2 p _ hp pv (Or.inr notR_o), _, pob_of (q_sn hvD (fun z => vA z.symm)), by show 2 < 3; omega, ?_⟩
      rw [nI_clamp (show 10 < 2 ^ 31 by omega), nI_1]
      have l1 : (((s.2.2.2.2 ++ [(Sum.inl (4, 15, .inr (.inr (fun _ => none))) : PC)]).set s.2.2.2.2.length (.inl (4, 15, .inr (.inr (va_cpy g (fun _ => none) 0 0 10))))).set v (.inr (13, [.int mc, .ref (s.2.2.2.2.length + 118), .int (nI 10)]))).length ≤ s.2.2.2.2.length + 1 := by
        rw [List.length_set, List.length_set, q_al]
        omega
      have l2 : psl (((s.2.2.2.2 ++ [(Sum.inl (4, 15, .inr (.inr (fun _ => none))) : PC)]).set s.2.2.2.2.length (.inl (4, 15, .inr (.inr (va_cpy g (fun _ => none) 0 0 10))))).set v (.inr (13, [.int mc, .ref (s.2.2.2.2.length + 118), .int (nI 10)]))) ≤ psl s.2.2.2.2 + 15 := by
        rw [psl_o hvC, psl_R q_an, psl_push]
        show psl s.2.2.2.2 + 15 ≤ _
        omega
      exact k _ _ fin.1 (Nat.le_trans (Nat.le_of_eq fin.2.2.1) l1) (Nat.le_trans (Nat.le_of_eq fin.2.2.2) l2) fin.2.1 (fun j hj => by rw [vu_n (by omega), cg j hj]) vu_s
  · have fin := Lst_new (mc := mc) (p := p) (n := n) (cap := cap) (g := g) hv hb bv Kp_rf hA hr hp pv (by omega) h10 h15 ho
    refine br_t ?_ ⟨cap, g, o, prowR_of hr, pin_nI (by omega) (by omega), hp, _, pob_of (q_sn hA (fun z => bv z.symm)), by show 2 < 3; omega, ?_⟩
    · show ¬ nI n = nI cap
      rw [nI_eq (by omega) (by omega)]
      exact c
    · rw [nI_clamp (show n < 2 ^ 31 by omega), nI_1]
      exact k _ _ fin.1 (Nat.le_trans (Nat.le_of_eq fin.2.2.1) (by omega)) (Nat.le_trans (Nat.le_of_eq fin.2.2.2) (by omega)) fin.2.1 (fun j hj => vu_n (by omega)) vu_s
theorem mp_301 {s : ST} {L0 v p n : Nat} {g : Nat → Option Nat} {o : Nat × List Value} {K : Int32 → ST → Prop} (hL : Lst s.2.2.2.2 L0 v n g) (hn : n ≤ 10) (hp : s.2.2.2.2[p]? = some (.inr o)) (pv : ¬ p = v) (ho : ∀ j, j < n → ∃ c o, g j = some (c + 118) ∧ s.2.2.2.2[c]? = some (.inr o) ∧ ¬ c = v) (k : ∀ dy1 g1, Kp L0 v s.2.2.2.2 dy1 → dy1.length ≤ s.2.2.2.2.length + 1 → psl dy1 ≤ psl s.2.2.2.2 + 15 → Lst dy1 L0 v (n + 1) g1 → (∀ j, j < n → g1 j = g j) → g1 n = some (p + 118) → K 1 (sD s dy1)) : w_301 v p s K := by
  obtain ⟨hv, ⟨mc, hL⟩, hobj⟩ := hL
  have kA : ∀ x, Kp L0 v s.2.2.2.2 (s.2.2.2.2.set v x) := fun x => Kp_v
  have lA : ∀ x, (s.2.2.2.2.set v x).length = s.2.2.2.2.length := fun x => List.length_set
  have hpA : ∀ x, (s.2.2.2.2.set v x)[p]? = some (.inr o) := fun x => (kA x).2 p _ hp pv (Or.inr notR_o)
  rcases hL with ⟨n0, hcell⟩ | ⟨b, cap, hcell, hrow, hnc, h10, h15, hb⟩
  · subst n0
    have vlt := q_lt hcell
    have hA : (s.2.2.2.2.set v (.inr (13, [.int (mc + 1), .float 1, .int 0])))[v]? = some (.inr (13, [.int (mc + 1), .float 1, .int 0])) := q_ss vlt
    unfold w_301
    refine ⟨mc, pgf_of hcell rfl, _, pob_of hcell, by show 0 < 3; omega, Or.inl ⟨pgf_of hA rfl, 0, pgf_of hA rfl, _, pob_of hA, ?_⟩⟩
    refine add0 (s := sD s (s.2.2.2.2.set v (.inr (13, [.int (mc + 1), .float 1, .int 0])))) hv hA (hpA _) pv ?_
    intro dy1 g1 z1 z2 z3 z4 z5
    have e1 : psl (s.2.2.2.2.set v (.inr (13, [.int (mc + 1), .float 1, .int 0]))) = psl s.2.2.2.2 := psl_o hcell
    have z2 : dy1.length ≤ (s.2.2.2.2.set v (.inr (13, [.int (mc + 1), .float 1, .int 0]))).length + 1 := z2
    have z3 : psl dy1 ≤ psl (s.2.2.2.2.set v (.inr (13, [.int (mc + 1), .float 1, .int 0]))) + 15 := z3
    rw [lA] at z2
    rw [e1] at z3
    exact k dy1 g1 (Kp_tr (kA _) z1) z2 z3 z4 (fun j hj => absurd hj (by omega)) z5
  · have vlt := q_lt hcell
    have bv : ¬ b = v := fun z => by rw [z, hcell] at hrow; cases hrow
    have hA : (s.2.2.2.2.set v (.inr (13, [.int (mc + 1), .ref (b + 118), .int (nI n)])))[v]? = some (.inr (13, [.int (mc + 1), .ref (b + 118), .int (nI n)])) := q_ss vlt
    have hrA : (s.2.2.2.2.set v (.inr (13, [.int (mc + 1), .ref (b + 118), .int (nI n)])))[b]? = some (.inl (4, cap, .inr (.inr g))) := q_sn hrow bv
    unfold w_301
    refine ⟨mc, pgf_of hcell rfl, _, pob_of hcell, by show 0 < 3; omega, Or.inr ⟨b, pgf_of hA rfl, nI n, pgf_of hA rfl, _, pob_of hA, ?_⟩⟩
    refine add1 (s := sD s (s.2.2.2.2.set v (.inr (13, [.int (mc + 1), .ref (b + 118), .int (nI n)])))) hv hb hA hrA hn hnc h10 h15 (hpA _) pv (fun j hj => ?_) ?_
    · obtain ⟨c1, o1, q1, q2, q3⟩ := ho j hj
      exact ⟨c1, o1, q1, (kA _).2 c1 _ q2 q3 (Or.inr notR_o), q3⟩
    · intro dy1 g1 z1 z2 z3 z4 z5 z6
      have e1 : psl (s.2.2.2.2.set v (.inr (13, [.int (mc + 1), .ref (b + 118), .int (nI n)]))) = psl s.2.2.2.2 := psl_o hcell
      have z2 : dy1.length ≤ (s.2.2.2.2.set v (.inr (13, [.int (mc + 1), .ref (b + 118), .int (nI n)]))).length + 1 := z2
      have z3 : psl dy1 ≤ psl (s.2.2.2.2.set v (.inr (13, [.int (mc + 1), .ref (b + 118), .int (nI n)]))) + 15 := z3
      rw [lA] at z2
      rw [e1] at z3
      exact k dy1 g1 (Kp_tr (kA _) z1) z2 z3 z4 z5 z6
