/-! ===== the reference's reader: signs, faults, what it says, what waits ===== -/
abbrev fqRp : FS := ([5526, 5528, 5529, 5530, 5531, 5533], [76, 77], [], false, false)
def encR (b : Nat) (g : Pc) : Nat := 16777216 * mpo g.1 + (if g.1 = 3 ∨ g.1 = 4 then (if g.2 = 0 then 0 else b + g.2) else g.2)
def WL (f : Nat → Int32) : List Pc → Prop
  | [] => True
  | w :: W => f W.length = nI (16777216 * w.1 + w.2) ∧ w.1 ≤ 14 ∧ w.2 < 180 ∧ WL f W
def RX (R0 : ST) (b : Nat) (s : ST) (a : Nat) (G W : List Pc) (d : Nat) : Prop := Fr fqRp R0 s ∧ s.1 5526 = nI a ∧ s.1 5530 = nI (b + G.length) ∧ s.1 5531 = nI W.length ∧ s.1 5529 = nI d ∧ (∀ i (h : i < G.length), s.2.1 76 (b + i) = nI (encR b G[i])) ∧ (∀ i, i < b → s.2.1 76 i = R0.2.1 76 i) ∧ WL (s.2.1 77) W
def FX (R0 s : ST) (e : Nat × Nat) : Prop := Fr fqRp R0 s ∧ s.1 5528 = (-1000 : Int32) * nI e.1 - nI e.2
def TR (R0 : ST) (T : Nat → Nat) (n : Nat) : Prop := n ≤ 160 ∧ R0.1 5527 = nI n ∧ ∀ i, i < n → R0.2.1 75 i &&& 255 = nI (T i) ∧ T i < 256
theorem WL_up {f : Nat → Int32} {x : Int32} : ∀ (W : List Pc) (k : Nat), W.length ≤ k → WL f W → WL (upd f k x) W
  | [], _, _, _ => trivial
  | w :: W, k, hk, h => by
    have hk : W.length + 1 ≤ k := hk
    refine ⟨?_, h.2.1, h.2.2.1, WL_up W k (by omega) h.2.2.2⟩
    rw [pk_un (by omega)]
    exact h.1
section Rx
variable {R0 s : ST} {T : Nat → Nat} {n b a d : Nat} {G W : List Pc}
theorem sgr_le (hT : TR R0 T n) {a : Nat} : sgn T n a ≤ 256 := by
  unfold sgn
  split
  · rename_i h; have := (hT.2.2 a h).2; omega
  · omega
theorem sgr_in {a : Nat} (h : ¬ sgn T n a = 256) : a < n := sg_lt (fun _ h => sgn_out h) h
theorem w202v {K : Int32 → ST → Prop} (hT : TR R0 T n) (h : RX R0 b s a G W d) (ha : a ≤ n) : w_202 s K = K (sgI (sgn T n a)) s := by
  obtain ⟨f, h1, _⟩ := h
  obtain ⟨t1, t2, t3⟩ := hT
  unfold w_202
  rw [h1, f.1 5527 rfl, t2, nI_leI (by omega) (by omega), nI_clamp (by omega), f.2.1 75 rfl]
  by_cases c : n ≤ a
  · rw [sgn_out c]
    exact propext ⟨fun h => h.1 c, fun h => br_t c h⟩
  · have e : sgn T n a = T a := if_pos (by omega)
    obtain ⟨t4, t5⟩ := t3 a (by omega)
    have e2 : sgI (T a) = nI (T a) := if_neg (by omega)
    rw [e, e2, t4]
    exact propext ⟨fun h => (h.2 c).2, fun h => br_f c ⟨pin_nI (by omega) (by omega), h⟩⟩
theorem w203v {K : Int32 → ST → Prop} (hT : TR R0 T n) (h : RX R0 b s a G W d) (ha : a ≤ n) : w_203 s K = K (if 48 ≤ sgn T n a ∧ sgn T n a ≤ 57 then 1 else 0) s := by
  have e : w_203 s K = w_79 (sgI (sgn T n a)) s K := by
    unfold w_203 w_79
    rw [w202v hT h ha, w202v hT h ha]
  rw [e, w79v (sgr_le hT)]
theorem mp_204 {K : Int32 → ST → Prop} (k p : Nat) (f : Fr fqRp R0 s) (kk : ∀ s1, FX R0 s1 (k, p) → K 0 s1) : w_204 (nI k) (nI p) s K := by
  unfold w_204
  exact kk _ ⟨fr_sI 5528 f, rfl⟩
theorem RX_adv (h : RX R0 b s a G W d) : RX R0 b (sI s 5526 (s.1 5526 + 1)) (a + 1) G W d := by
  obtain ⟨f, h1, h2⟩ := h
  refine ⟨fr_sI 5526 f, ?_, h2⟩
  show s.1 5526 + 1 = nI (a + 1)
  rw [h1, nI_1]
theorem mp_207 {o v : Nat} {p1 p2 : Int32} {K : ST → Prop} (h : RX R0 b s a G W d) (hl : b + G.length < 180) (e : 16777216 * p1 + p2 = nI (encR b (o, v))) (k : ∀ s1, RX R0 b s1 a (G ++ [(o, v)]) W d → K s1) : w_207 p1 p2 s K := by
  obtain ⟨f, h1, h2, h3, h4, h5, h6, h7⟩ := h
  unfold w_207
  rw [h2, e, nI_clamp (by omega), nI_1]
  refine ⟨pin_nI hl (by omega), k _ ⟨fr_sA 76 (fr_sI 5530 f), h1, ?_, h3, h4, fun i hi => ?_, fun i hi => ?_, h7⟩⟩
  · show nI (b + G.length + 1) = nI (b + (G ++ [(o, v)]).length)
    rw [List.length_append]
    rfl
  · rw [List.length_append] at hi
    have hi : i < G.length + 1 := hi
    show upd (s.2.1 76) (b + G.length) (nI (encR b (o, v))) (b + i) = _
    by_cases c : i = G.length
    · subst c
      rw [pk_us, List.getElem_append_right (Nat.le_refl _)]
      simp
    · rw [pk_un (by omega), List.getElem_append_left (by omega)]
      exact h5 i (by omega)
  · show upd (s.2.1 76) (b + G.length) (nI (encR b (o, v))) i = _
    rw [pk_un (by omega)]
    exact h6 i hi
theorem enR_op {o : Nat} (h3 : ¬ (o = 3 ∨ o = 4)) (p : Nat) (hp : p = mpo o) (v : Nat) : (16777216 : Int32) * nI p + nI v = nI (encR b (o, v)) := by
  rw [show (16777216 : Int32) = nI 16777216 from rfl, pk_mul, nI_add]
  unfold encR
  rw [hp]
  show _ = nI (16777216 * mpo o + (if o = 3 ∨ o = 4 then _ else v))
  rw [if_neg h3]
def tpI : List Pc → Int32
  | [] => -1
  | w :: _ => nI w.1
theorem w209v {K : Int32 → ST → Prop} (h : RX R0 b s a G W d) (hW : W.length ≤ 180) : w_209 s K = K (tpI W) s := by
  obtain ⟨f, h1, h2, h3, h4, h5, h6, h7⟩ := h
  unfold w_209
  rw [h3]
  cases W with
  | nil =>
    have e : nI ([] : List Pc).length = 0 := rfl
    exact propext ⟨fun h => h.2 (fun z => z e), fun h => br_f (fun z => z e) h⟩
  | cons w W =>
    obtain ⟨w1, w2, w3, w4⟩ := h7
    have hW : W.length + 1 ≤ 180 := hW
    have e : ¬ nI (w :: W).length = 0 := by
      show ¬ nI (W.length + 1) = 0
      rw [i_eq, nI_toInt (by omega), l_0]
      omega
    have e2 : nI (w :: W).length - 1 = nI W.length := pk_sub (a := W.length + 1) (b := 1) (by omega)
    have e3 : s.2.1 77 W.length / 16777216 = nI w.1 := by
      rw [w1, show (16777216 : Int32) = nI 16777216 from rfl, pk_div (by omega) (by omega) (by omega), show (16777216 * w.1 + w.2) / 16777216 = w.1 by omega]
    rw [e2, nI_clamp (by omega), e3]
    exact propext ⟨fun h => (h.1 e).2.2, fun h => br_t e ⟨pin_nI (by omega) (by omega), by decide, h⟩⟩
/-- a push -/
theorem RX_push {w : Pc} (h : RX R0 b s a G W d) (hw : w.1 ≤ 14 ∧ w.2 < 180) : RX R0 b (sA (sI (sI s 5531 (nI (W.length + 1))) 5526 (nI (a + 1))) 77 (upd (s.2.1 77) W.length (nI (16777216 * w.1 + w.2)))) (a + 1) G (w :: W) d := by
  obtain ⟨f, h1, h2, h3, h4, h5, h6, h7⟩ := h
  exact ⟨fr_sA 77 (fr_sI 5526 (fr_sI 5531 f)), rfl, h2, rfl, h4, h5, h6, pk_us, hw.1, hw.2, WL_up W _ (Nat.le_refl _) h7⟩
theorem mp_208 {p : Nat} {K : Int32 → ST → Prop} (h : RX R0 b s a G W d) (hp : p ≤ 14) (hW : W.length < 180) (hd : d ≤ 6) (k1 : ¬ d = 6 → ∀ s1, RX R0 b s1 (a + 1) G ((p, 0) :: W) (d + 1) → K 1 s1) (k0 : d = 6 → ∀ s1, FX R0 s1 (5, a) → K 0 s1) : w_208 (nI p) s K := by
  obtain ⟨f, h1, h2, h3, h4, h5, h6, h7⟩ := h
  unfold w_208
  rw [h4, h3, h1, show (6 : Int32) = nI 6 from rfl, nI_eq (by omega) (by omega), nI_clamp (by omega), nI_1, nI_1, nI_1, show (16777216 : Int32) = nI 16777216 from rfl, pk_mul]
  by_cases c : d = 6
  · exact br_f (fun z => z c) (mp_204 5 a f (k0 c))
  · refine br_t c ⟨pin_nI (by omega) (by omega), k1 c _ ⟨fr_sA 77 (fr_sI 5526 (fr_sI 5531 (fr_sI 5529 f))), rfl, h2, rfl, rfl, h5, h6, pk_us, hp, by show 0 < 180; omega, WL_up W _ (Nat.le_refl _) h7⟩⟩
/-- a pop -/
theorem RX_pop {w : Pc} (h : RX R0 b s a G (w :: W) d) : RX R0 b (sI s 5531 (s.1 5531 - 1)) a G W d := by
  obtain ⟨f, h1, h2, h3, h4, h5, h6, h7⟩ := h
  refine ⟨fr_sI 5531 f, h1, h2, ?_, h4, h5, h6, h7.2.2.2⟩
  show s.1 5531 - 1 = nI W.length
  rw [h3]
  exact pk_sub (a := W.length + 1) (b := 1) (by omega)
/-- a pop that closes what was open -/
theorem RX_pop2 {w : Pc} (h : RX R0 b s a G (w :: W) (d + 1)) : RX R0 b (sI (sI s 5531 (s.1 5531 - 1)) 5529 (s.1 5529 - 1)) a G W d := by
  obtain ⟨f, h1, h2, h3, h4, h5, h6, h7⟩ := h
  refine ⟨fr_sI 5529 (fr_sI 5531 f), h1, h2, ?_, ?_, h5, h6, h7.2.2.2⟩
  · show s.1 5531 - 1 = nI W.length
    rw [h3]
    exact pk_sub (a := W.length + 1) (b := 1) (by omega)
  · show s.1 5529 - 1 = nI d
    rw [h4]
    exact pk_sub (a := d + 1) (b := 1) (by omega)
end Rx
/-- operations that wait, as they wait -/
def wtP (P : List Nat) : List Pc := P.map (fun o => (mpo o, 0))
def emP (P : List Nat) : List Pc := P.map (fun o => (o, 0))
theorem wtP_len {P : List Nat} : (wtP P).length = P.length := List.length_map _
theorem emP_len {P : List Nat} : (emP P).length = P.length := List.length_map _
theorem mpo_s {o : Nat} (h : 5 ≤ o) : mpo o = o - 3 := by
  obtain ⟨k, rfl⟩ : ∃ k, o = k + 5 := ⟨o - 5, by omega⟩
  show k + 2 = _
  omega
section Rc
variable {R0 : ST} {T : Nat → Nat} {n b a d : Nat} {W : List Pc}
theorem l_212 {x1 : Int32} {al : Bool} {X K : ST → Prop} (hx : x1 = (if al = true then 1 else 0)) (hs : (tpI W).toInt < 2 ∨ 7 ≤ (tpI W).toInt ∨ (al = false ∧ (tpI W).toInt < 4)) (hW : W.length + 2 ≤ 180) : ∀ (N : Nat) (P : List Nat) (G : List Pc) (s : ST), P.length < N → P.length ≤ 2 → RX R0 b s a G (wtP P ++ W) d → (∀ o, o ∈ P → (7 ≤ o ∧ o ≤ 9) ∨ (al = true ∧ 5 ≤ o ∧ o ≤ 9)) → b + G.length + P.length ≤ 180 → (∀ s1, RX R0 b s1 a (G ++ emP P) W d → X s1) → w_212_L0 N x1 s X K := by
  have e4 : (4 : Int32).toInt = 4 := rfl
  have e6 : (6 : Int32).toInt = 6 := rfl
  have e2 : (2 : Int32).toInt = 2 := rfl
  have e3 : (3 : Int32).toInt = 3 := rfl
  intro N
  induction N with
  | zero => intro P G s z; omega
  | succ N ih =>
    intro P G s hN hP h hc hl hX
    have hlen : (wtP P ++ W).length ≤ 180 := by rw [List.length_append, wtP_len]; omega
    have tp := fun (K : Int32 → ST → Prop) => w209v (K := K) h hlen
    rw [w_212_L0, tp, i_lt, e4]
    cases P with
    | nil =>
      have hX : ∀ s1, RX R0 b s1 a G W d → X s1 := by
        have := hX
        rw [show G ++ emP [] = G from List.append_nil G] at this
        exact this
      have h : RX R0 b s a G W d := h
      have et : tpI (wtP [] ++ W) = tpI W := rfl
      rw [et]
      rw [et] at tp
      by_cases c : (tpI W).toInt < 4
      · refine br_t c ?_
        cases al with
        | false => exact br_t hx (hX s h)
        | true =>
          refine br_f (by rw [hx]; decide) ?_
          rw [tp]
          refine br_f (by rw [i_eq, e2]; rcases hs with z | z | z <;> first | omega | exact absurd z.1 (by decide)) ?_
          rw [tp]
          exact br_t (by rw [i_eq, e3]; rcases hs with z | z | z <;> first | omega | exact absurd z.1 (by decide)) (hX s h)
      · refine br_f c ?_
        have c7 : 7 ≤ (tpI W).toInt := by rcases hs with z | z | z <;> omega
        rw [tp]
        refine br_f (by rw [i_le, e6]; omega) ?_
        cases al with
        | false => exact br_t hx (hX s h)
        | true =>
          refine br_f (by rw [hx]; decide) ?_
          rw [tp]
          refine br_f (by rw [i_eq, e2]; omega) ?_
          rw [tp]
          exact br_t (by rw [i_eq, e3]; omega) (hX s h)
    | cons o P =>
      have hP : P.length + 1 ≤ 2 := hP
      have hN : P.length + 1 < N + 1 := hN
      have hl : b + G.length + (P.length + 1) ≤ 180 := hl
      have ho : 5 ≤ o ∧ o ≤ 9 := by rcases hc o List.mem_cons_self with z | z <;> omega
      have eo : mpo o = o - 3 := mpo_s ho.1
      have et : tpI (wtP (o :: P) ++ W) = nI (o - 3) := by show nI (mpo o) = _; rw [eo]
      rw [et]
      rw [et] at tp
      have tI : (nI (o - 3)).toInt = (o : Int) - 3 := by rw [nI_toInt (by omega)]; omega
      have go : w_207 (nI (o - 3)) 0 s (fun s7 => w_212_L0 N x1 (sI s7 5531 (s7.1 5531 - 1)) X K) := by
        refine mp_207 (o := o) (v := 0) h (by omega) (enR_op (by omega) (o - 3) eo.symm 0) (fun s1 h1 => ?_)
        refine ih P (G ++ [(o, 0)]) _ (by omega) (by omega) (RX_pop (W := wtP P ++ W) h1) (fun p hp => hc p (List.mem_cons_of_mem _ hp)) ?_ ?_
        · rw [List.length_append]
          show b + (G.length + 1) + P.length ≤ 180
          omega
        · intro s2 h2
          rw [List.append_assoc] at h2
          exact hX s2 h2
      rw [tI]
      by_cases c : (o : Int) - 3 < 4
      · have ha : al = true := by rcases hc o List.mem_cons_self with z | z <;> first | omega | exact z.1
        rw [ha] at hx
        refine br_t c (br_f (by rw [hx]; decide) ?_)
        rw [tp]
        by_cases c2 : o = 5
        · refine br_t (by rw [i_eq, e2, tI]; omega) ?_
          rw [tp]
          exact go
        · refine br_f (by rw [i_eq, e2, tI]; omega) ?_
          rw [tp]
          refine br_f (fun z => z (by rw [i_eq, e3, tI]; omega)) ?_
          rw [tp]
          exact go
      · refine br_f c ?_
        rw [tp]
        refine br_t (by rw [i_le, e6, tI]; omega) ?_
        rw [tp]
        exact go
end Rc
