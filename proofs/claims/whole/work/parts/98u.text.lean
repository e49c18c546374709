/-! ===== what a text holds; the reference reads it whole; it keeps it ===== -/
def okZ (sg : Nat → Nat) (n : Nat) (P : Nat → Prop) (z : Clz) : Prop := P z.1 ∧ (¬ z.1 = 120 → ∃ a a1, pEn sg n a = .inr (a1, cdL z))
section Rv
variable {T : Nat → Nat} {n : Nat}
theorem pTl_ok {sg : Nat → Nat} {it : Nat → Nat → Prs} {P : Nat → Prop} (hit : ∀ k a a1 L, it k a = .inr (a1, L) → okZ sg n P (sg a, L)) : ∀ (f k a : Nat) (C C2 : List Clz), pTl sg n it f k a C = .inr C2 → (∀ z, z ∈ C → okZ sg n P z) → ∀ z, z ∈ C2 → okZ sg n P z := by
  intro f
  induction f with
  | zero =>
    intro k a C C2 h
    have h : (.inl (0, 0) : PTr) = .inr C2 := h
    cases h
  | succ f ih =>
    intro k a C C2 h hC
    unfold pTl at h
    cases hq : it k a with
    | inl e => rw [hq] at h; cases h
    | inr w =>
      obtain ⟨a1, L⟩ := w
      rw [hq] at h
      have h : (if sg a1 = 59 then pTl sg n it f (k + 1) (a1 + 1) (C ++ [(sg a, L)]) else if a1 < n then .inl (1, a1) else .inr (C ++ [(sg a, L)])) = .inr C2 := h
      have hC1 : ∀ z, z ∈ C ++ [(sg a, L)] → okZ sg n P z := by
        intro z hz
        rcases List.mem_append.mp hz with y | y
        · exact hC z y
        · rw [List.mem_singleton.mp y]
          exact hit k a a1 L hq
      by_cases c : sg a1 = 59
      · rw [if_pos c] at h
        exact ih _ _ _ _ h hC1
      · rw [if_neg c] at h
        by_cases d : a1 < n
        · rw [if_pos d] at h; cases h
        · rw [if_neg d] at h
          cases h
          exact hC1
theorem ok_ru {sg : Nat → Nat} {k a a1 : Nat} {L : List Pc} (h : clRu sg n k a = .inr (a1, L)) : okZ sg n (fun x => x = 114 ∨ x = 108 ∨ x = 120) (sg a, L) := by
  unfold clRu at h
  rcases if_inv h with ⟨c, h⟩ | ⟨_, h⟩
  · rcases if_inv h with ⟨_, h⟩ | ⟨_, h⟩
    · cases h
    · refine ⟨c, fun ne => ?_⟩
      have ne : ¬ sg a = 120 := ne
      rcases if_inv h with ⟨d, h⟩ | ⟨_, h⟩
      · exact absurd d ne
      · refine ⟨a + 1, a1, ?_⟩
        have ec : cdL (sg a, L) = L := if_neg (by show ¬ sg a = 40; omega)
        rw [ec]
        exact h
  · cases h
theorem ok_ch {sg : Nat → Nat} {k a a1 : Nat} {L : List Pc} (h : clC sg n k a = .inr (a1, L)) : okZ sg n (fun x => x = 40) (sg a, L) := by
  unfold clC at h
  rcases if_inv h with ⟨c, h⟩ | ⟨_, h⟩
  · rcases if_inv h with ⟨_, h⟩ | ⟨_, h⟩
    · cases h
    · refine ⟨c, fun _ => ?_⟩
      have ec : cdL (sg a, L) = L.tail := if_pos c
      rw [ec]
      unfold stC at h
      obtain ⟨a0, G, h1, h2⟩ := pb_inv h
      refine ⟨a, a0, ?_⟩
      rcases if_inv h2 with ⟨_, h2⟩ | ⟨_, h2⟩
      · rw [← (inr_inv h2).2]
        exact h1
      · obtain ⟨a2, L2, h3, h4⟩ := pb_inv h2
        obtain ⟨w, hw⟩ := pLt_one _ _ _ _ _ _ h3
        rw [← (inr_inv h4).2, hw]
        exact h1
  · cases h
theorem rd_ru {S0 : ST} {x1 x2 : Int32} {X48 : Int32 → Int32 → Int32 → ST → Prop} {K : Int32 → ST → Prop} (hT : TR S0 T n) (hI : RIz S0 [] 0 0) (h1 : ∀ C2, pTl (sgn T n) n (clRu (sgn T n) n) 11 0 0 [] = .inr C2 → ∀ s1 a2 M1, Fr fqRt S0 s1 → RIz s1 C2 a2 M1 → a2 ≤ n → 1 ≤ C2.length → C2.length ≤ 10 → X48 x1 x2 1 s1) (h0 : ∀ e, pTl (sgn T n) n (clRu (sgn T n) n) 11 0 0 [] = .inl e → ∀ s1, Fr fqRt S0 s1 → s1.1 5528 = (-1000 : Int32) * nI e.1 - nI e.2 → X48 x1 x2 0 s1) : w_221 S0 (fun r10 s9 => ∃ m, w_226_L29 m x1 x2 r10 s9 X48 K) := by
  refine mp_221 (C := []) hT hI (by omega) (by show 0 ≤ 10; omega) ?_ ?_
  · intro a1 L er s1 M1 f1 hI1 ha1 hlt
    have er : clRu (sgn T n) n 0 0 = .inr (a1, L) := er
    have e := pTl_af (C := []) (n := n) (f := 10) (sg := sgn T n) (it := clRu (sgn T n) n) (k := 0) (a := 0) er
    rw [e] at h1 h0
    have l1 : (([] : List Clz) ++ [(sgn T n 0, L)]).length = 1 := rfl
    refine ⟨13, l_226 (S0 := S0) hT 13 a1 M1 s1 ([] ++ [(sgn T n 0, L)]) (by rw [l1]; omega) (by rw [l1]; omega) f1 hI1 ha1 ?_ ?_ (by rw [l1]; omega)⟩
    · rw [l1]; exact h1
    · rw [l1]; exact h0
  · intro e er s1 f1 e28
    have er : clRu (sgn T n) n 0 0 = .inl e := er
    have e0 := pTl_no (C := []) (n := n) (f := 10) (sg := sgn T n) (it := clRu (sgn T n) n) (k := 0) (a := 0) er
    rw [e0] at h0
    refine ⟨1, ?_⟩
    rw [w_226_L29]
    exact br_t rfl (h0 e rfl s1 f1 e28)
theorem rd_ch {S0 : ST} {X48 : Int32 → ST → Prop} {K : Int32 → ST → Prop} (hT : TR S0 T n) (hI : RIz S0 [] 0 0) (h1 : ∀ C2, pTl (sgn T n) n (clC (sgn T n) n) 5 0 0 [] = .inr C2 → ∀ s1 a2 M1, Fr fqRt S0 s1 → RIz s1 C2 a2 M1 → a2 ≤ n → 1 ≤ C2.length → C2.length ≤ 4 → X48 1 s1) (h0 : ∀ e, pTl (sgn T n) n (clC (sgn T n) n) 5 0 0 [] = .inl e → ∀ s1, Fr fqRt S0 s1 → s1.1 5528 = (-1000 : Int32) * nI e.1 - nI e.2 → X48 0 s1) : w_223 S0 (fun r10 s9 => ∃ m, w_227_L21 m r10 s9 X48 K) := by
  refine mp_223 (C := []) hT hI (by omega) (by show 0 ≤ 4; omega) ?_ ?_
  · intro a1 L er s1 M1 f1 hI1 ha1 hlt
    have er : clC (sgn T n) n 0 0 = .inr (a1, L) := er
    have e := pTl_af (C := []) (n := n) (f := 4) (sg := sgn T n) (it := clC (sgn T n) n) (k := 0) (a := 0) er
    rw [e] at h1 h0
    have l1 : (([] : List Clz) ++ [(sgn T n 0, L)]).length = 1 := rfl
    refine ⟨7, l_227 (S0 := S0) hT 7 a1 M1 s1 ([] ++ [(sgn T n 0, L)]) (by rw [l1]; omega) (by rw [l1]; omega) f1 hI1 ha1 ?_ ?_ (by rw [l1]; omega)⟩
    · rw [l1]; exact h1
    · rw [l1]; exact h0
  · intro e er s1 f1 e28
    have er : clC (sgn T n) n 0 0 = .inl e := er
    have e0 := pTl_no (C := []) (n := n) (f := 4) (sg := sgn T n) (it := clC (sgn T n) n) (k := 0) (a := 0) er
    rw [e0] at h0
    refine ⟨1, ?_⟩
    rw [w_227_L21]
    exact br_t rfl (h0 e rfl s1 f1 e28)
end Rv
abbrev fqKa : FS := ([], [83], [], false, false)
abbrev fqKb : FS := ([], [87, 88, 89, 90, 91], [], false, false)
abbrev fqKk : FS := ([], [83, 86, 87, 88, 89, 90, 91], [], false, false)
def KcZ (S0 s : ST) (I k : Nat) : Prop := (∀ j, j < k → s.2.1 87 (10 * I + j) = S0.2.1 78 j ∧ s.2.1 90 (10 * I + j) = S0.2.1 81 j ∧ s.2.1 91 (10 * I + j) = S0.2.1 82 j ∧ s.2.1 88 (10 * I + j) = nI (180 * I) + S0.2.1 79 j ∧ s.2.1 89 (10 * I + j) = nI (180 * I) + S0.2.1 80 j) ∧ ∀ r, 87 ≤ r → r ≤ 91 → ∀ x, (x < 10 * I ∨ 10 * I + 10 ≤ x) → s.2.1 r x = S0.2.1 r x
def KdZ (S0 s : ST) (I k : Nat) : Prop := (∀ i, i < k → s.2.1 83 (180 * I + i) = S0.2.1 76 i) ∧ ∀ x, (x < 180 * I ∨ 180 * I + 180 ≤ x) → s.2.1 83 x = S0.2.1 83 x
theorem l_224a {S0 : ST} {I M : Nat} {X26 : Int32 → ST → Prop} {K : ST → Prop} (hI : I < 26) (hM : M ≤ 160) (h30 : S0.1 5530 = nI M) : ∀ (N k : Nat) (s : ST), M - k < N → k ≤ M → Fr fqKa S0 s → KdZ S0 s I k → (∀ s1, Fr fqKa S0 s1 → KdZ S0 s1 I M → X26 (nI I) s1) → w_224_L8 N (nI I) (nI k) s X26 K := by
  intro N
  induction N with
  | zero => intro k s z; omega
  | succ N ih =>
    intro k s hN hk f hd hX
    have e30 : s.1 5530 = nI M := (f.1 5530 rfl).trans h30
    have ei : (180 : Int32) * nI I + nI k = nI (180 * I + k) := by
      rw [show (180 : Int32) = nI 180 from rfl, pk_mul, nI_add]
    rw [w_224_L8, e30, nI_leI (by omega) (by omega)]
    by_cases c : M ≤ k
    · have hd : KdZ S0 s I M := by rw [show M = k by omega]; exact hd
      exact br_t c (hX s f hd)
    · refine br_f c ⟨pin_nI (by omega) (by omega), ?_⟩
      rw [ei, nI_clamp (show k < 2 ^ 31 by omega), nI_clamp (show 180 * I + k < 2 ^ 31 by omega), nI_1]
      refine ⟨pin_nI (by omega) (by omega), ih (k + 1) _ (by omega) (by omega) (fr_sA 83 f) ⟨fun i hi => ?_, fun x hx => ?_⟩ hX⟩
      · show upd (s.2.1 83) (180 * I + k) (s.2.1 76 k) (180 * I + i) = S0.2.1 76 i
        by_cases d : i = k
        · subst d
          rw [pk_us, f.2.1 76 rfl]
        · rw [pk_un (by omega)]
          exact hd.1 i (by omega)
      · show upd (s.2.1 83) (180 * I + k) (s.2.1 76 k) x = S0.2.1 83 x
        rw [pk_un (by omega)]
        exact hd.2 x hx
theorem l_224b {S0 : ST} {I L : Nat} {X88 : ST → Prop} {K : ST → Prop} (hI : I < 26) (hL : L ≤ 10) (h32 : S0.1 5532 = nI L) : ∀ (N k : Nat) (s : ST), L - k < N → k ≤ L → Fr fqKb S0 s → KcZ S0 s I k → (∀ s1, Fr fqKb S0 s1 → KcZ S0 s1 I L → X88 s1) → w_224_L28 N (nI I) (nI k) s X88 K := by
  intro N
  induction N with
  | zero => intro k s z; omega
  | succ N ih =>
    intro k s hN hk f hd hX
    have e32 : s.1 5532 = nI L := (f.1 5532 rfl).trans h32
    have ei : (10 : Int32) * nI I + nI k = nI (10 * I + k) := by
      rw [show (10 : Int32) = nI 10 from rfl, pk_mul, nI_add]
    have e180 : (180 : Int32) * nI I = nI (180 * I) := by
      rw [show (180 : Int32) = nI 180 from rfl, pk_mul]
    rw [w_224_L28, e32, nI_leI (by omega) (by omega)]
    by_cases c : L ≤ k
    · have hd : KcZ S0 s I L := by rw [show L = k by omega]; exact hd
      exact br_t c (hX s f hd)
    · have p1 : pin (nI k) 10 = true := pin_nI (by omega) (by omega)
      have p2 : pin ((10 : Int32) * nI I + nI k) 260 = true := by rw [ei]; exact pin_nI (by omega) (by omega)
      refine br_f c ⟨p1, p2, p1, p2, p1, p2, p1, p2, p1, p2, ?_⟩
      rw [ei, e180, nI_clamp (show k < 2 ^ 31 by omega), nI_clamp (show 10 * I + k < 2 ^ 31 by omega), nI_1]
      refine ih (k + 1) _ (by omega) (by omega) (fr_sA 89 (fr_sA 88 (fr_sA 91 (fr_sA 90 (fr_sA 87 f))))) ⟨fun j hj => ?_, fun r r1 r2 x hx => ?_⟩ hX
      · show upd (s.2.1 87) (10 * I + k) (s.2.1 78 k) (10 * I + j) = S0.2.1 78 j ∧ upd (s.2.1 90) (10 * I + k) (s.2.1 81 k) (10 * I + j) = S0.2.1 81 j ∧ upd (s.2.1 91) (10 * I + k) (s.2.1 82 k) (10 * I + j) = S0.2.1 82 j ∧ upd (s.2.1 88) (10 * I + k) (nI (180 * I) + s.2.1 79 k) (10 * I + j) = nI (180 * I) + S0.2.1 79 j ∧ upd (s.2.1 89) (10 * I + k) (nI (180 * I) + s.2.1 80 k) (10 * I + j) = nI (180 * I) + S0.2.1 80 j
        by_cases d : j = k
        · subst d
          rw [pk_us, pk_us, pk_us, pk_us, pk_us, f.2.1 78 rfl, f.2.1 81 rfl, f.2.1 82 rfl, f.2.1 79 rfl, f.2.1 80 rfl]
          exact ⟨rfl, rfl, rfl, rfl, rfl⟩
        · have ne : ¬ 10 * I + j = 10 * I + k := by omega
          rw [pk_un ne, pk_un ne, pk_un ne, pk_un ne, pk_un ne]
          exact hd.1 j (by omega)
      · have ne : ¬ x = 10 * I + k := by omega
        have hr : r = 87 ∨ r = 88 ∨ r = 89 ∨ r = 90 ∨ r = 91 := by omega
        have go := hd.2 r r1 r2 x hx
        rcases hr with y | y | y | y | y <;> subst y
        · show upd (s.2.1 87) (10 * I + k) _ x = _
          rw [pk_un ne]; exact go
        · show upd (s.2.1 88) (10 * I + k) _ x = _
          rw [pk_un ne]; exact go
        · show upd (s.2.1 89) (10 * I + k) _ x = _
          rw [pk_un ne]; exact go
        · show upd (s.2.1 90) (10 * I + k) _ x = _
          rw [pk_un ne]; exact go
        · show upd (s.2.1 91) (10 * I + k) _ x = _
          rw [pk_un ne]; exact go
/-- text I has been kept: M pieces of code, L clauses -/
def Kpt (S0 s : ST) (I M L : Nat) : Prop := Fr fqKk S0 s ∧ KdZ S0 s I M ∧ KcZ S0 s I L ∧ s.2.1 86 I = nI L ∧ ∀ x, ¬ x = I → s.2.1 86 x = S0.2.1 86 x
theorem mp_224 {s : ST} {I M L : Nat} {K : ST → Prop} (hI : I < 26) (hM : M ≤ 160) (hL : L ≤ 10) (h30 : s.1 5530 = nI M) (h32 : s.1 5532 = nI L) (k : ∀ s1, Kpt s s1 I M L → K s1) : w_224 (nI I) s K := by
  unfold w_224
  rw [h32, nI_clamp (show I < 2 ^ 31 by omega)]
  refine ⟨pin_nI hI (by omega), M + 1, ?_⟩
  have z0 : (0 : Int32) = nI 0 := rfl
  rw [z0]
  refine l_224a (S0 := sA s 86 (upd (s.2.1 86) I (nI L))) (M := M) hI hM h30 (M + 1) 0 _ (by omega) (by omega) (fr_rfl _ _) ⟨fun i hi => absurd hi (by omega), fun _ _ => rfl⟩ (fun s1 f1 d1 => ⟨L + 1, ?_⟩)
  refine l_224b (S0 := s1) (L := L) hI hL ((f1.1 5532 rfl).trans h32) (L + 1) 0 _ (by omega) (by omega) (fr_rfl _ _) ⟨fun i hi => absurd hi (by omega), fun _ _ _ _ _ => rfl⟩ (fun s2 f2 d2 => k s2 ⟨?_, ⟨?_, ?_⟩, ⟨?_, ?_⟩, ?_, ?_⟩)
  · exact fr_tr (F := fqKb) rfl (fr_tr (F := fqKa) rfl (fr_sA 86 (fr_rfl fqKk s)) f1) f2
  · intro i hi
    rw [f2.2.1 83 rfl]
    exact d1.1 i hi
  · intro x hx
    rw [f2.2.1 83 rfl]
    exact d1.2 x hx
  · intro j hj
    obtain ⟨q1, q2, q3, q4, q5⟩ := d2.1 j hj
    rw [f1.2.1 78 rfl] at q1
    rw [f1.2.1 81 rfl] at q2
    rw [f1.2.1 82 rfl] at q3
    rw [f1.2.1 79 rfl] at q4
    rw [f1.2.1 80 rfl] at q5
    exact ⟨q1, q2, q3, q4, q5⟩
  · intro r r1 r2 x hx
    rw [d2.2 r r1 r2 x hx]
    have hr : r = 87 ∨ r = 88 ∨ r = 89 ∨ r = 90 ∨ r = 91 := by omega
    rcases hr with y | y | y | y | y <;> subst y
    · rw [f1.2.1 87 rfl]; rfl
    · rw [f1.2.1 88 rfl]; rfl
    · rw [f1.2.1 89 rfl]; rfl
    · rw [f1.2.1 90 rfl]; rfl
    · rw [f1.2.1 91 rfl]; rfl
  · rw [f2.2.1 86 rfl, f1.2.1 86 rfl]
    show upd (s.2.1 86) I (nI L) I = nI L
    exact pk_us
  · intro x hx
    rw [f2.2.1 86 rfl, f1.2.1 86 rfl]
    show upd (s.2.1 86) I (nI L) x = s.2.1 86 x
    exact pk_un hx
