/-! ===== rule and chain: what is refused, what is read ===== -/
def okRu (a1 a2 a3 tp u : Int32) : Prop := 0 ≤ a1.toInt ∧ a1.toInt ≤ 3999 ∧ a1.toInt ≤ a2.toInt ∧ a2.toInt ≤ 3999 ∧ 1 ≤ a3.toInt ∧ a3.toInt ≤ 160 ∧ a3.toInt ≤ tp.toInt ∧ u.toInt < 20
def okCn (a1 tp u : Int32) : Prop := 1 ≤ a1.toInt ∧ a1.toInt ≤ 100 ∧ a1.toInt ≤ tp.toInt ∧ u.toInt < 6
theorem rej_137 {s : ST} {a1 a2 a3 : Int32} {K : Int32 → ST → Prop} (hc : ¬ okRu a1 a2 a3 (s.1 7) (s.1 2002)) (k : K (-1) s) : w_137 a1 a2 a3 s K := by
  unfold w_137 w_136 w_297_R20
  simp only [e_182, t_182, e_181, t_181, Int32.reduceToInt]
  by_cases c1 : 0 ≤ a1.toInt ∧ a1.toInt ≤ 3999
  · refine br_f (fun z => z c1) ?_
    by_cases c2 : 0 ≤ a2.toInt ∧ a2.toInt ≤ 3999
    · refine br_f (fun z => z c2) ?_
      by_cases c3 : a2 < a1
      · exact br_t c3 k
      refine br_f c3 ?_
      rw [i_lt] at c3
      by_cases c4 : 1 ≤ a3.toInt ∧ a3.toInt ≤ 160
      · refine br_f (fun z => z c4) ?_
        by_cases c5 : s.1 7 < a3
        · exact br_t c5 (br_t (by trivial) k)
        refine br_f c5 (br_f (by decide) ?_)
        rw [i_lt] at c5
        by_cases c6 : s.1 2002 < 20
        · rw [i_lt] at c6
          have e : (20 : Int32).toInt = 20 := rfl
          exact absurd ⟨c1.1, c1.2, by omega, c2.2, c4.1, c4.2, by omega, by omega⟩ hc
        · exact br_f c6 k
      · exact br_t c4 (br_t (by trivial) k)
    · exact br_t c2 k
  · exact br_t c1 k
theorem rej_226 {s : ST} {a1 a2 a3 : Int32} {K : Int32 → ST → Prop} (h20 : (s.1 5541).toInt ≤ 20) (hc : ¬ okRu a1 a2 a3 (s.1 5525) (s.1 5541)) (k : K (-1) s) : w_226 a1 a2 a3 s K := by
  unfold w_226
  simp only [e_187, t_187, e_186, t_186, Int32.reduceToInt]
  by_cases c1 : 0 ≤ a1.toInt ∧ a1.toInt ≤ 3999
  · refine br_f (fun z => z c1) ?_
    by_cases c2 : a1.toInt ≤ a2.toInt ∧ a2.toInt ≤ 3999
    · refine br_f (fun z => z c2) ?_
      by_cases c4 : 1 ≤ a3.toInt ∧ a3.toInt ≤ 160
      · refine br_f (fun z => z c4) ?_
        by_cases c5 : s.1 5525 < a3
        · exact br_t c5 k
        refine br_f c5 ?_
        rw [i_lt] at c5
        by_cases c6 : s.1 5541 = 20
        · exact br_f (fun z => z c6) k
        · have e : (20 : Int32).toInt = 20 := rfl
          rw [i_eq] at c6
          exact absurd ⟨c1.1, c1.2, c2.1, c2.2, c4.1, c4.2, by omega, by omega⟩ hc
      · exact br_t c4 k
    · exact br_t c2 k
  · exact br_t c1 k
theorem rej_149 {s : ST} {a1 : Int32} {K : Int32 → ST → Prop} (hc : ¬ okCn a1 (s.1 7) (s.1 2202)) (k : K (-1) s) : w_149 a1 s K := by
  unfold w_149 w_136 w_297_R22
  simp only [e_181, t_181, Int32.reduceToInt]
  by_cases c4 : 1 ≤ a1.toInt ∧ a1.toInt ≤ 100
  · refine br_f (fun z => z c4) ?_
    by_cases c5 : s.1 7 < a1
    · exact br_t c5 (br_t (by trivial) k)
    refine br_f c5 (br_f (by decide) ?_)
    rw [i_lt] at c5
    by_cases c6 : s.1 2202 < 6
    · rw [i_lt] at c6
      have e : (6 : Int32).toInt = 6 := rfl
      exact absurd ⟨c4.1, c4.2, by omega, by omega⟩ hc
    · exact br_f c6 k
  · exact br_t c4 (br_t (by trivial) k)
theorem rej_227 {s : ST} {a1 : Int32} {K : Int32 → ST → Prop} (h6 : (s.1 5542).toInt ≤ 6) (hc : ¬ okCn a1 (s.1 5525) (s.1 5542)) (k : K (-1) s) : w_227 a1 s K := by
  unfold w_227
  simp only [e_186, t_186, Int32.reduceToInt]
  by_cases c4 : 1 ≤ a1.toInt ∧ a1.toInt ≤ 100
  · refine br_f (fun z => z c4) ?_
    by_cases c5 : s.1 5525 < a1
    · exact br_t c5 k
    refine br_f c5 ?_
    rw [i_lt] at c5
    by_cases c6 : s.1 5542 = 6
    · exact br_f (fun z => z c6) k
    · have e : (6 : Int32).toInt = 6 := rfl
      rw [i_eq] at c6
      exact absurd ⟨c4.1, c4.2, by omega, by omega⟩ hc
  · exact br_t c4 k
abbrev fqC7 : FS := ([7, 3502, 3503, 3504, 3505, 3506], [36], [], false, true)
/-- what the class's reader leaves -/
def CE (s s1 : ST) : Prop := Fr fqC7 s s1 ∧ s1.1 7 = 0 ∧ Ext s.2.2.2.2 s1.2.2.2.2 ∧ s1.2.2.2.2.length ≤ s.2.2.2.2.length + 40 ∧ psl s1.2.2.2.2 ≤ psl s.2.2.2.2 + 3000
theorem CE_of {s s1 : ST} {n : Nat} {fr to : Int32} {R : PTr} (h : FinC (bgS (sI s 7 0) n) s.2.2.2.2.length fr to s1 R) : CE s s1 := by
  obtain ⟨h1, h2, h3, h4, _⟩ := h
  refine ⟨fr_tr (F := fqPd) rfl (fr_sI 3506 (fr_sI 3505 (fr_sI 3504 (fr_sI 3502 (fr_sI 7 (fr_rfl fqC7 s)))))) h1, ?_, ⟨h2.1, fun i x q => ?_⟩, h3, h4⟩
  · rw [h1.1 7 rfl]
    rfl
  · exact h2.2 i x q (by have := q_lt q; omega) (Or.inl (q_lt q))
section Sx
variable {T : Nat → Nat} {n : Nat}
theorem fin_60 {s1 : ST} {L0 : Nat} {fr to : Int32} {R : PTr} {K0 : Int32 → ST → Prop} {K1 : ST → Prop} (h : FinV L0 fr to s1 R) (k0 : ∀ e, R = .inl e → K0 ((-1000 : Int32) * nI e.1 - nI e.2) s1) (k1 : ∀ C, R = .inr C → LI s1.2.2.2.2 L0 fr to C → K1 s1) : w_60 s1 (fun r12 s11 => ((r12 = 0 → K1 s11) ∧ (¬ (r12 = 0) → w_61 s11 K0))) := by
  unfold w_60 w_61
  cases R with
  | inl e =>
    obtain ⟨h1, h2, h3, h4⟩ := h
    refine br_f ?_ (br_f (by decide) ?_)
    · rw [h1, i_eq, nI_toInt (by omega), l_0]
      omega
    · rw [h1, h2]
      exact k0 e rfl
  | inr C =>
    obtain ⟨h1, h2⟩ := h
    exact br_t h1 (br_t rfl (k1 C rfl h2))
theorem acc_137 {s : ST} {a1 a2 : Int32} {K : Int32 → ST → Prop} (ok : okRu a1 a2 (nI n) (s.1 7) (s.1 2002)) (hn : n ≤ 160) (hT : ∀ i, i < n → s.2.1 27 i = nI (T i) ∧ T i < 256) (k0 : ∀ e, pTl (sgn T n) n (clRu (sgn T n) n) 11 0 0 [] = .inl e → ∀ s1, CE s s1 → K ((-1000 : Int32) * nI e.1 - nI e.2) s1) (k1 : ∀ C, pTl (sgn T n) n (clRu (sgn T n) n) 11 0 0 [] = .inr C → ∀ s1, CE s s1 → LI s1.2.2.2.2 s.2.2.2.2.length a1 a2 C → w_138_R20 s.2.2.2.2.length s1 K) : w_137 a1 a2 (nI n) s K := by
  obtain ⟨o1, o2, o3, o4, o5, o6, o7, o8⟩ := ok
  have e : (20 : Int32).toInt = 20 := rfl
  unfold w_137 w_136 w_297_R20
  simp only [e_182, t_182, e_181, t_181, Int32.reduceToInt]
  refine br_f (fun z => z ⟨o1, o2⟩) (br_f (fun z => z ⟨by omega, o4⟩) (br_f (by rw [i_lt]; omega) (br_f (fun z => z ⟨o5, o6⟩) (br_f (by rw [i_lt]; omega) (br_f (by decide) (br_t (by rw [i_lt]; omega) ?_))))))
  refine mp_62 (T := T) (s := sI s 7 0) hn hT (fun s1 h1 => ?_)
  have hce := CE_of h1
  exact fin_60 (K0 := fun r16 s15 => K r16 s15) (K1 := fun s11 => w_138_R20 s.2.2.2.2.length s11 (fun r14 s13 => K r14 s13)) h1.2.2.2.2 (fun e he => k0 e he s1 hce) (fun C hC hl => k1 C hC s1 hce hl)
theorem acc_149 {s : ST} {K : Int32 → ST → Prop} (ok : okCn (nI n) (s.1 7) (s.1 2202)) (hn : n ≤ 160) (hT : ∀ i, i < n → s.2.1 27 i = nI (T i) ∧ T i < 256) (k0 : ∀ e, pTl (sgn T n) n (clC (sgn T n) n) 5 0 0 [] = .inl e → ∀ s1, CE s s1 → K ((-1000 : Int32) * nI e.1 - nI e.2) s1) (k1 : ∀ C, pTl (sgn T n) n (clC (sgn T n) n) 5 0 0 [] = .inr C → ∀ s1, CE s s1 → LI s1.2.2.2.2 s.2.2.2.2.length 0 3999 C → w_138_R22 s.2.2.2.2.length s1 K) : w_149 (nI n) s K := by
  obtain ⟨o5, o6, o7, o8⟩ := ok
  have e : (6 : Int32).toInt = 6 := rfl
  unfold w_149 w_136 w_297_R22
  simp only [e_181, t_181, Int32.reduceToInt]
  refine br_f (fun z => z ⟨o5, o6⟩) (br_f (by rw [i_lt]; omega) (br_f (by decide) (br_t (by rw [i_lt]; omega) ?_)))
  refine mp_63 (T := T) (s := sI s 7 0) hn hT (fun s1 h1 => ?_)
  have hce := CE_of h1
  exact fin_60 (K0 := fun r16 s15 => K r16 s15) (K1 := fun s11 => w_138_R22 s.2.2.2.2.length s11 (fun r14 s13 => K r14 s13)) h1.2.2.2.2 (fun e he => k0 e he s1 hce) (fun C hC hl => k1 C hC s1 hce hl)
abbrev fqR7 : FS := ([5525, 5526, 5527, 5528, 5529, 5530, 5531, 5532, 5533], [76, 77, 78, 79, 80, 81, 82], [], false, false)
abbrev fqR8 : FS := ([5525, 5526, 5527, 5528, 5529, 5530, 5531, 5532, 5533], [76, 77, 78, 79, 80, 81, 82, 84, 85], [], false, false)
abbrev fqT1 : FS := ([5525], [84, 85], [], false, false)
def bgR (s : ST) (n : Nat) : ST := sI (sI (sI (sI s 5526 0) 5527 (nI n)) 5530 0) 5532 0
theorem bgR_ok {s : ST} (hn : n ≤ 160) (hT : ∀ i, i < n → s.2.1 75 i &&& 255 = nI (T i) ∧ T i < 256) : TR (bgR s n) T n ∧ RIz (bgR s n) [] 0 0 ∧ Fr fqR7 s (bgR s n) := ⟨⟨hn, rfl, hT⟩, ⟨rfl, rfl, Nat.le_refl _, rfl, fun j hj => absurd hj (by show ¬ j < 0; omega)⟩, fr_sI 5532 (fr_sI 5530 (fr_sI 5527 (fr_sI 5526 (fr_rfl _ _))))⟩
theorem acc_226 {s : ST} {a1 a2 : Int32} {u : Nat} {K : Int32 → ST → Prop} (ok : okRu a1 a2 (nI n) (s.1 5525) (s.1 5541)) (hu : s.1 5541 = nI u) (hu20 : u < 20) (hn : n ≤ 160) (hT : ∀ i, i < n → s.2.1 75 i &&& 255 = nI (T i) ∧ T i < 256) (k0 : ∀ e, pTl (sgn T n) n (clRu (sgn T n) n) 11 0 0 [] = .inl e → ∀ s1, Fr fqR7 s s1 → s1.1 5525 = 0 → K ((-1000 : Int32) * nI e.1 - nI e.2) s1) (k1 : ∀ C, pTl (sgn T n) n (clRu (sgn T n) n) 11 0 0 [] = .inr C → 1 ≤ C.length → C.length ≤ 10 → ∀ s1 s2 a M, Fr fqR8 s s1 → RIz s1 C a M → a ≤ n → s1.1 5525 = 0 → s1.2.1 84 = upd (s.2.1 84) u a1 → s1.2.1 85 = upd (s.2.1 85) u a2 → Kpt s1 s2 u M C.length → K (nI u) (sI s2 5541 (nI (u + 1)))) : w_226 a1 a2 (nI n) s K := by
  obtain ⟨o1, o2, o3, o4, o5, o6, o7, o8⟩ := ok
  have e : (20 : Int32).toInt = 20 := rfl
  obtain ⟨b1, b2, b3⟩ := bgR_ok (s := s) hn hT
  unfold w_226 w_225
  simp only [e_187, t_187, e_186, t_186, Int32.reduceToInt]
  refine br_f (fun z => z ⟨o1, o2⟩) (br_f (fun z => z ⟨o3, o4⟩) (br_f (fun z => z ⟨o5, o6⟩) (br_f (by rw [i_lt]; omega) (br_t (by rw [i_eq]; omega) ?_))))
  refine rd_ru (S0 := bgR s n) (T := T) (n := n) b1 b2 ?_ ?_
  · intro C hC s15 a M f15 hI ha h1 h10
    have f : Fr fqR7 s s15 := fr_tr (F := fqRt) rfl b3 f15
    have e41 : s15.1 5541 = nI u := (f.1 5541 rfl).trans hu
    refine br_t (by decide) ?_
    rw [e41, nI_clamp (show u < 2 ^ 31 by omega)]
    refine ⟨pin_nI hu20 (by omega), pin_nI hu20 (by omega), ?_⟩
    have f1 : Fr fqT1 s15 (sA (sA (sI s15 5525 0) 84 (upd (s15.2.1 84) u a1)) 85 (upd (s15.2.1 85) u a2)) := fr_sA 85 (fr_sA 84 (fr_sI 5525 (fr_rfl _ _)))
    have hI1 := RIz_fr f1 hI
    refine mp_224 (M := M) (L := C.length) (by omega) (by have := hI.2.2.1; omega) h10 hI1.2.1 hI1.2.2.2.1 (fun s16 kp => ?_)
    have e16 : s16.1 5541 = nI u := (kp.1.1 5541 rfl).trans e41
    rw [e16, t_a1s, nI_1]
    refine k1 C hC h1 h10 _ s16 a M (fr_sA 85 (fr_sA 84 (fr_sI 5525 (fr_weak rfl f)))) hI1 ha rfl ?_ ?_ kp
    · show upd (s15.2.1 84) u a1 = _
      rw [f.2.1 84 rfl]
    · show upd (s15.2.1 85) u a2 = _
      rw [f.2.1 85 rfl]
  · intro e he s15 f15 e28
    have f : Fr fqR7 s s15 := fr_tr (F := fqRt) rfl b3 f15
    refine br_f (fun z => z rfl) ?_
    rw [e28]
    exact k0 e he _ (fr_sI 5525 f) rfl
theorem acc_227 {s : ST} {u : Nat} {K : Int32 → ST → Prop} (ok : okCn (nI n) (s.1 5525) (s.1 5542)) (hu : s.1 5542 = nI u) (hu6 : u < 6) (hn : n ≤ 160) (hT : ∀ i, i < n → s.2.1 75 i &&& 255 = nI (T i) ∧ T i < 256) (k0 : ∀ e, pTl (sgn T n) n (clC (sgn T n) n) 5 0 0 [] = .inl e → ∀ s1, Fr fqR7 s s1 → s1.1 5525 = 0 → K ((-1000 : Int32) * nI e.1 - nI e.2) s1) (k1 : ∀ C, pTl (sgn T n) n (clC (sgn T n) n) 5 0 0 [] = .inr C → 1 ≤ C.length → C.length ≤ 4 → ∀ s1 s2 a M, Fr fqR7 s s1 → RIz s1 C a M → a ≤ n → s1.1 5525 = 0 → Kpt s1 s2 (20 + u) M C.length → K (nI u) (sI s2 5542 (nI (u + 1)))) : w_227 (nI n) s K := by
  obtain ⟨o5, o6, o7, o8⟩ := ok
  have e : (6 : Int32).toInt = 6 := rfl
  obtain ⟨b1, b2, b3⟩ := bgR_ok (s := s) hn hT
  unfold w_227 w_225
  simp only [e_186, t_186, Int32.reduceToInt]
  refine br_f (fun z => z ⟨o5, o6⟩) (br_f (by rw [i_lt]; omega) (br_t (by rw [i_eq]; omega) ?_))
  refine rd_ch (S0 := bgR s n) (T := T) (n := n) b1 b2 ?_ ?_
  · intro C hC s15 a M f15 hI ha h1 h4
    have f : Fr fqR7 s s15 := fr_tr (F := fqRt) rfl b3 f15
    have e42 : s15.1 5542 = nI u := (f.1 5542 rfl).trans hu
    have e20 : (20 : Int32) + nI u = nI (20 + u) := nI_add 20 u
    refine br_t (by decide) ?_
    rw [e42, e20]
    have f1 : Fr fqT1 s15 (sI s15 5525 0) := fr_sI 5525 (fr_rfl _ _)
    have hI1 := RIz_fr f1 hI
    refine mp_224 (M := M) (L := C.length) (by omega) (by have := hI.2.2.1; omega) (by omega) hI1.2.1 hI1.2.2.2.1 (fun s16 kp => ?_)
    have e16 : s16.1 5542 = nI u := (kp.1.1 5542 rfl).trans e42
    rw [e16, t_a1s, nI_1]
    exact k1 C hC h1 h4 _ s16 a M (fr_sI 5525 f) hI1 ha rfl kp
  · intro e he s15 f15 e28
    have f : Fr fqR7 s s15 := fr_tr (F := fqRt) rfl b3 f15
    refine br_f (fun z => z rfl) ?_
    rw [e28]
    exact k0 e he _ (fr_sI 5525 f) rfl
end Sx
