/-! ===== the reference's clauses: one is read ===== -/
abbrev fqRt : FS := ([5526, 5528, 5529, 5530, 5531, 5532, 5533], [76, 77, 78, 79, 80, 81, 82], [], false, false)
def cdR (z : Clz) : List Pc := if z.1 = 120 then [] else cdL z
def RCz (s : ST) (M j : Nat) (z : Clz) : Prop := ∃ b, s.2.1 79 j = nI b ∧ s.2.1 80 j = nI (b + (cdR z).length) ∧ b + (cdR z).length ≤ M ∧ (∀ p (hp : p < (cdR z).length), s.2.1 76 (b + p) = nI (encR b (cdR z)[p])) ∧ (¬ z.1 = 40 → s.2.1 78 j = nI z.1) ∧ (z.1 = 120 → ∃ v1 v2, z.2 = [(v1, 0), (v2, 0)] ∧ s.2.1 81 j = nI v1 ∧ s.2.1 82 j = nI v2) ∧ (z.1 = 40 → ∃ w G, z.2 = (w, 0) :: G ∧ s.2.1 81 j = nI w)
def RIz (s : ST) (C : List Clz) (a M : Nat) : Prop := s.1 5526 = nI a ∧ s.1 5530 = nI M ∧ M ≤ a ∧ s.1 5532 = nI C.length ∧ ∀ j (hj : j < C.length), RCz s M j C[j]
def stS (s0 : ST) (k : Nat) (r2 : Int32) : ST := sA (sA (sA (sA s0 78 (upd (s0.2.1 78) k r2)) 81 (upd (s0.2.1 81) k 0)) 82 (upd (s0.2.1 82) k 0)) 79 (upd (s0.2.1 79) k (s0.1 5530))
def CBt (r2 : Int32) (s1 : ST) (K : Int32 → ST → Prop) : Prop := ((¬ (s1.1 5532) = (10 : Int32) → (pin (s1.1 5532) 10 = true ∧ (pin (s1.1 5532) 10 = true ∧ (pin (s1.1 5532) 10 = true ∧ (pin (s1.1 5532) 10 = true ∧ ((¬ r2 = (120 : Int32) → w_220 (sA (sA (sA (sA (sI s1 5526 ((s1.1 5526) + (1 : Int32))) 78 (upd (s1.2.1 78) ((s1.1 5532)).toNatClampNeg r2)) 81 (upd (s1.2.1 81) ((s1.1 5532)).toNatClampNeg (0 : Int32))) 82 (upd (s1.2.1 82) ((s1.1 5532)).toNatClampNeg (0 : Int32))) 79 (upd (s1.2.1 79) ((s1.1 5532)).toNatClampNeg (s1.1 5530))) (fun r4 s3 => ((¬ r4 = 0 → (pin (s1.1 5532) 10 = true ∧ K (1 : Int32) (sA (sI s3 5532 ((s3.1 5532) + (1 : Int32))) 80 (upd (s3.2.1 80) ((s1.1 5532)).toNatClampNeg (s3.1 5530))))) ∧ (¬ (¬ r4 = 0) → K (0 : Int32) s3)))) ∧ (¬ (¬ r2 = (120 : Int32)) → w_206 (19 : Int32) (sA (sA (sA (sA (sI s1 5526 ((s1.1 5526) + (1 : Int32))) 78 (upd (s1.2.1 78) ((s1.1 5532)).toNatClampNeg r2)) 81 (upd (s1.2.1 81) ((s1.1 5532)).toNatClampNeg (0 : Int32))) 82 (upd (s1.2.1 82) ((s1.1 5532)).toNatClampNeg (0 : Int32))) 79 (upd (s1.2.1 79) ((s1.1 5532)).toNatClampNeg (s1.1 5530))) (fun r6 s5 => ((¬ r6 = 0 → (pin (s1.1 5532) 10 = true ∧ w_205 (46 : Int32) (sA s5 81 (upd (s5.2.1 81) ((s1.1 5532)).toNatClampNeg (s5.1 5533))) (fun r8 s7 => ((r8 = 0 → K (0 : Int32) s7) ∧ (¬ (r8 = 0) → w_206 (9 : Int32) s7 (fun r10 s9 => ((¬ r10 = 0 → (pin (s1.1 5532) 10 = true ∧ (pin (s1.1 5532) 10 = true ∧ K (1 : Int32) (sA (sA (sI s9 5532 ((s9.1 5532) + (1 : Int32))) 82 (upd (s9.2.1 82) ((s1.1 5532)).toNatClampNeg (s9.1 5533))) 80 (upd (s9.2.1 80) ((s1.1 5532)).toNatClampNeg (s9.1 5530)))))) ∧ (¬ (¬ r10 = 0) → K (0 : Int32) s9)))))))) ∧ (¬ (¬ r6 = 0) → K (0 : Int32) s5)))))))))) ∧ (¬ (¬ (s1.1 5532) = (10 : Int32)) → w_204 (4 : Int32) (s1.1 5526) s1 (fun r12 s11 => K r12 s11)))
theorem TR_fr {A : FS} {s s1 : ST} {T : Nat → Nat} {n : Nat} (f : Fr A s s1) (h : TR s T n) (d : dis A [5527] [75] = true := by rfl) : TR s1 T n := by
  obtain ⟨h1, h2, h3⟩ := h
  refine ⟨h1, ?_, ?_⟩
  · rw [f.1 5527 (dis_I d 5527)]; exact h2
  · rw [f.2.1 75 (dis_A d 75)]; exact h3
theorem RCz_old {s s1 : ST} {M M1 j : Nat} {z : Clz} (h : RCz s M j z) (hM : M ≤ M1) (e : ∀ r, 78 ≤ r → r ≤ 82 → s1.2.1 r j = s.2.1 r j) (e6 : ∀ i, i < M → s1.2.1 76 i = s.2.1 76 i) : RCz s1 M1 j z := by
  obtain ⟨b, h1, h2, h3, h4, h5, h6, h7⟩ := h
  refine ⟨b, ?_, ?_, by omega, fun p hp => ?_, fun z => ?_, fun z => ?_, fun z => ?_⟩
  · rw [e 79 (by omega) (by omega)]; exact h1
  · rw [e 80 (by omega) (by omega)]; exact h2
  · rw [e6 (b + p) (by omega)]; exact h4 p hp
  · rw [e 78 (by omega) (by omega)]; exact h5 z
  · rw [e 81 (by omega) (by omega), e 82 (by omega) (by omega)]; exact h6 z
  · rw [e 81 (by omega) (by omega)]; exact h7 z
section Rr
variable {s0 : ST} {T : Nat → Nat} {n : Nat} {C : List Clz}
/-- a clause with a code has been read -/
theorem RIz_code {s0 s3 : ST} {a M a1 d1 k : Nat} {G1 W1 : List Pc} {z : Clz} {r2 : Int32} (hI : RIz s0 C a M) (ek : k = C.length) (h : RX (stS s0 k r2) M s3 a1 G1 W1 d1) (ha : M + G1.length ≤ a1) (ez : cdR z = G1) (e8 : ¬ z.1 = 40 → r2 = nI z.1) (n120 : ¬ z.1 = 120) (e40 : z.1 = 40 → ∃ G, z.2 = (0, 0) :: G) : RIz (sA (sI s3 5532 (s3.1 5532 + 1)) 80 (upd (s3.2.1 80) k (s3.1 5530))) (C ++ [z]) a1 (M + G1.length) := by
  obtain ⟨f, q1, q2, q3, q4, q5, q6, q7⟩ := h
  obtain ⟨i1, i2, i3, i4, i5⟩ := hI
  subst ek
  have e32 : s3.1 5532 = nI C.length := (f.1 5532 rfl).trans i4
  refine ⟨q1, q2, ha, ?_, fun j hj => ?_⟩
  · show s3.1 5532 + 1 = nI (C ++ [z]).length
    rw [e32, nI_1, List.length_append]
    rfl
  · rw [List.length_append] at hj
    have hj : j < C.length + 1 := hj
    by_cases c : j = C.length
    · subst c
      rw [List.getElem_append_right (Nat.le_refl _)]
      simp only [Nat.sub_self, List.getElem_cons_zero]
      have e79 : s3.2.1 79 C.length = nI M := by
        rw [f.2.1 79 rfl]
        show upd (s0.2.1 79) C.length (s0.1 5530) C.length = nI M
        rw [pk_us, i2]
      have e78 : s3.2.1 78 C.length = r2 := by
        rw [f.2.1 78 rfl]
        show upd (s0.2.1 78) C.length r2 C.length = r2
        exact pk_us
      have e81 : s3.2.1 81 C.length = 0 := by
        rw [f.2.1 81 rfl]
        show upd (s0.2.1 81) C.length 0 C.length = 0
        exact pk_us
      refine ⟨M, e79, ?_, by rw [ez]; omega, fun p hp => ?_, fun y => ?_, fun y => absurd y n120, fun y => ?_⟩
      · show upd (s3.2.1 80) C.length (s3.1 5530) C.length = _
        rw [pk_us, q2, ez]
      · subst ez
        exact q5 p hp
      · exact e78.trans (e8 y)
      · obtain ⟨G, hG⟩ := e40 y
        exact ⟨0, G, hG, e81⟩
    · rw [List.getElem_append_left (by omega)]
      refine RCz_old (i5 j (by omega)) (by omega) (fun r r1 r2 => ?_) (fun i hi => ?_)
      · by_cases y : r = 80
        · subst y
          show upd (s3.2.1 80) C.length (s3.1 5530) j = _
          rw [pk_un c, f.2.1 80 rfl]
          rfl
        · have e : (sA (sI s3 5532 (s3.1 5532 + 1)) 80 (upd (s3.2.1 80) C.length (s3.1 5530))).2.1 r = s3.2.1 r := by
            show (if r = 80 then _ else s3.2.1 r) = s3.2.1 r
            rw [if_neg y]
          rw [e]
          have h5 : r = 78 ∨ r = 79 ∨ r = 81 ∨ r = 82 := by omega
          rcases h5 with y | y | y | y <;> subst y
          · rw [f.2.1 78 rfl]; show upd (s0.2.1 78) C.length _ j = _; rw [pk_un c]
          · rw [f.2.1 79 rfl]; show upd (s0.2.1 79) C.length _ j = _; rw [pk_un c]
          · rw [f.2.1 81 rfl]; show upd (s0.2.1 81) C.length _ j = _; rw [pk_un c]
          · rw [f.2.1 82 rfl]; show upd (s0.2.1 82) C.length _ j = _; rw [pk_un c]
      · show s3.2.1 76 i = _
        rw [q6 i hi]
        rfl
end Rr
