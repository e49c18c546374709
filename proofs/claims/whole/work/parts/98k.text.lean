/-! ===== the class's clauses: code kept in a row, what strikes ===== -/
theorem set_lst {α : Type} {x y : α} : ∀ l : List α, (l ++ [x]).set l.length y = l ++ [y]
  | [] => rfl
  | a :: l => by
    show a :: ((l ++ [x]).set l.length y) = a :: (l ++ [y])
    rw [set_lst l]
abbrev fqPd : FS := ([3503, 3504, 3505, 3506], [36], [], false, true)
theorem mp_18 {s : ST} {p0 p2 : Nat} {p1 p3 p4 : Int32} {K : ST → Prop} (h : s.2.2.2.2[p0]? = some (.inr (1, pD1))) (k : K (sD s (s.2.2.2.2.set p0 (.inr (1, [.int p1, .ref (p2 + 118), .int p3, .int p4]))))) : w_18 p0 p1 p2 p3 p4 s K := by
  have hl := q_lt h
  unfold w_18
  refine ⟨_, pob_of h, by decide, _, pob_of (q_ss hl), by show 1 < 4; omega, _, pob_of (q_ss (by rw [List.length_set]; exact hl)), by show 2 < 4; omega, _, pob_of (q_ss (by rw [List.length_set, List.length_set]; exact hl)), by show 3 < 4; omega, ?_⟩
  rw [List.set_set, List.set_set, List.set_set]
  exact k
theorem mp_305 {s : ST} {u : Nat} {K : Nat → ST → Prop} (hu : u ≤ 160) (k : ∀ f, (∀ p, p < u → f p = s.2.1 36 p) → K s.2.2.2.2.length (sD s (s.2.2.2.2 ++ [(Sum.inl (0, u, .inl f) : PC)]))) : w_305_R36 (nI u) s K := by
  unfold w_305_R36
  rw [show Int32.ofNat 160 = nI 160 from rfl, nI_eq (by omega) (by omega), nI_clamp (by omega)]
  by_cases c : u = 160
  · subst c
    exact br_f (fun z => z rfl) ⟨160, s.2.1 36, prow_of q_an, k _ (fun _ _ => rfl)⟩
  · have e1 : (if nI u < nI 160 then nI u else nI 160) = nI u := if_pos (nI_lt (by omega) (by omega))
    refine br_t c ⟨nI_pos (by omega), by omega, u, fun _ => 0, prow_of q_an, by decide, by decide, ?_⟩
    rw [e1, nI_clamp (show u < 2 ^ 31 by omega), show (0 : Int32).toNatClampNeg = 0 from rfl, set_lst]
    refine ⟨nI_pos (by omega), by omega, by omega, k _ (fun p hp => ?_)⟩
    rw [pk_cpy_in (by omega) (by omega), Nat.zero_add, Nat.sub_zero]
section Ck
variable {T : Nat → Nat} {n : Nat}
theorem TX_fr {A : FS} {s s1 : ST} (f : Fr A s s1) (h : TX s T n) (d : dis A [3502] [27] = true := by rfl) : TX s1 T n := by
  obtain ⟨h1, h2, h3⟩ := h
  refine ⟨h1, ?_, ?_⟩
  · rw [f.1 3502 (dis_I d 3502)]; exact h2
  · rw [f.2.1 27 (dis_A d 27)]; exact h3
theorem mp_66 {s : ST} {r : Prs} {K : Nat → ST → Prop} (hT : TX s T n) (h : CXv n s r) (k : ∀ (s1 : ST) (u : Nat) (f : Nat → Int32), Fr fqPd s s1 → CXv n s1 (pb r (fun a _ => pEn (sgn T n) n a)) → s1.2.2.2.2 = s.2.2.2.2 ++ [(Sum.inl (0, u, .inl f) : PC)] → u ≤ 160 → (∀ a G a1 G1, r = .inr (a, G) → pEn (sgn T n) n a = .inr (a1, G1) → u = G1.length ∧ ∀ p (hp : p < G1.length), f p = nI (16 * G1[p].2 + G1[p].1)) → K s.2.2.2.2.length s1) : w_66 s K := by
  have hn := hT.1
  have f0 : Fr fqPd s (sI s 3503 0) := fr_sI 3503 (fr_rfl _ _)
  have hT0 : TX (sI s 3503 0) T n := TX_fr f0 hT
  have fin : ∀ (s4 : ST) (r4 : Prs), CX (sI s 3503 0) n s4 r4 → r4 = pb r (fun a _ => pEn (sgn T n) n a) → w_305_R36 (s4.1 3503) s4 (fun r8 s7 => K r8 s7) := by
    intro s4 r4 h4 e4
    have hu : ∃ u, u ≤ 160 ∧ s4.1 3503 = nI u ∧ ∀ a1 G1, r4 = .inr (a1, G1) → u = G1.length := by
      cases r4 with
      | inl e =>
        obtain ⟨_, _, _, _, _, u, u1, u2⟩ := h4
        exact ⟨u, u1, u2, fun a1 G1 z => by cases z⟩
      | inr z =>
        obtain ⟨_, z1, z2, z3, z4, z5, z6⟩ := h4
        refine ⟨z.2.length, by omega, z3, fun a1 G1 y => ?_⟩
        obtain ⟨y1, y2⟩ := inr_inv y
        rw [y2]
    obtain ⟨u, u1, u2, u3⟩ := hu
    rw [u2]
    refine mp_305 u1 (fun f hf => ?_)
    have fr : Fr fqPd s s4 := fr_tr (F := fqPs) rfl f0 h4.1
    have ed : s4.2.2.2.2 = s.2.2.2.2 := h4.1.2.2.2.2 rfl
    rw [ed]
    refine k _ u f ?_ ?_ rfl u1 ?_
    · obtain ⟨q1, q2, q3, q4, q5⟩ := fr
      exact ⟨q1, q2, q3, q4, fun z => absurd z (by decide)⟩
    · rw [← e4]
      exact h4.2
    · intro a G a1 G1 er ep
      rw [er] at e4
      have e4 : r4 = pEn (sgn T n) n a := e4
      rw [ep] at e4
      refine ⟨u3 a1 G1 e4, fun p hp => ?_⟩
      have hup := u3 a1 G1 e4
      rw [hf p (by omega)]
      rw [e4] at h4
      exact h4.2.2.2.2.2.2 p hp
  unfold w_66
  cases r with
  | inl e =>
    have h0 : CX (sI s 3503 0) n (sI s 3503 0) (.inl e) := ⟨fr_rfl _ _, h.1, h.2.1, h.2.2.1, h.2.2.2.1, 0, by omega, rfl⟩
    refine mp_83 (c := 40) hT0 h0 (by omega) (fun s1 h1 => ?_)
    refine mp_69 hT0 h1 (fun s2 h2 => ?_)
    refine mp_83 (c := 41) hT0 h2 (by omega) (fun s3 h3 => ?_)
    exact fin s3 _ h3 rfl
  | inr z =>
    obtain ⟨a, G⟩ := z
    have h0 : CX (sI s 3503 0) n (sI s 3503 0) (.inr (a, [])) := ⟨fr_rfl _ _, h.1, h.2.1, rfl, h.2.2.2.1, by show 0 ≤ a; omega, fun i hi => absurd hi (by show ¬ i < 0; omega)⟩
    refine mp_83 (c := 40) hT0 h0 (by omega) (fun s1 h1 => ?_)
    refine mp_69 hT0 h1 (fun s2 h2 => ?_)
    refine mp_83 (c := 41) hT0 h2 (by omega) (fun s3 h3 => ?_)
    refine fin s3 _ h3 ?_
    show pb (pb (if sgn T n a = 40 then .inr (a + 1, []) else .inl (1, a)) _) _ = pEn (sgn T n) n a
    unfold pEn
    by_cases c : sgn T n a = 40
    · rw [if_pos c, if_pos c]
      rfl
    · rw [if_neg c, if_neg c]
      rfl
def numP (sg : Nat → Nat) (a most : Nat) : Prs := pNum sg a (fun a1 v => if v ≤ most then .inr (a1, [(v, 0)]) else .inl (3, a))
theorem mp_78 {S0 s : ST} {r : Prs} {most : Nat} {K : Int32 → ST → Prop} (hT : TX S0 T n) (h : CX S0 n s r) (hm : most < 1000000) (k : ∀ y s1, CX S0 n s1 (pb r (fun a G => pb (numP (sgn T n) a most) (fun a1 _ => .inr (a1, G)))) → (∀ a G a1 L, r = .inr (a, G) → numP (sgn T n) a most = .inr (a1, L) → ∃ v, L = [(v, 0)] ∧ y = nI v ∧ v ≤ most) → K y s1) : w_78 (nI most) s K := by
  unfold w_78
  cases r with
  | inl e =>
    refine mp_77l h (fun y => ⟨fun _ => k y s h (fun a G a1 L z => by cases z), fun _ => ?_⟩)
    rw [w85l h]
    exact k y s h (fun a G a1 L z => by cases z)
  | inr z =>
    obtain ⟨a, G⟩ := z
    have h2 : s.1 3504 = nI a := h.2.2.1
    have k : ∀ y s1, CX S0 n s1 (pb (numP (sgn T n) a most) (fun a1 _ => .inr (a1, G))) → (∀ a1 L, numP (sgn T n) a most = .inr (a1, L) → ∃ v, L = [(v, 0)] ∧ y = nI v ∧ v ≤ most) → K y s1 := fun y s1 q1 q2 => k y s1 q1 (fun a' G' a1 L e1 e2 => by
      obtain ⟨z1, z2⟩ := inr_inv e1
      rw [← z1] at e2
      exact q2 a1 L e2)
    unfold numP at k
    refine mp_77 hT h ?_ ?_
    · intro s1 hf hd h1
      have b7 := pnL_1 (n := n) (sg := sgn T n) (fun _ h => sgn_out h) hd
      rw [nI_leI (by omega) (by omega)]
      rw [hf] at k
      by_cases c : (pnL (sgn T n) 7 a 0).2 ≤ most
      · rw [if_pos c] at k
        refine br_t c (k _ s1 h1 (fun a1 L e1 => ?_))
        obtain ⟨z1, z2⟩ := inr_inv e1
        exact ⟨_, z2.symm, rfl, c⟩
      · rw [if_neg c] at k
        refine br_f c ?_
        rw [h2]
        exact mp_85 3 a hT h1 (by omega) (fun s2 h3 => k _ s2 h3 (fun a1 L e1 => by cases e1))
    · intro e y s1 hf h1
      rw [hf] at k
      refine ⟨fun _ => k y s1 h1 (fun a1 L e1 => by cases e1), fun _ => ?_⟩
      rw [w85l h1]
      exact k y s1 h1 (fun a1 L e1 => by cases e1)
def pStr (sg : Nat → Nat) (a : Nat) : Prs := pb (numP sg a 19) (fun a1 L1 => if sg a1 = 46 then pb (numP sg (a1 + 1) 9) (fun a2 L2 => .inr (a2, L1 ++ L2)) else .inl (1, a1))
end Ck
