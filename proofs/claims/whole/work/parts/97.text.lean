/-! ===== the grammar of the texts, as a function ===== -/
abbrev Pc : Type := Nat × Nat
abbrev Prs : Type := Sum (Nat × Nat) (Nat × List Pc)
abbrev PF : Type := Nat → List Pc → Prs
def pb (r : Prs) (f : PF) : Prs := match r with
  | .inl e => .inl e
  | .inr z => f z.1 z.2
theorem pb_a {r : Prs} {f g : PF} : pb (pb r f) g = pb r (fun a G => pb (f a G) g) := by
  cases r <;> rfl
theorem pb_inv {r : Prs} {f : PF} {z : Nat × List Pc} (h : pb r f = .inr z) : ∃ a G, r = .inr (a, G) ∧ f a G = .inr z := by
  cases r with
  | inl e => cases h
  | inr y => exact ⟨y.1, y.2, rfl, h⟩
def sgn (T : Nat → Nat) (n a : Nat) : Nat := if a < n then T a else 256
def fcN (x : Nat) : Nat := if x = 107 then 0 else if x = 115 then 1 else if x = 100 then 2 else if x = 104 then 3 else if x = 119 then 4 else if x = 118 then 5 else if x = 111 then 6 else if x = 101 then 7 else if x = 112 then 8 else if x = 113 then 9 else if x = 97 then 10 else if x = 110 then 11 else if x = 116 then 12 else 13
def mop (x : Nat) : Nat := if x = 42 then 7 else if x = 47 then 8 else if x = 37 then 9 else 0
def aop (x : Nat) : Nat := if x = 43 then 5 else if x = 45 then 6 else 0
def cop (x : Nat) : Nat := if x = 60 then 10 else if x = 62 then 11 else if x = 61 then 12 else 0
def pnL (sg : Nat → Nat) : Nat → Nat → Nat → Nat × Nat
  | 0, a, v => (a, v)
  | k + 1, a, v => if 48 ≤ sg a ∧ sg a ≤ 57 then pnL sg k (a + 1) (10 * v + (sg a - 48)) else (a, v)
def pNum (sg : Nat → Nat) (a : Nat) (f : Nat → Nat → Prs) : Prs :=
  if 48 ≤ sg a ∧ sg a ≤ 57 then (if 48 ≤ sg (pnL sg 7 a 0).1 ∧ sg (pnL sg 7 a 0).1 ≤ 57 then .inl (2, (pnL sg 7 a 0).1) else f (pnL sg 7 a 0).1 (pnL sg 7 a 0).2) else .inl (1, a)
def pFac (sg : Nat → Nat) (e : Nat) (inner : PF) : PF := fun a G =>
  if sg a = 91 then (if e = 0 then .inl (5, a) else pb (inner (a + 1) G) (fun a1 G1 => if sg a1 = 93 then .inr (a1 + 1, G1) else .inl (1, a1)))
  else if fcN (sg a) < 13 then .inr (a + 1, G ++ [(1, fcN (sg a))])
  else pNum sg a (fun a1 v => .inr (a1, G ++ [(0, v)]))
def pBL (sg : Nat → Nat) (op : Nat → Nat) (it : PF) : Nat → PF
  | 0 => fun a G => .inr (a, G)
  | k + 1 => fun a G => if op (sg a) = 0 then .inr (a, G) else pb (it (a + 1) G) (fun a1 G1 => pBL sg op it k a1 (G1 ++ [(op (sg a), 0)]))
def pLL (sg : Nat → Nat) (c op : Nat) (it : PF) : Nat → PF
  | 0 => fun a G => .inr (a, G)
  | k + 1 => fun a G => if sg a = c then pb (it (a + 1) (G ++ [(op, 0)])) (fun a1 G1 => pLL sg c op it k a1 (G1.set G.length (op, G1.length))) else .inr (a, G)
def pTm (sg : Nat → Nat) (n : Nat) (fa : PF) : PF := fun a G => pb (fa a G) (pBL sg mop fa (n + 1))
def pSm (sg : Nat → Nat) (n : Nat) (fa : PF) : PF := fun a G => pb (pTm sg n fa a G) (pBL sg aop (pTm sg n fa) (n + 1))
def pFu (sg : Nat → Nat) (n : Nat) : Nat → PF
  | 0 => pFac sg 0 (fun _ _ => .inl (0, 0))
  | e + 1 => pFac sg (e + 1) (pSm sg n (pFu sg n e))
def pPa (sg : Nat → Nat) (n : Nat) (pc : PF) : PF := fun a G => pb (pc a G) (pLL sg 38 3 pc (n + 1))
def pCo (sg : Nat → Nat) (n : Nat) (pc : PF) : PF := fun a G => pb (pPa sg n pc a G) (pLL sg 124 4 (pPa sg n pc) (n + 1))
def pPc (sg : Nat → Nat) (e : Nat) (su pi co : PF) : PF := fun a G =>
  if sg a = 33 then (if e = 0 then .inl (5, a) else pb (pi (a + 1) G) (fun a1 G1 => .inr (a1, G1 ++ [(2, 0)])))
  else if sg a = 40 then (if e = 0 then .inl (5, a) else pb (co (a + 1) G) (fun a1 G1 => if sg a1 = 41 then .inr (a1 + 1, G1) else .inl (1, a1)))
  else pb (su a G) (fun a1 G1 => if cop (sg a1) = 0 then .inl (1, a1) else pb (su (a1 + 1) G1) (fun a2 G2 => .inr (a2, G2 ++ [(cop (sg a1), 0)])))
def pPi (sg : Nat → Nat) (n : Nat) : Nat → PF
  | 0 => pPc sg 0 (pSm sg n (pFu sg n 0)) (fun _ _ => .inl (0, 0)) (fun _ _ => .inl (0, 0))
  | e + 1 => pPc sg (e + 1) (pSm sg n (pFu sg n (e + 1))) (pPi sg n e) (pCo sg n (pPi sg n e))
def pEn (sg : Nat → Nat) (n : Nat) (a : Nat) : Prs := if sg a = 40 then pb (pCo sg n (pPi sg n 5) (a + 1) []) (fun a1 G1 => if sg a1 = 41 then .inr (a1 + 1, G1) else .inl (1, a1)) else .inl (1, a)
/-! what is read is behind; no more is emitted than is read -/
def GP (n : Nat) (f : PF) : Prop := ∀ a G a1 G1, f a G = .inr (a1, G1) → a < a1 ∧ a1 ≤ n ∧ G1.length + a ≤ G.length + a1
def GL (n : Nat) (f : PF) : Prop := ∀ a G a1 G1, a ≤ n → f a G = .inr (a1, G1) → a ≤ a1 ∧ a1 ≤ n ∧ G1.length + a ≤ G.length + a1
section Gp
variable {sg : Nat → Nat} {n : Nat}
theorem sg_lt (hs : ∀ a, n ≤ a → sg a = 256) {a : Nat} (h : ¬ sg a = 256) : a < n := by
  refine Classical.byContradiction (fun z => h (hs a (by omega)))
theorem op_256 : mop 256 = 0 ∧ aop 256 = 0 ∧ cop 256 = 0 ∧ fcN 256 = 13 := ⟨rfl, rfl, rfl, rfl⟩
theorem pnL_b (hs : ∀ a, n ≤ a → sg a = 256) : ∀ (k a v : Nat), a ≤ n → a ≤ (pnL sg k a v).1 ∧ (pnL sg k a v).1 ≤ n ∧ (pnL sg k a v).1 ≤ a + k ∧ (pnL sg k a v).2 + 1 ≤ (v + 1) * 10 ^ k
  | 0, a, v, h => by show a ≤ a ∧ a ≤ n ∧ a ≤ a + 0 ∧ v + 1 ≤ (v + 1) * 1; omega
  | k + 1, a, v, h => by
    unfold pnL
    have e : (v + 1) * 10 ^ (k + 1) = (10 * v + 10) * 10 ^ k := by
      rw [Nat.pow_succ, Nat.mul_comm (10 ^ k) 10, ← Nat.mul_assoc, Nat.add_mul, Nat.one_mul, Nat.mul_comm v 10]
    have p10 : 1 ≤ 10 ^ k := Nat.le_trans Nat.one_le_two_pow (Nat.pow_le_pow_left (by omega) k)
    by_cases c : 48 ≤ sg a ∧ sg a ≤ 57
    · rw [if_pos c]
      have hl := sg_lt hs (a := a) (by omega)
      have := pnL_b hs k (a + 1) (10 * v + (sg a - 48)) (by omega)
      have m : (10 * v + (sg a - 48) + 1) * 10 ^ k ≤ (10 * v + 10) * 10 ^ k := Nat.mul_le_mul_right _ (by omega)
      omega
    · rw [if_neg c, e]
      have m : (v + 1) * 1 ≤ (10 * v + 10) * 10 ^ k := Nat.mul_le_mul (by omega) p10
      show a ≤ a ∧ a ≤ n ∧ a ≤ a + (k + 1) ∧ v + 1 ≤ _
      omega
theorem pnL_1 (hs : ∀ a, n ≤ a → sg a = 256) {a : Nat} (h : 48 ≤ sg a ∧ sg a ≤ 57) : a < (pnL sg 7 a 0).1 ∧ (pnL sg 7 a 0).1 ≤ n ∧ (pnL sg 7 a 0).2 ≤ 9999999 := by
  have hl := sg_lt hs (a := a) (by omega)
  have h1 := (pnL_b hs 7 a 0 (by omega)).2.2.2
  have h2 := pnL_b hs 6 (a + 1) (10 * 0 + (sg a - 48)) (by omega)
  have e : pnL sg 7 a 0 = pnL sg 6 (a + 1) (10 * 0 + (sg a - 48)) := if_pos h
  rw [← e] at h2
  omega
theorem pNum_inv {a : Nat} {f : Nat → Nat → Prs} {z : Nat × List Pc} (h : pNum sg a f = .inr z) : (48 ≤ sg a ∧ sg a ≤ 57) ∧ f (pnL sg 7 a 0).1 (pnL sg 7 a 0).2 = .inr z := by
  unfold pNum at h
  by_cases c : 48 ≤ sg a ∧ sg a ≤ 57
  · rw [if_pos c] at h
    by_cases d : 48 ≤ sg (pnL sg 7 a 0).1 ∧ sg (pnL sg 7 a 0).1 ≤ 57
    · rw [if_pos d] at h; cases h
    · rw [if_neg d] at h; exact ⟨c, h⟩
  · rw [if_neg c] at h; cases h
theorem if_inv {c : Prop} {inst : Decidable c} {x y : Prs} {z : Nat × List Pc} (h : @ite Prs c inst x y = .inr z) : (c ∧ x = .inr z) ∨ (¬ c ∧ y = .inr z) := by
  by_cases d : c
  · rw [if_pos d] at h; exact Or.inl ⟨d, h⟩
  · rw [if_neg d] at h; exact Or.inr ⟨d, h⟩
theorem inr_inv {a b : Nat} {G H : List Pc} (h : (.inr (a, G) : Prs) = .inr (b, H)) : a = b ∧ G = H := by
  cases h; exact ⟨rfl, rfl⟩
theorem GP_fac (hs : ∀ a, n ≤ a → sg a = 256) {e : Nat} {inner : PF} (hi : ¬ e = 0 → GP n inner) : GP n (pFac sg e inner) := by
  intro a G a1 G1 h
  unfold pFac at h
  rcases if_inv h with ⟨c, h⟩ | ⟨c, h⟩
  · rcases if_inv h with ⟨d, h⟩ | ⟨d, h⟩
    · cases h
    · obtain ⟨a2, G2, h1, h2⟩ := pb_inv h
      rcases if_inv h2 with ⟨d2, h2⟩ | ⟨_, h2⟩
      · obtain ⟨r1, r2⟩ := inr_inv h2
        have := hi d _ _ _ _ h1
        have hl := sg_lt hs (a := a2) (by omega)
        rw [← r1, ← r2]
        omega
      · cases h2
  · rcases if_inv h with ⟨d, h⟩ | ⟨d, h⟩
    · obtain ⟨r1, r2⟩ := inr_inv h
      have hl := sg_lt hs (a := a) (fun z => by rw [z] at d; exact absurd d (by decide))
      rw [← r1, ← r2, List.length_append]
      show a < a + 1 ∧ a + 1 ≤ n ∧ G.length + 1 + a ≤ _
      omega
    · obtain ⟨h1, h2⟩ := pNum_inv h
      obtain ⟨r1, r2⟩ := inr_inv h2
      have := pnL_1 hs h1
      rw [← r1, ← r2, List.length_append]
      show a < _ ∧ _ ∧ G.length + 1 + a ≤ _
      omega
theorem GL_BL (hs : ∀ a, n ≤ a → sg a = 256) {op : Nat → Nat} {it : PF} (h0 : op 256 = 0) (hi : GP n it) : ∀ k, GL n (pBL sg op it k)
  | 0 => by
    intro a G a1 G1 ha h
    obtain ⟨r1, r2⟩ := inr_inv h
    rw [← r1, ← r2]
    omega
  | k + 1 => by
    intro a G a1 G1 ha h
    unfold pBL at h
    rcases if_inv h with ⟨c, h⟩ | ⟨c, h⟩
    · obtain ⟨r1, r2⟩ := inr_inv h
      rw [← r1, ← r2]
      omega
    · obtain ⟨a2, G2, h1, h2⟩ := pb_inv h
      have z1 := hi _ _ _ _ h1
      have z2 := GL_BL hs h0 hi k _ _ _ _ z1.2.1 h2
      rw [List.length_append] at z2
      have : ([(op (sg a), 0)] : List Pc).length = 1 := rfl
      omega
theorem GL_LL {c op : Nat} {it : PF} (hi : GP n it) : ∀ k, GL n (pLL sg c op it k)
  | 0 => by
    intro a G a1 G1 ha h
    obtain ⟨r1, r2⟩ := inr_inv h
    rw [← r1, ← r2]
    omega
  | k + 1 => by
    intro a G a1 G1 ha h
    unfold pLL at h
    rcases if_inv h with ⟨d, h⟩ | ⟨d, h⟩
    · obtain ⟨a2, G2, h1, h2⟩ := pb_inv h
      have z1 := hi _ _ _ _ h1
      have z2 := GL_LL hi k _ _ _ _ z1.2.1 h2
      rw [List.length_set] at z2
      rw [List.length_append] at z1
      have : ([(op, 0)] : List Pc).length = 1 := rfl
      omega
    · obtain ⟨r1, r2⟩ := inr_inv h
      rw [← r1, ← r2]
      omega
theorem GP_pb {f g : PF} (h1 : GP n f) (h2 : GL n g) : GP n (fun a G => pb (f a G) g) := by
  intro a G a1 G1 h
  obtain ⟨a2, G2, k1, k2⟩ := pb_inv h
  have z1 := h1 _ _ _ _ k1
  have z2 := h2 _ _ _ _ z1.2.1 k2
  omega
theorem GP_tm (hs : ∀ a, n ≤ a → sg a = 256) {fa : PF} (h : GP n fa) : GP n (pTm sg n fa) := GP_pb h (GL_BL hs rfl h _)
theorem GP_sm (hs : ∀ a, n ≤ a → sg a = 256) {fa : PF} (h : GP n fa) : GP n (pSm sg n fa) := GP_pb (GP_tm hs h) (GL_BL hs rfl (GP_tm hs h) _)
theorem GP_fu (hs : ∀ a, n ≤ a → sg a = 256) : ∀ e, GP n (pFu sg n e)
  | 0 => GP_fac hs (fun z => absurd rfl z)
  | e + 1 => GP_fac hs (fun _ => GP_sm hs (GP_fu hs e))
theorem GP_pa {pc : PF} (h : GP n pc) : GP n (pPa sg n pc) := GP_pb h (GL_LL h _)
theorem GP_co {pc : PF} (h : GP n pc) : GP n (pCo sg n pc) := GP_pb (GP_pa h) (GL_LL (GP_pa h) _)
theorem GP_pc (hs : ∀ a, n ≤ a → sg a = 256) {e : Nat} {su pi co : PF} (h1 : GP n su) (h2 : ¬ e = 0 → GP n pi) (h3 : ¬ e = 0 → GP n co) : GP n (pPc sg e su pi co) := by
  intro a G a1 G1 h
  unfold pPc at h
  rcases if_inv h with ⟨c, h⟩ | ⟨c, h⟩
  · rcases if_inv h with ⟨d, h⟩ | ⟨d, h⟩
    · cases h
    · obtain ⟨a2, G2, k1, k2⟩ := pb_inv h
      obtain ⟨r1, r2⟩ := inr_inv k2
      have z := h2 d _ _ _ _ k1
      rw [← r1, ← r2, List.length_append]
      show _ ∧ _ ∧ G2.length + 1 + a ≤ _
      omega
  · rcases if_inv h with ⟨c2, h⟩ | ⟨c2, h⟩
    · rcases if_inv h with ⟨d, h⟩ | ⟨d, h⟩
      · cases h
      · obtain ⟨a2, G2, k1, k2⟩ := pb_inv h
        rcases if_inv k2 with ⟨d2, k2⟩ | ⟨_, k2⟩
        · obtain ⟨r1, r2⟩ := inr_inv k2
          have z := h3 d _ _ _ _ k1
          have hl := sg_lt hs (a := a2) (by omega)
          rw [← r1, ← r2]
          omega
        · cases k2
    · obtain ⟨a2, G2, k1, k2⟩ := pb_inv h
      rcases if_inv k2 with ⟨_, k2⟩ | ⟨d2, k2⟩
      · cases k2
      · obtain ⟨a3, G3, q1, q2⟩ := pb_inv k2
        obtain ⟨r1, r2⟩ := inr_inv q2
        have z1 := h1 _ _ _ _ k1
        have z2 := h1 _ _ _ _ q1
        rw [← r1, ← r2, List.length_append]
        show _ ∧ _ ∧ G3.length + 1 + a ≤ _
        omega
theorem GP_pi (hs : ∀ a, n ≤ a → sg a = 256) : ∀ e, GP n (pPi sg n e)
  | 0 => GP_pc hs (GP_sm hs (GP_fu hs 0)) (fun z => absurd rfl z) (fun z => absurd rfl z)
  | e + 1 => GP_pc hs (GP_sm hs (GP_fu hs (e + 1))) (fun _ => GP_pi hs e) (fun _ => GP_co (GP_pi hs e))
end Gp
