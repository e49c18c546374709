/-! ===== the facts of a row; printed by wip/whole/genfacts.py ===== -/
def lvI (D : ST) (x : Nat) (u : Int32) : Int32 := if D.2.1 64 x = u then -1 else D.2.1 64 x
def fcI (D : ST) (x : Nat) : Int32 := if D.2.1 57 x = 2 then D.2.1 59 x else -1
def pyI (D : ST) (x : Nat) : Int32 := if D.2.1 57 x = 0 ∨ D.2.1 57 x = 1 then D.2.1 59 x else -1
def tvN (D : ST) (t : Int32) (S : List Nat) (x : Nat) : Nat := if gN D x < 40 then sumG D t S (gN D x) else 0
def fxv (D : ST) (t : Int32) (x : Nat) (u : Int32) : Nat → Int64
  | 0 => (D.2.1 57 x).toInt64
  | 1 => (smI D t x).toInt64
  | 2 => (D.2.1 60 x).toInt64
  | 3 => (D.2.1 61 x).toInt64
  | 4 => (D.2.1 63 x).toInt64
  | 5 => (lvI D x u).toInt64
  | 6 => (D.2.1 58 x).toInt64
  | 7 => (fcI D x).toInt64
  | 8 => (pyI D x).toInt64
  | 9 => (D.2.1 65 x).toInt64
  | 10 => (D.2.1 66 x - D.2.1 60 x).toInt64
  | 11 => lN (cntH D (sdy D t x) (hN D x))
  | 12 => lN (tvN D t (sdy D t x) x)
  | _ => 0
theorem sumG_le {D : ST} (h : Bk D) {t : Int32} {g : Nat} : ∀ {S : List Nat}, (∀ x, x ∈ S → x < nR D) → sumG D t S g ≤ 1000000 * S.length
  | [], _ => Nat.le_refl 0
  | a :: S, hS => by
    have ih := sumG_le h (t := t) (g := g) (S := S) (fun x hx => hS x (List.mem_cons_of_mem a hx))
    rw [sumG_cons, List.length_cons]
    have r := smI_rng h (t := t) (hS a (List.mem_cons_self))
    have : smN D t a ≤ 1000000 := by show (smI D t a).toInt.toNat ≤ 1000000; omega
    split <;> omega
theorem sdy_le {D : ST} (h : Bk D) {t : Int32} {x : Nat} : (sdy D t x).length ≤ 150 ∧ ∀ y, y ∈ sdy D t x → y < nR D := by
  have h150 := kL_150 h (t := t)
  refine ⟨?_, fun y hy => (kLn_mem.mp (List.mem_filter.mp hy).1).1⟩
  have := List.length_filter_le (fun q => decide (D.2.1 60 q = D.2.1 60 x)) (kL D t)
  unfold sdy
  omega
theorem cnt_l {D : ST} (h : Bk D) {t : Int32} {x k : Nat} : (nI (cntH D (sdy D t x) k)).toInt64 = lN (cntH D (sdy D t x) k) := by
  refine nI_l ?_
  have h1 := (sdy_le h (t := t) (x := x)).1
  have h2 := List.length_filter_le (fun q => decide (hN D q = k)) (sdy D t x)
  unfold cntH
  omega
theorem tv_l {D : ST} (h : Bk D) {t : Int32} {x : Nat} : (tvI D t (sdy D t x) x).toInt64 = lN (tvN D t (sdy D t x) x) := by
  unfold tvI tvN
  by_cases c : gN D x < 40
  · rw [if_pos c, if_pos c]
    refine nI_l ?_
    have h1 := sdy_le h (t := t) (x := x)
    have h2 := sumG_le h (t := t) (g := gN D x) h1.2
    omega
  · rw [if_neg c, if_neg c]; rfl
abbrev fq17 : FS := ([], [], [17], false, false)
theorem w16v {D s : ST} {x : Nat} {K : Int32 → ST → Prop} (h : Bk D) (f : Fr fsS D s) (hx : x < nR D) : w_16 (nI x) s K = K (fcI D x) s := by
  rw [w_16, cc0 h f hx]
  unfold fcI
  by_cases a : D.2.1 57 x = 2
  · rw [br_eqf (fun z => z a), cc2 h f hx, if_pos a]
  · rw [br_eqt a, if_neg a]
theorem w15v {D s : ST} {x : Nat} {K : Int32 → ST → Prop} (h : Bk D) (f : Fr fsS D s) (hx : x < nR D) : w_15 (nI x) s K = K (pyI D x) s := by
  rw [w_15, cc0 h f hx]
  unfold pyI
  by_cases a : D.2.1 57 x = 0
  · rw [br_eqt a, cc2 h f hx, if_pos (Or.inl a)]
  · rw [br_eqf a]
    by_cases b : D.2.1 57 x = 1
    · rw [br_eqf (fun z => z b), cc2 h f hx, if_pos (Or.inr b)]
    · rw [br_eqt b, if_neg (fun z => z.elim a b)]
theorem w121 {s : ST} {x : Nat} {K : Int32 → ST → Prop} (hx : x < 150) : w_121 (nI x) s K = K (s.2.1 12 x) s := by
  rw [e_121 _ _ (fun _ _ => pin_nI (by omega) (by omega))]
  unfold v_121
  rw [if_neg (nI_pos (by omega)), if_neg (n150 hx), nI_clamp (by omega)]
theorem w122 {s : ST} {x : Nat} {K : Int32 → ST → Prop} (hx : x < 150) : w_122 (nI x) s K = K (s.2.1 13 x) s := by
  rw [e_122 _ _ (fun _ _ => pin_nI (by omega) (by omega))]
  unfold v_122
  rw [if_neg (nI_pos (by omega)), if_neg (n150 hx), nI_clamp (by omega)]
theorem mp_20 {D s : ST} {t u : Int32} {i : Nat} {K : ST → Prop} (h : Bk D) (v : VW D t s) (hu : s.1 1600 = u) (hi : i < (kL D t).length) (k : ∀ s1, Fr fq17 s s1 → (∀ j, j < 13 → s1.2.2.1 17 j = fxv D t (kL D t)[i] u j) → K s1) : w_20 (nI (kL D t)[i]) s K := by
  have hx := (kL_lt h hi).1
  have hR := (bkR h).2.2
  have hx5 : (kL D t)[i] < 150 := by omega
  have f := v.2.1.1
  have e9 : s.2.1 9 (kL D t)[i] = smI D t (kL D t)[i] := v.2.1.2.2.2 _ hx
  obtain ⟨e12, e13⟩ := v.2.2.2.2 i hi
  generalize (kL D t)[i] = x at *
  unfold w_20
  rw [cc7 h f hx, cc0 h f hx]
  refine ⟨rfl, ?_⟩
  rw [w119 hx5]
  refine ⟨rfl, ?_⟩
  rw [cc3 h (fr_sL 17 (fr_sL 17 f)) hx]
  refine ⟨rfl, ?_⟩
  rw [cc4 h (fr_sL 17 (fr_sL 17 (fr_sL 17 f))) hx]
  refine ⟨rfl, ?_⟩
  rw [cc6 h (fr_sL 17 (fr_sL 17 (fr_sL 17 (fr_sL 17 f)))) hx]
  refine ⟨rfl, ?_⟩
  by_cases c : D.2.1 64 x = u
  · refine br_f (fun z => z (c.trans hu.symm)) ?_
    have e5 : (-1 : Int32) = lvI D x u := by unfold lvI; rw [if_pos c]
    refine ⟨rfl, ?_⟩
    rw [cc1 h (fr_sL 17 (fr_sL 17 (fr_sL 17 (fr_sL 17 (fr_sL 17 f))))) hx]
    refine ⟨rfl, ?_⟩
    rw [w16v h (fr_sL 17 (fr_sL 17 (fr_sL 17 (fr_sL 17 (fr_sL 17 (fr_sL 17 f)))))) hx]
    refine ⟨rfl, ?_⟩
    rw [w15v h (fr_sL 17 (fr_sL 17 (fr_sL 17 (fr_sL 17 (fr_sL 17 (fr_sL 17 (fr_sL 17 f))))))) hx]
    refine ⟨rfl, ?_⟩
    rw [cc8 h (fr_sL 17 (fr_sL 17 (fr_sL 17 (fr_sL 17 (fr_sL 17 (fr_sL 17 (fr_sL 17 (fr_sL 17 f)))))))) hx]
    refine ⟨rfl, ?_⟩
    rw [cc9 h (fr_sL 17 (fr_sL 17 (fr_sL 17 (fr_sL 17 (fr_sL 17 (fr_sL 17 (fr_sL 17 (fr_sL 17 (fr_sL 17 f))))))))) hx, cc3 h (fr_sL 17 (fr_sL 17 (fr_sL 17 (fr_sL 17 (fr_sL 17 (fr_sL 17 (fr_sL 17 (fr_sL 17 (fr_sL 17 f))))))))) hx]
    refine ⟨rfl, ?_⟩
    rw [w121 hx5]
    refine ⟨rfl, ?_⟩
    rw [w122 hx5]
    refine ⟨rfl, ?_⟩
    refine k _ (fr_sL 17 (fr_sL 17 (fr_sL 17 (fr_sL 17 (fr_sL 17 (fr_sL 17 (fr_sL 17 (fr_sL 17 (fr_sL 17 (fr_sL 17 (fr_sL 17 (fr_sL 17 (fr_rfl _ _))))))))))))) ?_
    intro j hj
    match j, hj with
    | 0, _ => rfl
    | 1, _ => exact congrArg Int32.toInt64 e9
    | 2, _ => rfl
    | 3, _ => rfl
    | 4, _ => rfl
    | 5, _ => exact congrArg Int32.toInt64 e5
    | 6, _ => rfl
    | 7, _ => rfl
    | 8, _ => rfl
    | 9, _ => rfl
    | 10, _ => rfl
    | 11, _ => exact (congrArg Int32.toInt64 e12).trans (cnt_l h)
    | 12, _ => exact (congrArg Int32.toInt64 e13).trans (tv_l h)
    | n + 13, hn => omega
  · refine br_t (fun z => c (z.trans hu)) ?_
    have e5 : D.2.1 64 x = lvI D x u := by unfold lvI; rw [if_neg c]
    refine ⟨rfl, ?_⟩
    rw [cc1 h (fr_sL 17 (fr_sL 17 (fr_sL 17 (fr_sL 17 (fr_sL 17 f))))) hx]
    refine ⟨rfl, ?_⟩
    rw [w16v h (fr_sL 17 (fr_sL 17 (fr_sL 17 (fr_sL 17 (fr_sL 17 (fr_sL 17 f)))))) hx]
    refine ⟨rfl, ?_⟩
    rw [w15v h (fr_sL 17 (fr_sL 17 (fr_sL 17 (fr_sL 17 (fr_sL 17 (fr_sL 17 (fr_sL 17 f))))))) hx]
    refine ⟨rfl, ?_⟩
    rw [cc8 h (fr_sL 17 (fr_sL 17 (fr_sL 17 (fr_sL 17 (fr_sL 17 (fr_sL 17 (fr_sL 17 (fr_sL 17 f)))))))) hx]
    refine ⟨rfl, ?_⟩
    rw [cc9 h (fr_sL 17 (fr_sL 17 (fr_sL 17 (fr_sL 17 (fr_sL 17 (fr_sL 17 (fr_sL 17 (fr_sL 17 (fr_sL 17 f))))))))) hx, cc3 h (fr_sL 17 (fr_sL 17 (fr_sL 17 (fr_sL 17 (fr_sL 17 (fr_sL 17 (fr_sL 17 (fr_sL 17 (fr_sL 17 f))))))))) hx]
    refine ⟨rfl, ?_⟩
    rw [w121 hx5]
    refine ⟨rfl, ?_⟩
    rw [w122 hx5]
    refine ⟨rfl, ?_⟩
    refine k _ (fr_sL 17 (fr_sL 17 (fr_sL 17 (fr_sL 17 (fr_sL 17 (fr_sL 17 (fr_sL 17 (fr_sL 17 (fr_sL 17 (fr_sL 17 (fr_sL 17 (fr_sL 17 (fr_rfl _ _))))))))))))) ?_
    intro j hj
    match j, hj with
    | 0, _ => rfl
    | 1, _ => exact congrArg Int32.toInt64 e9
    | 2, _ => rfl
    | 3, _ => rfl
    | 4, _ => rfl
    | 5, _ => exact congrArg Int32.toInt64 e5
    | 6, _ => rfl
    | 7, _ => rfl
    | 8, _ => rfl
    | 9, _ => rfl
    | 10, _ => rfl
    | 11, _ => exact (congrArg Int32.toInt64 e12).trans (cnt_l h)
    | 12, _ => exact (congrArg Int32.toInt64 e13).trans (tv_l h)
    | n + 13, hn => omega
