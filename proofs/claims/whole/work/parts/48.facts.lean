/-! ===== the reference's facts of a row; printed by wip/whole/genfacts2.py ===== -/
abbrev fq93 : FS := ([], [], [93], false, false)
def sdk (D : ST) (t : Int32) (x k : Nat) : List Nat := ((kL D t).take k).filter (fun q => decide (D.2.1 60 q = D.2.1 60 x))
theorem sdk_s {D : ST} {t : Int32} {x k : Nat} (hk : k < (kL D t).length) : sdk D t x (k + 1) = if D.2.1 60 (kL D t)[k] = D.2.1 60 x then sdk D t x k ++ [(kL D t)[k]] else sdk D t x k := by
  unfold sdk
  rw [List.take_succ_eq_append_getElem hk, List.filter_append]
  by_cases c : D.2.1 60 (kL D t)[k] = D.2.1 60 x
  · rw [if_pos c, List.filter_cons_of_pos (by simp [c])]; rfl
  · rw [if_neg c, List.filter_cons_of_neg (by simp [c]), List.filter_nil, List.append_nil]
theorem hN_iff {D : ST} (h : Bk D) {q x : Nat} (hq : q < nR D) (hx : x < nR D) : (D.2.1 63 q = D.2.1 63 x) ↔ hN D q = hN D x := by
  obtain ⟨a1, a2⟩ := hN_ok h hq
  obtain ⟨b1, b2⟩ := hN_ok h hx
  rw [a1, b1, nI_eq (by omega) (by omega)]
theorem gN_py {D : ST} (h : Bk D) {x : Nat} (hx : x < nR D) : (D.2.1 57 x = 0 ∨ D.2.1 57 x = 1) ↔ gN D x < 40 := by
  unfold gN
  by_cases a : D.2.1 57 x = 0
  · rw [if_pos a]
    have := (pay_ok h hx (Or.inl a)).2.1
    exact ⟨fun _ => by omega, fun _ => Or.inl a⟩
  · rw [if_neg a]
    by_cases b : D.2.1 57 x = 1
    · rw [if_pos b]
      have := (pay_ok h hx (Or.inr b)).2.1
      exact ⟨fun _ => by omega, fun _ => Or.inr b⟩
    · rw [if_neg b]
      exact ⟨fun z => absurd z (fun y => y.elim a b), fun z => absurd z (by omega)⟩
theorem grp_iff {D : ST} (h : Bk D) {q x : Nat} (hq : q < nR D) (hx : x < nR D) (hk : D.2.1 57 x = 0 ∨ D.2.1 57 x = 1) : (D.2.1 57 q = D.2.1 57 x ∧ D.2.1 59 q = D.2.1 59 x) ↔ gN D q = gN D x := by
  obtain ⟨x1, x2, _⟩ := pay_ok h hx hk
  have n01 : ¬ (0 : Int32) = 1 := by decide
  have n10 : ¬ (1 : Int32) = 0 := by decide
  by_cases a : D.2.1 57 q = 0 ∨ D.2.1 57 q = 1
  · obtain ⟨q1, q2, _⟩ := pay_ok h hq a
    rw [q1, x1, nI_eq (by omega) (by omega)]
    unfold gN
    rcases hk with e | e <;> rcases a with g | g
    · rw [e, g, if_pos rfl, if_pos rfl]
      exact ⟨fun z => z.2, fun z => ⟨rfl, z⟩⟩
    · rw [e, g, if_pos rfl, if_neg n10, if_pos rfl]
      exact ⟨fun z => absurd z.1 n10, fun z => absurd z (by omega)⟩
    · rw [e, g, if_pos rfl, if_neg n10, if_pos rfl]
      exact ⟨fun z => absurd z.1 n01, fun z => absurd z (by omega)⟩
    · rw [e, g, if_neg n10, if_pos rfl, if_neg n10, if_pos rfl]
      exact ⟨fun z => by have := z.2; omega, fun z => ⟨rfl, by omega⟩⟩
  · have g40 : ¬ gN D q < 40 := fun z => a ((gN_py h hq).mpr z)
    have gx := (gN_py h hx).mp hk
    refine ⟨fun z => absurd ?_ a, fun z => absurd z (by omega)⟩
    rw [z.1]; exact hk
theorem tvN_snoc {D : ST} {t : Int32} {S : List Nat} {x q : Nat} : tvN D t (S ++ [q]) x = tvN D t S x + (if gN D x < 40 ∧ gN D q = gN D x then smN D t q else 0) := by
  unfold tvN
  by_cases c : gN D x < 40
  · rw [if_pos c, if_pos c, sumG_snoc]
    by_cases d : gN D q = gN D x
    · rw [if_pos d, if_pos ⟨c, d⟩]
    · rw [if_neg d, if_neg (fun z => d z.2)]
  · rw [if_neg c, if_neg c, if_neg (fun z => c z.1)]
theorem w229v {D s : ST} {x : Nat} {K : Int32 → ST → Prop} (f : Fr fsS D s) (hx : x < 150) : w_229 (nI x) s K = K (pyI D x) s := by
  have p := pin_nI hx (show 150 < 2 ^ 31 by omega)
  rw [e_229 _ _ (⟨p, fun _ => p, fun _ => ⟨p, fun _ => p⟩⟩)]
  unfold v_229 pyI
  rw [nI_clamp (by omega), f.2.1 57 rfl, f.2.1 59 rfl]
  by_cases a : D.2.1 57 x = 0
  · rw [if_pos a, if_pos (Or.inl a)]
  · rw [if_neg a]
    by_cases b : D.2.1 57 x = 1
    · rw [if_neg (fun z => z b), if_pos (Or.inr b)]
    · rw [if_pos b, if_neg (fun z => z.elim a b)]
theorem l_230 {D s : ST} {t : Int32} {x : Nat} {X : Int32 → Int64 → Int64 → ST → Prop} {K : ST → Prop} (h : Bk D) (f : Fr fsS D s) (r : RW D t s) (hx : x < nR D) (h1 : X (nI x) (lN (cntH D (sdy D t x) (hN D x))) (lN (tvN D t (sdy D t x) x)) s) : ∀ n k, k ≤ (kL D t).length → (kL D t).length - k < n → w_230_L6 n (nI x) (lN (cntH D (sdk D t x k) (hN D x))) (lN (tvN D t (sdk D t x k) x)) (nI k) s X K := by
  have h150 := kL_150 h (t := t)
  have hR := (bkR h).2.2
  have px := pin_nI (show x < 150 by omega) (show 150 < 2 ^ 31 by omega)
  intro n
  induction n with
  | zero => intro k _ z; omega
  | succ n ih =>
    intro k hk hn
    rw [w_230_L6, r.1, nI_leI (by omega) (by omega)]
    by_cases c : (kL D t).length ≤ k
    · have e : sdk D t x k = sdy D t x := by unfold sdk sdy; rw [List.take_of_length_le c]
      rw [e]
      exact br_t c h1
    refine br_f c ?_
    have hkl : k < (kL D t).length := by omega
    obtain ⟨r1, r2, r3, hq, r5, r6⟩ := rp h r hkl
    have nx := ih (k + 1) (by omega) (by omega)
    rw [sdk_s hkl, ← nI_1] at nx
    have a0 : ∀ y : Int64, y + 0 = y := Int64.add_zero
    rw [nI_clamp (show k < 2 ^ 31 by omega), nI_clamp (show x < 2 ^ 31 by omega), r1, r5, f.2.1 60 rfl, f.2.1 63 rfl]
    have hs : (smI D t (kL D t)[k]).toInt64 = lN (smN D t (kL D t)[k]) := by
      have hz := smI_rng h (t := t) hq
      rw [smI_N h hq]
      exact nI_l (by show (smI D t (kL D t)[k]).toInt.toNat < 2 ^ 31; omega)
    generalize (kL D t)[k] = q at *
    refine ⟨r2, r3, px, ?_⟩
    by_cases d : D.2.1 60 q = D.2.1 60 x
    · rw [if_pos d, cntH_snoc, tvN_snoc] at nx
      refine br_t d ⟨r3, px, ?_⟩
      have tail : ∀ y : Int64, y = lN (cntH D (sdk D t x k) (hN D x) + if hN D q = hN D x then 1 else 0) → w_229 (nI x) s (fun r2 s1 => ((r2 = (-1 : Int32) → w_230_L6 n (nI x) y (lN (tvN D t (sdk D t x k) x) + (0 : Int64)) (nI k + (1 : Int32)) s1 X K) ∧ (¬ (r2 = (-1 : Int32)) → (pin (nI q) 150 = true ∧ (pin (nI x) 150 = true ∧ ((¬ ((s1.2.1 57) q) = ((s1.2.1 57) x) → w_230_L6 n (nI x) y (lN (tvN D t (sdk D t x k) x) + (0 : Int64)) (nI k + (1 : Int32)) s1 X K) ∧ (¬ (¬ ((s1.2.1 57) q) = ((s1.2.1 57) x)) → (pin (nI q) 150 = true ∧ (pin (nI x) 150 = true ∧ ((¬ ((s1.2.1 59) q) = ((s1.2.1 59) x) → w_230_L6 n (nI x) y (lN (tvN D t (sdk D t x k) x) + (0 : Int64)) (nI k + (1 : Int32)) s1 X K) ∧ (¬ (¬ ((s1.2.1 59) q) = ((s1.2.1 59) x)) → (pin (nI q) 150 = true ∧ w_230_L6 n (nI x) y (lN (tvN D t (sdk D t x k) x) + (((s1.2.1 73) q).toInt64)) (nI k + (1 : Int32)) s1 X K)))))))))))) := by
        intro y hy
        rw [w229v f (by omega), a0, f.2.1 57 rfl, f.2.1 59 rfl, r6, hs, lN_add]
        subst hy
        unfold pyI
        by_cases g : D.2.1 57 x = 0 ∨ D.2.1 57 x = 1
        · rw [if_pos g]
          obtain ⟨p1, p2, p3, p4⟩ := pay_ok h hx g
          refine br_f (by rw [i_eq, l_m1]; omega) ⟨r3, px, ?_⟩
          have gi := grp_iff h hq hx g
          have gl := (gN_py h hx).mp g
          by_cases e1 : D.2.1 57 q = D.2.1 57 x
          · refine br_f (fun z => z e1) ⟨r3, px, ?_⟩
            by_cases e2 : D.2.1 59 q = D.2.1 59 x
            · rw [if_pos (show gN D x < 40 ∧ gN D q = gN D x from ⟨gl, gi.mp ⟨e1, e2⟩⟩)] at nx
              exact br_f (fun z => z e2) ⟨r3, nx⟩
            · rw [if_neg (show ¬ (gN D x < 40 ∧ gN D q = gN D x) from fun z => e2 (gi.mpr z.2).2), Nat.add_zero] at nx
              exact br_t e2 nx
          · rw [if_neg (show ¬ (gN D x < 40 ∧ gN D q = gN D x) from fun z => e1 (gi.mpr z.2).1), Nat.add_zero] at nx
            exact br_t e1 nx
        · rw [if_neg g]
          rw [if_neg (show ¬ (gN D x < 40 ∧ gN D q = gN D x) from fun z => g ((gN_py h hx).mpr z.1)), Nat.add_zero] at nx
          exact br_t rfl nx
      have hi := hN_iff h hq hx
      by_cases e : D.2.1 63 q = D.2.1 63 x
      · refine br_f (fun z => z e) (tail _ ?_)
        rw [if_pos (hi.mp e), lN_1]
      · refine br_t e (tail _ ?_)
        rw [if_neg (fun z => e (hi.mpr z)), a0, Nat.add_zero]
    · rw [if_neg d] at nx
      exact br_f d nx
theorem mp_230 {D s : ST} {t u : Int32} {x : Nat} {K : ST → Prop} (h : Bk D) (f : Fr fsS D s) (r : RW D t s) (hu : (if D.2.1 64 x = s.1 5552 then -1 else D.2.1 64 x) = lvI D x u) (hx : x < nR D) (k : ∀ s1, Fr fq93 s s1 → (∀ j, j < 13 → s1.2.2.1 93 j = fxv D t x u j) → K s1) : w_230 (nI x) s K := by
  have h150 := kL_150 h (t := t)
  have hR := (bkR h).2.2
  have hx5 : x < 150 := by omega
  have px := pin_nI hx5 (show 150 < 2 ^ 31 by omega)
  unfold w_230
  have e1 : cntH D (sdk D t x 0) (hN D x) = 0 := rfl
  have e2 : tvN D t (sdk D t x 0) x = 0 := by unfold tvN; split <;> rfl
  have key : ∀ (X : Int32 → Int64 → Int64 → ST → Prop) (K : ST → Prop), X (nI x) (lN (cntH D (sdy D t x) (hN D x))) (lN (tvN D t (sdy D t x) x)) s → w_230_L6 160 (nI x) 0 0 0 s X K := by
    intro X K hX
    have z := l_230 (X := X) (K := K) h f r hx hX 160 0 (by omega) (by omega)
    rw [e1, e2] at z
    exact z
  refine ⟨160, key _ _ ?_⟩
  have e57 : s.2.1 57 x = D.2.1 57 x := by rw [f.2.1 57 rfl]
  have e60 : s.2.1 60 x = D.2.1 60 x := by rw [f.2.1 60 rfl]
  have e10 : s.2.1 66 x - s.2.1 60 x = D.2.1 66 x - D.2.1 60 x := by rw [congrFun (f.2.1 66 rfl) x, e60]
  have e73 : s.2.1 73 x = smI D t x := r.2.2.1 x hx
  rw [nI_clamp (show x < 2 ^ 31 by omega)]
  refine ⟨px, rfl, px, rfl, px, rfl, px, rfl, px, rfl, ?_⟩
  have o228 : ∀ s' : ST, ob_228 (nI x) s' := fun s' => ⟨px, fun _ => px⟩
  rw [e_228 _ _ (o228 _)]
  have e5 : v_228 (nI x) s = lvI D x u := by
    rw [← hu]
    unfold v_228
    rw [nI_clamp (show x < 2 ^ 31 by omega), f.2.1 64 rfl]
    by_cases z : D.2.1 64 x = s.1 5552
    · rw [if_neg (fun y => y z), if_pos z]
    · rw [if_pos z, if_neg z]
  refine ⟨rfl, px, rfl, px, ?_⟩
  by_cases c : D.2.1 57 x = 2
  · refine br_f (fun z => z (e57.trans c)) ⟨px, ?_⟩
    refine ⟨rfl, ?_⟩
    rw [w229v (fr_sL 93 (fr_sL 93 f)) hx5]
    refine ⟨rfl, px, rfl, px, px, rfl, rfl, rfl, ?_⟩
    refine k _ (fr_sL 93 (fr_sL 93 (fr_sL 93 (fr_rfl _ _)))) ?_
    intro j hj
    match j, hj with
    | 0, _ => exact congrArg Int32.toInt64 e57
    | 1, _ => exact congrArg Int32.toInt64 e73
    | 2, _ => exact congrArg Int32.toInt64 e60
    | 3, _ => exact congrArg Int32.toInt64 (congrFun (f.2.1 61 rfl) x)
    | 4, _ => exact congrArg Int32.toInt64 (congrFun (f.2.1 63 rfl) x)
    | 5, _ => exact congrArg Int32.toInt64 e5
    | 6, _ => exact congrArg Int32.toInt64 (congrFun (f.2.1 58 rfl) x)
    | 7, _ => exact congrArg Int32.toInt64 (by unfold fcI; rw [if_pos c]; exact congrFun (f.2.1 59 rfl) x)
    | 8, _ => rfl
    | 9, _ => exact congrArg Int32.toInt64 (congrFun (f.2.1 65 rfl) x)
    | 10, _ => exact congrArg Int32.toInt64 e10
    | 11, _ => rfl
    | 12, _ => rfl
    | n + 13, hn => omega
  · refine br_t (fun z => c (e57.symm.trans z)) ?_
    refine ⟨rfl, ?_⟩
    rw [w229v (fr_sL 93 (fr_sL 93 f)) hx5]
    refine ⟨rfl, px, rfl, px, px, rfl, rfl, rfl, ?_⟩
    refine k _ (fr_sL 93 (fr_sL 93 (fr_sL 93 (fr_rfl _ _)))) ?_
    intro j hj
    match j, hj with
    | 0, _ => exact congrArg Int32.toInt64 e57
    | 1, _ => exact congrArg Int32.toInt64 e73
    | 2, _ => exact congrArg Int32.toInt64 e60
    | 3, _ => exact congrArg Int32.toInt64 (congrFun (f.2.1 61 rfl) x)
    | 4, _ => exact congrArg Int32.toInt64 (congrFun (f.2.1 63 rfl) x)
    | 5, _ => exact congrArg Int32.toInt64 e5
    | 6, _ => exact congrArg Int32.toInt64 (congrFun (f.2.1 58 rfl) x)
    | 7, _ => exact congrArg Int32.toInt64 (show (-1 : Int32) = fcI D x by unfold fcI; rw [if_neg c])
    | 8, _ => rfl
    | 9, _ => exact congrArg Int32.toInt64 (congrFun (f.2.1 65 rfl) x)
    | 10, _ => exact congrArg Int32.toInt64 e10
    | 11, _ => rfl
    | 12, _ => rfl
    | n + 13, hn => omega
