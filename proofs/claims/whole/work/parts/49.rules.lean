/-! ===== rules: which are in force, what is struck, and which breaks ===== -/
def inF (D : ST) (i : Nat) (day : Int32) : Bool := decide ((D.2.1 84 i).toInt ≤ day.toInt ∧ day.toInt ≤ (D.2.1 85 i).toInt)
def hsB (D : ST) (I : Nat) (kd : Int32) (sk : Nat → Bool) (fx : Nat → Int64) : Nat → Bool
  | 0 => false
  | j + 1 => hsB D I kd sk fx j || (decide (D.2.1 87 (10 * I + j) = kd) && !sk j && trv D I j fx)
def tgN (D : ST) (I j : Nat) : Nat := (D.2.1 90 (10 * I + j)).toNatClampNeg
def tcN (D : ST) (I j : Nat) : Nat := (D.2.1 91 (10 * I + j)).toNatClampNeg
def skc (D : ST) (day : Int32) (i : Nat) (S : Nat → Bool) : Nat → Nat → Bool
  | 0 => S
  | j + 1 => if D.2.1 87 (10 * i + j) = 120 ∧ S (10 * i + j) = false ∧ tgN D i j < i ∧ inF D (tgN D i j) day = true then (fun x => if x = 10 * tgN D i j + tcN D i j then true else skc D day i S j x) else skc D day i S j
def skr (D : ST) (day : Int32) : Nat → Nat → Bool
  | 0 => fun _ => false
  | m + 1 => if inF D (nU D - 1 - m) day = true then skc D day (nU D - 1 - m) (skr D day m) (nK D (nU D - 1 - m)) else skr D day m
def brk (D : ST) (day : Int32) (fx : Nat → Int64) : Nat → Int32
  | 0 => -2
  | m + 1 => if inF D m day = true then (if hsB D m 108 (fun j => skr D day (nU D - (m + 1)) (10 * m + j)) fx (nK D m) = true then -2 else if hsB D m 114 (fun j => skr D day (nU D - (m + 1)) (10 * m + j)) fx (nK D m) = true then nI m else brk D day fx m) else brk D day fx m
/-- what is sure of each clause of each rule -/
def Cfs (D : ST) : Prop := ∀ i, i < nU D → D.2.1 86 i = nI (nK D i) ∧ 1 ≤ nK D i ∧ nK D i ≤ 10 ∧ ∀ j, j < nK D i → (D.2.1 87 (10 * i + j) = 120 → D.2.1 90 (10 * i + j) = nI (tgN D i j) ∧ tgN D i j ≤ 19 ∧ D.2.1 91 (10 * i + j) = nI (tcN D i j) ∧ tcN D i j ≤ 9) ∧ (¬ D.2.1 87 (10 * i + j) = 120 → CodR D i j)
theorem Jrul_C {D : ST} (h : Jrul D) : Cfs D := by
  intro i hi
  obtain ⟨_, _, h3, h4, _⟩ := h
  rcases h4 with z | ⟨b, cap, g, q1, q2, q3, q4, q5⟩
  · omega
  · obtain ⟨y, r1, t1, t2, t3, v, mc, b2, cap2, g2, k1, k2, k3, k4, k5⟩ := q5 i hi
    refine ⟨t1, t2, t3, fun j hj => ?_⟩
    obtain ⟨c, c1, kd, m, tg, tc, p1, p2, p3, p4, p5⟩ := k5 j hj
    obtain ⟨e1, _⟩ := p2 (by omega)
    constructor
    · intro z
      obtain ⟨a1, a2, a3, a4, a5, a6⟩ := p4 (e1.trans z)
      rw [a1] at a3 a4
      rw [a2] at a5 a6
      exact ⟨nI_nat a3, by show (D.2.1 90 (10 * i + j)).toInt.toNat ≤ 19; omega, nI_nat a5, by show (D.2.1 91 (10 * i + j)).toInt.toNat ≤ 9; omega⟩
    · intro z
      exact (p5 (fun y => z (e1.symm.trans y))).1
theorem skc_keep {D : ST} {day : Int32} {i : Nat} {S : Nat → Bool} (hC : Cfs D) (hi : i < nU D) {x : Nat} (hx : 10 * i ≤ x) : ∀ k, k ≤ nK D i → skc D day i S k x = S x
  | 0, _ => rfl
  | k + 1, hk => by
    have ih := skc_keep hC hi hx (S := S) (day := day) k (by omega)
    rw [skc]
    by_cases c : D.2.1 87 (10 * i + k) = 120 ∧ S (10 * i + k) = false ∧ tgN D i k < i ∧ inF D (tgN D i k) day = true
    · rw [if_pos c]
      obtain ⟨a1, a2, a3, a4⟩ := ((hC i hi).2.2.2 k (by omega)).1 c.1
      rw [if_neg (by have := c.2.2.1; omega)]
      exact ih
    · rw [if_neg c]
      exact ih
theorem skr_keep {D : ST} {day : Int32} (hC : Cfs D) {m j : Nat} (hm : m < nU D) : ∀ q, nU D - (m + 1) ≤ q → q ≤ nU D → skr D day q (10 * m + j) = skr D day (nU D - (m + 1)) (10 * m + j) := by
  intro q hq
  induction hq with
  | refl => intro _; rfl
  | @step q hle ih =>
    intro hq2
    have hle2 : nU D - (m + 1) ≤ q := hle
    rw [skr]
    by_cases c : inF D (nU D - 1 - q) day = true
    · rw [if_pos c, skc_keep (i := nU D - 1 - q) (x := 10 * m + j) hC (by omega) (by omega) _ (Nat.le_refl _)]
      exact ih (by omega)
    · rw [if_neg c]
      exact ih (by omega)
theorem hsB_congr {D : ST} {I : Nat} {kd : Int32} {sk sk2 : Nat → Bool} {fx : Nat → Int64} (h : ∀ j, sk j = sk2 j) : ∀ k, hsB D I kd sk fx k = hsB D I kd sk2 fx k
  | 0 => rfl
  | k + 1 => by rw [hsB, hsB, hsB_congr h k, h k]
theorem hsB_t {D : ST} {I : Nat} {kd : Int32} {sk : Nat → Bool} {fx : Nat → Int64} {j : Nat} (h : hsB D I kd sk fx j = true) : ∀ k, j ≤ k → hsB D I kd sk fx k = true := by
  intro k hk
  induction hk with
  | refl => exact h
  | step _ ih => rw [hsB, ih]; rfl
/-! reading the class's lists -/
theorem pg {dy : PH} {a c k : Nat} {fs : List Value} {v : Value} (h : pob dy a c = some fs) (hv : fs[k]? = some v) : pgf dy a c k = some v := by
  unfold pgf
  rw [h]
  exact hv
theorem mp_306 {s : ST} {j n : Nat} {K : Int32 → ST → Prop} (hj : j < n) (hn : n < 2 ^ 31) (k : K (nI j) s) : w_306 (nI j) (nI n) s K := by
  unfold w_306 w_308_N
  exact br_f (nI_pos (by omega)) (br_t (nI_lt hj hn) k)
theorem mp_299 {s : ST} {v j n b cap c : Nat} {mc : Int32} {g : Nat → Option Nat} {K : Nat → ST → Prop} (k2 : pob s.2.2.2.2 v 13 = some [.int mc, .ref (b + 118), .int (nI n)]) (k3 : prowR s.2.2.2.2 b = some (cap, g)) (hc : n ≤ cap) (hn : n < 2 ^ 31) (hj : j < n) (hg : g j = some (c + 118)) (k : K c s) : w_299 v (nI j) s K := by
  unfold w_299
  refine ⟨nI n, pg k2 rfl, mp_306 hj hn ⟨_, k2, ?_⟩⟩
  unfold w_298
  refine Or.inr ⟨b, pg k2 rfl, cap, g, c, k3, ?_, ?_, k⟩
  · exact pin_of (by rw [nI_toInt (by omega)]; omega) (by rw [nI_toInt (by omega)]; omega)
  · rw [nI_clamp (by omega)]; exact hg
theorem mp_R20 {D s : ST} {i : Nat} {K : Nat → ST → Prop} (hj : Jrul D) (k2002 : s.1 2002 = D.1 2002) (hl : s.2.2.2 = D.2.2.2) (hi : i < nU D) (k : ∀ y, TxA D D.2.2.2.2 i y (D.2.1 84 i) (D.2.1 85 i) → K y s) : w_299_R20 (nI i) s K := by
  obtain ⟨h1, _, h3, h4, _⟩ := hj
  rcases h4 with z | ⟨b, cap, g, q1, q2, q3, q4, q5⟩
  · omega
  · obtain ⟨y, r1, r2⟩ := q5 i hi
    unfold w_299_R20
    rw [k2002, h1]
    refine mp_306 hi (by omega) ?_
    unfold w_298_R20
    refine Or.inr ⟨b, by rw [hl]; exact q1, cap, g, y, by rw [hl]; exact q2, ?_, ?_, k y r2⟩
    · exact pin_of (by rw [nI_toInt (by omega)]; omega) (by rw [nI_toInt (by omega)]; omega)
    · rw [nI_clamp (by omega)]; exact r1
theorem mp_108 {D s : ST} {I y : Nat} {fr to day : Int32} {K : Int32 → ST → Prop} (h : TxA D D.2.2.2.2 I y fr to) (hl : s.2.2.2 = D.2.2.2) (k1 : (fr.toInt ≤ day.toInt ∧ day.toInt ≤ to.toInt) → ∀ r : Int32, ¬ r = 0 → K r s) (k0 : ¬ (fr.toInt ≤ day.toInt ∧ day.toInt ≤ to.toInt) → K 0 s) : w_108 y day s K := by
  obtain ⟨_, _, _, v, mc, b, cap, g, p1, _⟩ := h
  unfold w_108
  refine ⟨fr, by rw [hl]; exact pg p1 rfl, to, by rw [hl]; exact pg p1 rfl, ?_⟩
  rw [e_181]
  by_cases c : fr.toInt ≤ day.toInt ∧ day.toInt ≤ to.toInt
  · exact k1 c _ (fun z => (t_181.mp z) c)
  · rw [t_181.mpr c]
    exact k0 c
/-! does a clause of a kind that isn't struck hold -/
abbrev fq18b : FS := ([], [], [18], false, false)
theorem l_55 {D s0 : ST} {I y : Nat} {fr to kd out : Int32} {sk : Nat → Bool} {fx : Nat → Int64} {X31 X27 : ST → Prop} {K : Int32 → ST → Prop} (h : TxA D D.2.2.2.2 I y fr to) (hI : I < 20) (hl : s0.2.2.2 = D.2.2.2) (hk : ¬ kd = 120) (hsk : ∀ j, j < 10 → (bitI (nI j) out = 0 ↔ sk j = false)) (hfx : ∀ k, k < 13 → s0.2.2.1 17 k = fx k) (h1 : ∀ s, Fr fq18 s0 s → hsB D I kd sk fx (nK D I) = false → X31 s) (h2 : ∀ s, Fr fq18 s0 s → hsB D I kd sk fx (nK D I) = true → X27 s) : ∀ n j s, j ≤ nK D I → nK D I - j < n → Fr fq18 s0 s → hsB D I kd sk fx j = false → w_55_L2 n y kd out (nI j) s X31 X27 K := by
  obtain ⟨t1, t2, t3, v, mc, b, cap, g, p1, p2, p3, p4, p5⟩ := h
  intro n
  induction n with
  | zero => intro j s _ z; omega
  | succ n ih =>
    intro j s hj hn f hs
    have hd : s.2.2.2.2 = D.2.2.2.2 := by rw [f.2.2.2.2 rfl, hl]
    rw [w_55_L2]
    rw [hd]
    refine ⟨v, pg p1 rfl, _, p2, nI (nK D I), by rw [hd]; exact pg p2 rfl, ?_⟩
    dsimp only
    rw [nI_leI (by omega) (by omega)]
    by_cases c : nK D I ≤ j
    · have : j = nK D I := by omega
      subst this
      exact br_t c (h1 s f hs)
    refine br_f c ?_
    rw [hd]
    obtain ⟨cl, c1, kd2, m, tg, tc, o1, o2, o3, o4, o5⟩ := p5 j (by omega)
    refine ⟨v, pg p1 rfl, _, p2, mp_299 (by rw [hd]; exact p2) (by rw [hd]; exact p3) p4 (by omega) (by omega) c1 ?_⟩
    rw [hd]
    refine ⟨_, o1, kd2, pg o1 rfl, ?_⟩
    obtain ⟨e1, _⟩ := o2 hI
    have nx : hsB D I kd sk fx (j + 1) = false → ∀ s2, Fr fq18 s0 s2 → w_55_L2 n y kd out (nI j + 1) s2 X31 X27 K := by
      intro z s2 f2
      rw [nI_1]
      exact ih (j + 1) s2 (by omega) (by omega) f2 z
    rw [hsB, hs, Bool.false_or] at nx
    rw [e1]
    by_cases d : D.2.1 87 (10 * I + j) = kd
    · refine br_f (fun z => z d) ?_
      simp only [e_184, t_184]
      have hb := hsk j (by omega)
      by_cases e : bitI (nI j) out = 0
      · refine br_f (fun z => z e) ?_
        rw [hd]
        refine ⟨m, pg o1 rfl, ?_⟩
        have nk : ¬ kd2 = 120 := by rw [e1, d]; exact hk
        obtain ⟨⟨⟨st, hw⟩, _⟩, f5, g1, g2⟩ := o5 nk
        refine mp_21 (G := Gd D I j) (L := Ln D I j) (fx := fx) (by rw [hd]; exact g1) g2 hw (by intro k hk2; rw [f.2.2.1 17 rfl]; exact hfx k hk2) ?_
        intro s2 f2
        have f3 : Fr fq18 s0 s2 := fr_tr (F := fq18) rfl f f2
        show (((if evT (Gd D I j) (Ln D I j) fx = true then (1 : Int32) else 0) = 0 → _) ∧ _)
        have et : evT (Gd D I j) (Ln D I j) fx = trv D I j fx := rfl
        rw [et]
        by_cases q : trv D I j fx = true
        · rw [if_pos q]
          refine br_f (by decide) (h2 s2 f3 (hsB_t (j := j + 1) ?_ _ (by omega)))
          rw [hsB, hs, decide_eq_true d, hb.mp e, q]
          rfl
        · rw [if_neg q]
          refine br_t rfl (nx ?_ s2 f3)
          rw [Bool.eq_false_iff.mpr q, Bool.and_false]
      · refine br_t e (nx ?_ s f)
        have : sk j = true := by
          cases w : sk j with
          | true => rfl
          | false => exact absurd (hb.mpr w) e
        rw [this]
        simp
    · refine br_t d (nx ?_ s f)
      rw [decide_eq_false d]
      rfl
theorem mp_55 {D s : ST} {I y : Nat} {fr to kd out : Int32} {sk : Nat → Bool} {fx : Nat → Int64} {K : Int32 → ST → Prop} (h : TxA D D.2.2.2.2 I y fr to) (hI : I < 20) (hl : s.2.2.2 = D.2.2.2) (hk : ¬ kd = 120) (hsk : ∀ j, j < 10 → (bitI (nI j) out = 0 ↔ sk j = false)) (hfx : ∀ k, k < 13 → s.2.2.1 17 k = fx k) (k : ∀ s1, Fr fq18 s s1 → K (if hsB D I kd sk fx (nK D I) = true then 1 else 0) s1) : w_55 y kd out s K := by
  have t3 := h.2.2.1
  unfold w_55
  refine ⟨11, l_55 h hI hl hk hsk hfx ?_ ?_ 11 0 s (by omega) (by omega) (fr_rfl _ _) rfl⟩
  · intro s1 f1 z
    have := k s1 f1
    rw [if_neg (by rw [z]; decide)] at this
    exact this
  · intro s1 f1 z
    have := k s1 f1
    rw [if_pos z] at this
    exact this
/-! what a rule strikes -/
theorem bt_bit {x : Int32} {j : Nat} (hj : j < 10) : (bitI (nI j) x = 0) ↔ bt x j = false := by
  have hs : (((nI j) &&& 31).toBitVec.smod 32).toNat = j := by
    match j, hj with
    | 0, _ => rfl
    | 1, _ => rfl
    | 2, _ => rfl
    | 3, _ => rfl
    | 4, _ => rfl
    | 5, _ => rfl
    | 6, _ => rfl
    | 7, _ => rfl
    | 8, _ => rfl
    | 9, _ => rfl
    | n + 10, h => omega
  have e0 : ∀ i, bt (x >>> (nI j &&& 31)) i = true ∧ bt 1 i = true → i = 0 := by
    intro i h
    have h1 : (1#32).getLsbD i = true := h.2
    rw [BitVec.getLsbD_one] at h1
    simp at h1
    exact h1
  have e1 : bt (x >>> (nI j &&& 31)) 0 = bt x j := by
    have ev : (x >>> (nI j &&& 31)).toBitVec = x.toBitVec.sshiftRight ((nI j &&& 31).toBitVec.smod 32).toNat := rfl
    unfold bt
    rw [ev, hs, BitVec.getLsbD_sshiftRight]
    have : j + 0 < 32 := by omega
    simp [this]
    intro h
    omega
  unfold bitI
  constructor
  · intro h
    cases w : bt x j with
    | false => rfl
    | true =>
      refine absurd h (nz_iff.mpr ⟨0, by rw [e1]; exact w, by rfl⟩)
  · intro h
    refine Classical.byContradiction (fun z => ?_)
    obtain ⟨i, q1, q2⟩ := nz_iff.mp z
    have := e0 i ⟨q1, q2⟩
    subst this
    rw [e1, h] at q1
    cases q1
theorem bt_shl {c j : Nat} (hc : c ≤ 9) (hj : j < 10) : bt ((1 : Int32) <<< (nI c &&& 31)) j = decide (j = c) := by
  have h : ∀ a, a < 10 → ∀ b, b < 10 → bt ((1 : Int32) <<< (nI a &&& 31)) b = decide (b = a) := by decide
  exact h c (by omega) j hj
