/-! ===== a condition's code, and what it says of a row; rules and chains as both keep them ===== -/
def evB (op : Nat) (a b : Int64) : Int64 := if op = 5 then a + b else if op = 6 then a - b else if op = 7 then a * b else if op = 8 then a / b else if op = 9 then a - a / b * b else if op = 10 then (if a < b then 1 else 0) else if op = 11 then (if b < a then 1 else 0) else (if a = b then 1 else 0)
/-- code G (operation, operand), L long; fx the row's facts; a stack with its top first -/
def ev (G : Nat → Nat × Nat) (L : Nat) (fx : Nat → Int64) : Nat → Nat → List Int64 → Bool
  | 0, _, _ => false
  | n + 1, p, S =>
    if L ≤ p then (match S with
      | a :: _ => decide (a = 1)
      | [] => false)
    else if (G p).1 = 0 then ev G L fx n (p + 1) (lN (G p).2 :: S)
    else if (G p).1 = 1 then ev G L fx n (p + 1) (fx (G p).2 :: S)
    else match S with
      | [] => false
      | a :: r =>
        if (G p).1 = 2 then ev G L fx n (p + 1) ((1 - a) :: r)
        else if (G p).1 = 3 then (if a = 0 then ev G L fx n (G p).2 (a :: r) else ev G L fx n (p + 1) r)
        else if (G p).1 = 4 then (if a = 0 then ev G L fx n (p + 1) r else ev G L fx n (G p).2 (a :: r))
        else match r with
          | [] => false
          | c :: r2 => if ((G p).1 = 8 ∨ (G p).1 = 9) ∧ a = 0 then false else ev G L fx n (p + 1) (evB (G p).1 c a :: r2)
def evT (G : Nat → Nat × Nat) (L : Nat) (fx : Nat → Int64) : Bool := ev G L fx (L + 1) 0 []
/-- the types on the stack ahead of each place: true a 0 or 1 -/
def wt1 (G : Nat → Nat × Nat) (L : Nat) (st : Nat → List Bool) (p : Nat) : Prop := (G p).1 ≤ 12 ∧ ((G p).1 = 0 → st (p + 1) = false :: st p ∧ (G p).2 < 10000000) ∧ ((G p).1 = 1 → st (p + 1) = false :: st p ∧ (G p).2 < 13) ∧ ((G p).1 = 2 → (G p).2 = 0 ∧ ∃ r, st p = true :: r ∧ st (p + 1) = true :: r) ∧ ((G p).1 = 3 ∨ (G p).1 = 4 → ∃ r, st p = true :: r ∧ st (p + 1) = r ∧ p < (G p).2 ∧ (G p).2 ≤ L ∧ st (G p).2 = true :: r) ∧ (5 ≤ (G p).1 → (G p).2 = 0 ∧ ∃ r, st p = false :: false :: r ∧ st (p + 1) = decide (10 ≤ (G p).1) :: r)
def wt (G : Nat → Nat × Nat) (L : Nat) (st : Nat → List Bool) : Prop := st 0 = [] ∧ st L = [true] ∧ L ≤ 160 ∧ ∀ p, p < L → wt1 G L st p
/-- the reference's number of an operation -/
def mpo : Nat → Nat
  | 0 => 0
  | 1 => 1
  | 2 => 10
  | 3 => 11
  | 4 => 12
  | n + 5 => n + 2
def mpi : Nat → Nat
  | 0 => 0
  | 1 => 1
  | 10 => 2
  | 11 => 3
  | 12 => 4
  | n => n + 3
/-! clause j of text I in the reference: its code's place and length, and the code itself -/
def cfN (s : ST) (I j : Nat) : Nat := (s.2.1 88 (10 * I + j)).toNatClampNeg
def Ln (s : ST) (I j : Nat) : Nat := (s.2.1 89 (10 * I + j)).toNatClampNeg - cfN s I j
def ofN (s : ST) (I j : Nat) : Nat := cfN s I j - 180 * I
def cdN (s : ST) (I j p : Nat) : Nat := (s.2.1 83 (cfN s I j + p)).toNatClampNeg
def Gd (s : ST) (I j p : Nat) : Nat × Nat := (mpi (cdN s I j p / 16777216), if mpi (cdN s I j p / 16777216) = 3 ∨ mpi (cdN s I j p / 16777216) = 4 then cdN s I j p % 16777216 - ofN s I j else cdN s I j p % 16777216)
def trv (s : ST) (I j : Nat) (fx : Nat → Int64) : Bool := evT (Gd s I j) (Ln s I j) fx
def CodR (s : ST) (I j : Nat) : Prop := (∃ st, wt (Gd s I j) (Ln s I j) st) ∧ s.2.1 88 (10 * I + j) = nI (cfN s I j) ∧ s.2.1 89 (10 * I + j) = nI (cfN s I j + Ln s I j) ∧ 180 * I ≤ cfN s I j ∧ cfN s I j + Ln s I j ≤ 180 * I + 180 ∧ ∀ p, p < Ln s I j → s.2.1 83 (cfN s I j + p) = nI (16777216 * mpo (Gd s I j p).1 + (if (Gd s I j p).1 = 3 ∨ (Gd s I j p).1 = 4 then ofN s I j + (Gd s I j p).2 else (Gd s I j p).2))
def CodC (s : ST) (dy : PH) (m I j : Nat) : Prop := ∃ f, prow dy m 0 = some (Ln s I j, f) ∧ ∀ p, p < Ln s I j → f p = nI (16 * (Gd s I j p).2 + (Gd s I j p).1)
/-- the class's clause c is the reference's clause j of text I -/
def ClA (s : ST) (dy : PH) (I j c : Nat) : Prop := ∃ kd m tg tc, pob dy c 1 = some [.int kd, .ref (m + 118), .int tg, .int tc] ∧ (I < 20 → kd = s.2.1 87 (10 * I + j) ∧ (kd = 114 ∨ kd = 108 ∨ kd = 120)) ∧ (20 ≤ I → kd = 40 ∧ tg = s.2.1 90 (10 * I + j) ∧ 0 ≤ tg.toInt ∧ tg.toInt ≤ 7) ∧ (kd = 120 → tg = s.2.1 90 (10 * I + j) ∧ tc = s.2.1 91 (10 * I + j) ∧ 0 ≤ tg.toInt ∧ tg.toInt ≤ 19 ∧ 0 ≤ tc.toInt ∧ tc.toInt ≤ 9) ∧ (¬ kd = 120 → CodR s I j ∧ CodC s dy m I j)
def nK (s : ST) (I : Nat) : Nat := (s.2.1 86 I).toNatClampNeg
/-- the class's text y is the reference's text I -/
def TxA (s : ST) (dy : PH) (I y : Nat) (fr to : Int32) : Prop := s.2.1 86 I = nI (nK s I) ∧ 1 ≤ nK s I ∧ nK s I ≤ 10 ∧ ∃ v mc b cap g, pob dy y 9 = some [.ref (v + 118), .int fr, .int to] ∧ pob dy v 13 = some [.int mc, .ref (b + 118), .int (nI (nK s I))] ∧ prowR dy b = some (cap, g) ∧ nK s I ≤ cap ∧ ∀ j, j < nK s I → ∃ c, g j = some (c + 118) ∧ ClA s dy I j c
def nU (s : ST) : Nat := (s.1 5541).toNatClampNeg
def nC (s : ST) : Nat := (s.1 5542).toNatClampNeg
def Jrul (s : ST) : Prop := s.1 2002 = nI (nU s) ∧ s.1 5541 = nI (nU s) ∧ nU s ≤ 20 ∧ ((nU s = 0 ∧ s.2.2.2.1 20 = .float 1) ∨ ∃ b cap g, s.2.2.2.1 20 = .ref (b + 118) ∧ prowR s.2.2.2.2 b = some (cap, g) ∧ (10 ≤ cap ∧ 1 ≤ nU s) ∧ nU s ≤ cap ∧ ∀ i, i < nU s → ∃ y, g i = some (y + 118) ∧ TxA s s.2.2.2.2 i y (s.2.1 84 i) (s.2.1 85 i)) ∧ s.1 2202 = nI (nC s) ∧ s.1 5542 = nI (nC s) ∧ nC s ≤ 6 ∧ ((nC s = 0 ∧ s.2.2.2.1 22 = .float 1) ∨ ∃ b cap g, s.2.2.2.1 22 = .ref (b + 118) ∧ prowR s.2.2.2.2 b = some (cap, g) ∧ (10 ≤ cap ∧ 1 ≤ nC s) ∧ nC s ≤ cap ∧ ∀ i, i < nC s → nK s (20 + i) ≤ 4 ∧ ∃ y, g i = some (y + 118) ∧ TxA s s.2.2.2.2 (20 + i) y 0 3999)
theorem pob_app {dy e : PH} {a c : Nat} {fs : List Value} (h : pob dy a c = some fs) : pob (dy ++ e) a c = some fs := by
  unfold pob at h ⊢
  cases hg : dy[a]? with
  | none => rw [hg] at h; cases h
  | some w =>
    have hl := (List.getElem?_eq_some_iff.mp hg).1
    rw [List.getElem?_append_left hl]
    exact h
theorem prow_app {dy e : PH} {a t n : Nat} {f : Nat → Int32} (h : prow dy a t = some (n, f)) : prow (dy ++ e) a t = some (n, f) := by
  unfold prow at h ⊢
  cases hg : dy[a]? with
  | none => rw [hg] at h; cases h
  | some w =>
    have hl := (List.getElem?_eq_some_iff.mp hg).1
    rw [List.getElem?_append_left hl]
    exact h
theorem prowR_app {dy e : PH} {a n : Nat} {f : Nat → Option Nat} (h : prowR dy a = some (n, f)) : prowR (dy ++ e) a = some (n, f) := by
  unfold prowR at h ⊢
  cases hg : dy[a]? with
  | none => rw [hg] at h; cases h
  | some w =>
    have hl := (List.getElem?_eq_some_iff.mp hg).1
    rw [List.getElem?_append_left hl]
    exact h
theorem CodC_app {s : ST} {dy e : PH} {m I j : Nat} (h : CodC s dy m I j) : CodC s (dy ++ e) m I j := by
  obtain ⟨f, h1, h2⟩ := h
  exact ⟨f, prow_app h1, h2⟩
theorem ClA_app {s : ST} {dy e : PH} {I j c : Nat} (h : ClA s dy I j c) : ClA s (dy ++ e) I j c := by
  obtain ⟨kd, m, tg, tc, h1, h2, h3, h4, h5⟩ := h
  exact ⟨kd, m, tg, tc, pob_app h1, h2, h3, h4, fun z => ⟨(h5 z).1, CodC_app (h5 z).2⟩⟩
theorem TxA_app {s : ST} {dy e : PH} {I y : Nat} {fr to : Int32} (h : TxA s dy I y fr to) : TxA s (dy ++ e) I y fr to := by
  obtain ⟨h1, h2, h3, v, mc, b, cap, g, k1, k2, k3, k4, k5⟩ := h
  refine ⟨h1, h2, h3, v, mc, b, cap, g, pob_app k1, pob_app k2, prowR_app k3, k4, fun j hj => ?_⟩
  obtain ⟨c, q1, q2⟩ := k5 j hj
  exact ⟨c, q1, ClA_app q2⟩
theorem cfN_c {s s1 : ST} (h : ∀ a, 83 ≤ a → a ≤ 91 → s1.2.1 a = s.2.1 a) : cfN s1 = cfN s := by funext I j; unfold cfN; rw [h 88 (by omega) (by omega)]
theorem Ln_c {s s1 : ST} (h : ∀ a, 83 ≤ a → a ≤ 91 → s1.2.1 a = s.2.1 a) : Ln s1 = Ln s := by funext I j; unfold Ln; rw [cfN_c h, h 89 (by omega) (by omega)]
theorem ofN_c {s s1 : ST} (h : ∀ a, 83 ≤ a → a ≤ 91 → s1.2.1 a = s.2.1 a) : ofN s1 = ofN s := by funext I j; unfold ofN; rw [cfN_c h]
theorem cdN_c {s s1 : ST} (h : ∀ a, 83 ≤ a → a ≤ 91 → s1.2.1 a = s.2.1 a) : cdN s1 = cdN s := by funext I j p; unfold cdN; rw [cfN_c h, h 83 (by omega) (by omega)]
theorem Gd_c {s s1 : ST} (h : ∀ a, 83 ≤ a → a ≤ 91 → s1.2.1 a = s.2.1 a) : Gd s1 = Gd s := by funext I j p; unfold Gd; rw [cdN_c h, ofN_c h]
theorem trv_c {s s1 : ST} (h : ∀ a, 83 ≤ a → a ≤ 91 → s1.2.1 a = s.2.1 a) : trv s1 = trv s := by funext I j fx; unfold trv; rw [Gd_c h, Ln_c h]
theorem nK_c {s s1 : ST} (h : ∀ a, 83 ≤ a → a ≤ 91 → s1.2.1 a = s.2.1 a) : nK s1 = nK s := by funext I; unfold nK; rw [h 86 (by omega) (by omega)]
theorem TxA_c {s s1 : ST} (h : ∀ a, 83 ≤ a → a ≤ 91 → s1.2.1 a = s.2.1 a) {dy : PH} {I y : Nat} {fr to : Int32} : TxA s1 dy I y fr to = TxA s dy I y fr to := by
  unfold TxA ClA CodR CodC
  rw [nK_c h, Gd_c h, Ln_c h, cfN_c h, ofN_c h, h 83 (by omega) (by omega), h 86 (by omega) (by omega), h 87 (by omega) (by omega), h 88 (by omega) (by omega), h 89 (by omega) (by omega), h 90 (by omega) (by omega), h 91 (by omega) (by omega)]
theorem Jrul_app {s s1 : ST} (h : ∀ a, 83 ≤ a → a ≤ 91 → s1.2.1 a = s.2.1 a) {e : PH} (k1 : s1.1 2002 = s.1 2002) (k2 : s1.1 5541 = s.1 5541) (k3 : s1.1 2202 = s.1 2202) (k4 : s1.1 5542 = s.1 5542) (hr : s1.2.2.2.1 = s.2.2.2.1) (hd : s1.2.2.2.2 = s.2.2.2.2 ++ e) (hj : Jrul s) : Jrul s1 := by
  obtain ⟨j1, j2, j3, j4, j5, j6, j7, j8⟩ := hj
  have eU : nU s1 = nU s := by unfold nU; rw [k2]
  have eC : nC s1 = nC s := by unfold nC; rw [k4]
  unfold Jrul
  rw [eU, eC, k1, k2, k3, k4, hr, hd, h 84 (by omega) (by omega), h 85 (by omega) (by omega)]
  refine ⟨j1, j2, j3, ?_, j5, j6, j7, ?_⟩
  · rcases j4 with z | ⟨b, cap, g, q1, q2, q3, q4, q5⟩
    · exact Or.inl z
    · refine Or.inr ⟨b, cap, g, q1, prowR_app q2, q3, q4, fun i hi => ?_⟩
      obtain ⟨y, r1, r2⟩ := q5 i hi
      exact ⟨y, r1, by rw [TxA_c h]; exact TxA_app r2⟩
  · rcases j8 with z | ⟨b, cap, g, q1, q2, q3, q4, q5⟩
    · exact Or.inl z
    · refine Or.inr ⟨b, cap, g, q1, prowR_app q2, q3, q4, fun i hi => ?_⟩
      obtain ⟨r0, y, r1, r2⟩ := q5 i hi
      exact ⟨by rw [nK_c h]; exact r0, y, r1, by rw [TxA_c h]; exact TxA_app r2⟩
