/-! ===== numbers, rows, lists ===== -/
theorem t_add {a b : Int32} (h1 : -2147483648 ≤ a.toInt + b.toInt) (h2 : a.toInt + b.toInt < 2147483648) : (a + b).toInt = a.toInt + b.toInt := by
  rw [Int32.toInt_add]
  exact Int.bmod_eq_of_le (by omega) (by omega)
theorem t_sub {a b : Int32} (h1 : -2147483648 ≤ a.toInt - b.toInt) (h2 : a.toInt - b.toInt < 2147483648) : (a - b).toInt = a.toInt - b.toInt := by
  rw [Int32.toInt_sub]
  exact Int.bmod_eq_of_le (by omega) (by omega)
theorem t_mul {a b : Int32} (h1 : -2147483648 ≤ a.toInt * b.toInt) (h2 : a.toInt * b.toInt < 2147483648) : (a * b).toInt = a.toInt * b.toInt := by
  rw [Int32.toInt_mul]
  exact Int.bmod_eq_of_le (by omega) (by omega)
theorem t_neg {a : Int32} (h2 : -2147483648 < a.toInt) : (-a).toInt = -a.toInt := by
  rw [Int32.toInt_neg]
  have := a.toInt_lt
  exact Int.bmod_eq_of_le (by omega) (by omega)
theorem t_add1 {x : Int32} (h0 : 0 ≤ x.toInt) (h : x.toInt < 1000000) : (x + 1).toInt = x.toInt + 1 := t_add (b := 1) (by have e : (1 : Int32).toInt = 1 := rfl; omega) (by have e : (1 : Int32).toInt = 1 := rfl; omega)
theorem t_a1s {x : Int32} : x + 1 - 1 = x := Int32.add_sub_cancel x 1
theorem i_le {a b : Int32} : a ≤ b ↔ a.toInt ≤ b.toInt := Int32.le_iff_toInt_le
theorem i_lt {a b : Int32} : a < b ↔ a.toInt < b.toInt := Int32.lt_iff_toInt_lt
theorem i_eq {a b : Int32} : a = b ↔ a.toInt = b.toInt := Int32.toInt_inj.symm
theorem i_lo (a : Int32) : -2147483648 ≤ a.toInt := a.le_toInt
theorem i_hi (a : Int32) : a.toInt < 2147483648 := a.toInt_lt
theorem cl_e (x : Int32) : x.toNatClampNeg = x.toInt.toNat := rfl
theorem l_m1 : (-1 : Int32).toInt = -1 := rfl
theorem l_0 : (0 : Int32).toInt = 0 := rfl
theorem l_1 : (1 : Int32).toInt = 1 := rfl
theorem pin_iff {x : Int32} {n : Nat} : pin x n = true ↔ 0 ≤ x.toInt ∧ x.toInt < n := by
  unfold pin
  simp only [Bool.and_eq_true, Bool.not_eq_true', decide_eq_false_iff_not, decide_eq_true_eq, i_lt, l_0, cl_e]
  omega
theorem pin_of {x : Int32} {n : Nat} (h : 0 ≤ x.toInt) (h1 : x.toInt < n) : pin x n = true := pin_iff.mpr ⟨h, h1⟩
theorem pin_nI {k n : Nat} (h : k < n) (hn : n < 2 ^ 31) : pin (nI k) n = true := by
  rw [pin_iff, nI_toInt (by omega)]
  omega
theorem pin_cn {x y : Int32} {k n : Nat} (e : x + y = nI k) (h : k < n) (hn : n < 2 ^ 31) : pin (x + y) n = true := by rw [e]; exact pin_nI h hn
theorem nI_nat {x : Int32} (h : 0 ≤ x.toInt) : x = nI x.toNatClampNeg := by
  obtain ⟨j, hj, e⟩ := nI_of (x := x) (by rw [i_lt, l_0]; omega)
  subst e
  rw [nI_clamp hj]
theorem of_rng {x : Int32} {n : Nat} (h0 : 0 ≤ x.toInt) (h1 : x.toInt < n) : ∃ j : Nat, j < n ∧ x = nI j :=
  ⟨x.toNatClampNeg, by rw [cl_e]; omega, nI_nat h0⟩
theorem upd_ap {f : Nat → Int32} {k j : Nat} {x : Int32} : upd f k x j = if j = k then x else f j := by
  by_cases h : j = k
  · subst h; rw [pk_us, if_pos rfl]
  · rw [pk_un h, if_neg h]
theorem updL_ap {f : Nat → Int64} {k j : Nat} {x : Int64} : vp_updL f k x j = if j = k then x else f j := rfl
theorem va_ap {α : Type} {f : Nat → α} {k j : Nat} {v : α} : va_up f k v j = if j = k then v else f j := rfl
theorem br_same {c A : Prop} : ((c → A) ∧ (¬ c → A)) = A := propext ⟨fun h => (Classical.em c).elim h.1 h.2, fun a => ⟨fun _ => a, fun _ => a⟩⟩
theorem br_true {A B : Prop} : ((True → A) ∧ (¬ True → B)) = A := propext ⟨fun h => h.1 trivial, fun a => ⟨fun _ => a, fun z => absurd trivial z⟩⟩
theorem br_false {A B : Prop} : ((False → A) ∧ (¬ False → B)) = B := propext ⟨fun h => h.2 id, fun a => ⟨fun z => z.elim, fun _ => a⟩⟩
/-! tests that answer 0 or 1 -/
theorem t_181 {p a b : Int32} {s : ST} : (v_181 p a b s = 0) ↔ ¬ (a.toInt ≤ p.toInt ∧ p.toInt ≤ b.toInt) := by
  unfold v_181
  by_cases c : p < a
  · rw [if_pos c]; rw [i_lt] at c; simp only [true_iff]; omega
  · rw [if_neg c]
    by_cases d : b < p
    · rw [if_pos d]; rw [i_lt] at d; simp only [true_iff]; omega
    · rw [if_neg d]; rw [i_lt] at c d
      constructor
      · intro z; cases z
      · intro z; omega
theorem t_186 {p a b : Int32} {s : ST} : (v_186 p a b s = 0) ↔ ¬ (a.toInt ≤ p.toInt ∧ p.toInt ≤ b.toInt) := t_181 (s := s)
theorem t_182 {p : Int32} {s : ST} : (v_182 p s = 0) ↔ ¬ (0 ≤ p.toInt ∧ p.toInt ≤ 3999) := t_181 (s := s)
theorem t_187 {p : Int32} {s : ST} : (v_187 p s = 0) ↔ ¬ (0 ≤ p.toInt ∧ p.toInt ≤ 3999) := t_181 (s := s)
theorem t_183 {p : Int32} {s : ST} : (v_183 p s = 0) ↔ ¬ (0 ≤ p.toInt ∧ p.toInt ≤ 15) := t_181 (s := s)
theorem t_idx {p a : Int32} : ((if p < 0 then (0 : Int32) else (if a ≤ p then (0 : Int32) else (1 : Int32))) = 0) ↔ ¬ (0 ≤ p.toInt ∧ p.toInt < a.toInt) := by
  by_cases c : p < 0
  · rw [if_pos c]; rw [i_lt, l_0] at c; simp only [true_iff]; omega
  · rw [if_neg c]
    by_cases d : a ≤ p
    · rw [if_pos d]; rw [i_le] at d; simp only [true_iff]; omega
    · rw [if_neg d]; rw [i_lt, l_0] at c; rw [i_le] at d
      constructor
      · intro z; cases z
      · intro z; omega
theorem t_1 {p : Int32} {s : ST} : (v_1 p s = 0) ↔ ¬ (0 ≤ p.toInt ∧ p.toInt < (s.1 101).toInt) := t_idx
theorem t_2 {p : Int32} {s : ST} : (v_2 p s = 0) ↔ ¬ (0 ≤ p.toInt ∧ p.toInt < (s.1 102).toInt) := t_idx
theorem t_189 {p : Int32} {s : ST} : (v_189 p s = 0) ↔ ¬ (0 ≤ p.toInt ∧ p.toInt < (s.1 5501).toInt) := t_idx
theorem t_190 {p : Int32} {s : ST} : (v_190 p s = 0) ↔ ¬ (0 ≤ p.toInt ∧ p.toInt < (s.1 5502).toInt) := t_idx
theorem t_191 {p : Int32} {s : ST} : (v_191 p s = 0) ↔ ¬ (0 ≤ p.toInt ∧ p.toInt < 16) := t_idx
/-! lists of numbers in rows -/
def AL (g : Nat → Int32) (L : List Nat) : Prop := ∀ (k : Nat) (h : k < L.length), g k = nI L[k]
def lat (dy hr : Nat → Int32) (x i : Nat) : Bool := decide ((dy i).toInt < (dy x).toInt) || (decide ((dy i).toInt = (dy x).toInt) && decide ((hr i).toInt < (hr x).toInt))
def insF (dy hr : Nat → Int32) (i : Nat) (L : List Nat) : List Nat := L.filter (fun x => !lat dy hr x i) ++ i :: L.filter (fun x => lat dy hr x i)
def ordL (dy hr : Nat → Int32) : Nat → List Nat
  | 0 => []
  | n + 1 => insF dy hr n (ordL dy hr n)
/-! ===== the invariant ===== -/
def nH (s : ST) : Nat := (s.1 5501).toNatClampNeg
def nR (s : ST) : Nat := (s.1 5502).toNatClampNeg
def nM (s : ST) : Nat := (s.1 5503).toNatClampNeg
def nA (s : ST) : Nat := (s.1 5578).toNatClampNeg
def nG (s : ST) : Nat := (s.1 5579).toNatClampNeg
def Jnow (s : ST) : Prop := s.1 100 = s.1 5500 ∧ 0 ≤ (s.1 5500).toInt ∧ (s.1 5500).toInt ≤ 3999
def Jhou (s : ST) : Prop := s.1 101 = s.1 5501 ∧ 0 ≤ (s.1 5501).toInt ∧ (s.1 5501).toInt ≤ 10 ∧ ∀ k, k < nH s → s.2.1 2 k = s.2.1 56 k ∧ 0 ≤ (s.2.1 56 k).toInt ∧ (s.2.1 56 k).toInt ≤ 1000000
/-- a row's cells are within: now n, houses h; kind, house, other, day, hour, sum, hand, leave, paper, told, cleared -/
def Rok (n h k ho ot dy hr sm ha le pa to cl : Int) : Prop := 0 ≤ k ∧ k ≤ 3 ∧ 0 ≤ ho ∧ ho < h ∧ (k = 2 → 0 ≤ ot ∧ ot < h ∧ ot ≠ ho) ∧ (k = 3 → ot = -1) ∧ (k ≤ 1 → 0 ≤ ot ∧ ot < 20) ∧ 0 ≤ dy ∧ dy ≤ to ∧ to ≤ n ∧ 0 ≤ hr ∧ hr ≤ 23 ∧ 1 ≤ sm ∧ sm ≤ 1000000 ∧ 0 ≤ ha ∧ ha < 16 ∧ -1 ≤ le ∧ le < 16 ∧ le ≠ ha ∧ -1 ≤ pa ∧ pa ≤ 99 ∧ -1 ≤ cl ∧ cl ≤ n
def Req (f : Nat → Int32) (i : Nat) (x0 x1 x2 x3 x4 x5 x6 x7 x8 x9 x10 : Int32) : Prop := f (11 * i) = x0 ∧ f (11 * i + 1) = x1 ∧ f (11 * i + 2) = x2 ∧ f (11 * i + 3) = x3 ∧ f (11 * i + 4) = x4 ∧ f (11 * i + 5) = x5 ∧ f (11 * i + 6) = x6 ∧ f (11 * i + 7) = x7 ∧ f (11 * i + 8) = x8 ∧ f (11 * i + 9) = x9 ∧ f (11 * i + 10) = x10
def Jrow (s : ST) : Prop := s.1 102 = s.1 5502 ∧ 0 ≤ (s.1 5502).toInt ∧ (s.1 5502).toInt ≤ 150 ∧ ∀ i, i < nR s → Req (s.2.1 3) i (s.2.1 57 i) (s.2.1 58 i) (s.2.1 59 i) (s.2.1 60 i) (s.2.1 61 i) (s.2.1 62 i) (s.2.1 63 i) (s.2.1 64 i) (s.2.1 65 i) (s.2.1 66 i) (s.2.1 67 i) ∧ Rok (s.1 5500).toInt (s.1 5501).toInt (s.2.1 57 i).toInt (s.2.1 58 i).toInt (s.2.1 59 i).toInt (s.2.1 60 i).toInt (s.2.1 61 i).toInt (s.2.1 62 i).toInt (s.2.1 63 i).toInt (s.2.1 64 i).toInt (s.2.1 65 i).toInt (s.2.1 66 i).toInt (s.2.1 67 i).toInt
def Jord (s : ST) : Prop := AL (s.2.1 4) (ordL (s.2.1 60) (s.2.1 61) (nR s))
def Jmen (s : ST) : Prop := s.1 103 = s.1 5503 ∧ 0 ≤ (s.1 5503).toInt ∧ (s.1 5503).toInt ≤ 100 ∧ (∀ k, k < nM s → s.2.1 5 k = s.2.1 69 k ∧ s.2.1 6 k = s.2.1 70 k ∧ s.2.1 7 k = s.2.1 71 k ∧ 0 ≤ (s.2.1 69 k).toInt ∧ (s.2.1 69 k).toInt < (s.1 5502).toInt ∧ 0 ≤ (s.2.1 70 k).toInt ∧ (s.2.1 70 k).toInt ≤ 1000000 ∧ (s.2.1 66 (s.2.1 69 k).toNatClampNeg).toInt ≤ (s.2.1 71 k).toInt ∧ (s.2.1 71 k).toInt ≤ (s.1 5500).toInt) ∧ (∀ j k, j ≤ k → k < nM s → (s.2.1 71 j).toInt ≤ (s.2.1 71 k).toInt)
def Jtap (s : ST) : Prop := s.1 7 = s.1 5525 ∧ 0 ≤ (s.1 5525).toInt ∧ (s.1 5525).toInt ≤ 200 ∧ ∀ k, k < 200 → s.2.1 27 k = s.2.1 75 k &&& 255
def Jthi (s : ST) : Prop := ∀ k, k < 36 → s.2.1 28 k = s.2.1 108 k ∧ 0 ≤ (s.2.1 108 k).toInt ∧ (s.2.1 108 k).toInt ≤ 1073741823
def Jjud (s : ST) : Prop := ∀ i, i < 150 → s.2.1 29 i = s.2.1 68 i ∧ (s.2.1 68 i = 0 ∨ s.2.1 68 i = 1)
def Jask (s : ST) : Prop := s.1 13 = s.1 5578 ∧ 0 ≤ (s.1 5578).toInt ∧ (s.1 5578).toInt ≤ 60 ∧ ∀ k, k < nA s → s.2.1 30 k = s.2.1 112 k ∧ s.2.1 31 k = s.2.1 113 k ∧ s.2.1 32 k = s.2.1 114 k ∧ 0 ≤ (s.2.1 112 k).toInt ∧ (s.2.1 112 k).toInt < (s.1 5502).toInt ∧ -1 ≤ (s.2.1 114 k).toInt ∧ (s.2.1 114 k).toInt ≤ 1000000
def Jrea (s : ST) : Prop := s.1 2300 = s.1 5579 ∧ 0 ≤ (s.1 5579).toInt ∧ (s.1 5579).toInt ≤ 9 ∧ ∀ k, k < nG s → s.2.1 24 k = s.2.1 115 k ∧ s.2.1 25 k = s.2.1 116 k ∧ s.2.1 26 k = s.2.1 117 k ∧ 1 ≤ (s.2.1 115 k).toInt ∧ (s.2.1 115 k).toInt ≤ 1000 ∧ 0 ≤ (s.2.1 116 k).toInt ∧ (s.2.1 116 k).toInt ≤ 100000 ∧ -1 ≤ (s.2.1 117 k).toInt ∧ (s.2.1 117 k).toInt < k
def Jsca (s : ST) : Prop := s.1 1600 = -1 ∧ s.1 5552 = -2
def Jvie (s : ST) : Prop := (∀ i, nR s ≤ i → i < 150 → s.2.1 9 i = 0) ∧ (∀ k, k < 16 → s.2.1 14 k = 0) ∧ (∀ k, k < 40 → s.2.1 15 k = 0)
