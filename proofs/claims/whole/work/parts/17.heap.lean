/-! ===== the cells behind the two constructors: 0 to 54 the class, 55 to 117 the reference; then what rules and chains made =====
xi (100 * cell + field): the fields that are numbers; xa cell, xl cell: the rows; xr cell: the row of a list; dy: what came later -/
def hp (xi : Nat → Int32) (xa : Nat → Nat → Int32) (xl : Nat → Nat → Int64) (xr : Nat → Value) (dy : PH) : PH :=
  .inr (11, [.ref 1, .ref 8, .ref 16, .ref 19, .ref 22, .ref 23, .ref 27, .int (xi 7), .ref 28, .ref 29, .ref 30, .ref 31, .ref 32, .int (xi 13), .ref 33, .ref 34, .ref 35, .ref 37, .ref 46, .ref 50]) ::
  .inr (0, [.int (xi 100), .int (xi 101), .int (xi 102), .int (xi 103), .ref 2, .ref 3, .ref 4, .ref 5, .ref 6, .ref 7]) ::
  .inl (0, 10, .inl (xa 2)) ::
  .inl (0, 1650, .inl (xa 3)) ::
  .inl (0, 150, .inl (xa 4)) ::
  .inl (0, 100, .inl (xa 5)) ::
  .inl (0, 100, .inl (xa 6)) ::
  .inl (0, 100, .inl (xa 7)) ::
  .inr (10, [.int (xi 800), .int (xi 801), .ref 1, .ref 9, .ref 10, .ref 11, .ref 12, .ref 13, .ref 14, .ref 15]) ::
  .inl (0, 150, .inl (xa 9)) ::
  .inl (0, 150, .inl (xa 10)) ::
  .inl (0, 150, .inl (xa 11)) ::
  .inl (0, 150, .inl (xa 12)) ::
  .inl (0, 150, .inl (xa 13)) ::
  .inl (0, 16, .inl (xa 14)) ::
  .inl (0, 40, .inl (xa 15)) ::
  .inr (2, [.int (xi 1600), .ref 1, .ref 8, .ref 17, .ref 18]) ::
  .inl (1, 13, .inr (.inl (xl 17))) ::
  .inl (1, 160, .inr (.inl (xl 18))) ::
  .inr (5, [.ref 20, .ref 1, .ref 8, .ref 16, .ref 21]) ::
  .inr (13, [.int (xi 2000), xr 20, .int (xi 2002)]) ::
  .inl (0, 20, .inl (xa 21)) ::
  .inr (13, [.int (xi 2200), xr 22, .int (xi 2202)]) ::
  .inr (7, [.int (xi 2300), .ref 24, .ref 25, .ref 26]) ::
  .inl (0, 9, .inl (xa 24)) ::
  .inl (0, 9, .inl (xa 25)) ::
  .inl (0, 9, .inl (xa 26)) ::
  .inl (0, 200, .inl (xa 27)) ::
  .inl (0, 36, .inl (xa 28)) ::
  .inl (2, 150, .inl (xa 29)) ::
  .inl (0, 60, .inl (xa 30)) ::
  .inl (0, 60, .inl (xa 31)) ::
  .inl (0, 60, .inl (xa 32)) ::
  .inl (0, 50, .inl (xa 33)) ::
  .inl (0, 4, .inl (xa 34)) ::
  .inr (6, [.ref 27, .ref 36, .int (xi 3502), .int (xi 3503), .int (xi 3504), .int (xi 3505), .int (xi 3506)]) ::
  .inl (0, 160, .inl (xa 36)) ::
  .inr (4, [.ref 1, .ref 8, .ref 38, .ref 39, .ref 40, .ref 41, .ref 42, .ref 43, .ref 44, .ref 45, .int (xi 3710), .int (xi 3711)]) ::
  .inl (0, 10, .inl (xa 38)) ::
  .inl (0, 10, .inl (xa 39)) ::
  .inl (0, 163, .inl (xa 40)) ::
  .inl (0, 624, .inl (xa 41)) ::
  .inl (0, 624, .inl (xa 42)) ::
  .inl (0, 624, .inl (xa 43)) ::
  .inl (0, 163, .inl (xa 44)) ::
  .inl (0, 163, .inl (xa 45)) ::
  .inr (8, [.ref 1, .ref 8, .ref 47, .ref 48, .ref 49]) ::
  .inl (0, 2304, .inl (xa 47)) ::
  .inl (0, 576, .inl (xa 48)) ::
  .inl (0, 9, .inl (xa 49)) ::
  .inr (3, [.ref 1, .ref 8, .ref 16, .ref 51, .ref 52, .ref 53, .ref 54, .int (xi 5007), .int (xi 5008), .int (xi 5009)]) ::
  .inl (0, 150, .inl (xa 51)) ::
  .inl (0, 150, .inl (xa 52)) ::
  .inl (0, 755, .inl (xa 53)) ::
  .inl (0, 4, .inl (xa 54)) ::
  .inr (12, [.int (xi 5500), .int (xi 5501), .int (xi 5502), .int (xi 5503), .ref 56, .ref 57, .ref 58, .ref 59, .ref 60, .ref 61, .ref 62, .ref 63, .ref 64, .ref 65, .ref 66, .ref 67, .ref 68, .ref 69, .ref 70, .ref 71, .int (xi 5520), .ref 72, .ref 73, .ref 74, .ref 75, .int (xi 5525), .int (xi 5526), .int (xi 5527), .int (xi 5528), .int (xi 5529), .int (xi 5530), .int (xi 5531), .int (xi 5532), .int (xi 5533), .ref 76, .ref 77, .ref 78, .ref 79, .ref 80, .ref 81, .ref 82, .int (xi 5541), .int (xi 5542), .ref 83, .ref 84, .ref 85, .ref 86, .ref 87, .ref 88, .ref 89, .ref 90, .ref 91, .int (xi 5552), .ref 92, .ref 93, .ref 94, .ref 95, .int (xi 5557), .int (xi 5558), .ref 96, .ref 97, .ref 98, .ref 99, .ref 100, .ref 101, .ref 102, .ref 103, .ref 104, .ref 105, .ref 106, .ref 107, .int (xi 5571), .int (xi 5572), .int (xi 5573), .int (xi 5574), .ref 108, .ref 109, .ref 110, .int (xi 5578), .int (xi 5579), .ref 111, .ref 112, .ref 113, .ref 114, .ref 115, .ref 116, .ref 117]) ::
  .inl (0, 10, .inl (xa 56)) ::
  .inl (0, 150, .inl (xa 57)) ::
  .inl (0, 150, .inl (xa 58)) ::
  .inl (0, 150, .inl (xa 59)) ::
  .inl (0, 150, .inl (xa 60)) ::
  .inl (0, 150, .inl (xa 61)) ::
  .inl (0, 150, .inl (xa 62)) ::
  .inl (0, 150, .inl (xa 63)) ::
  .inl (0, 150, .inl (xa 64)) ::
  .inl (0, 150, .inl (xa 65)) ::
  .inl (0, 150, .inl (xa 66)) ::
  .inl (0, 150, .inl (xa 67)) ::
  .inl (2, 150, .inl (xa 68)) ::
  .inl (0, 100, .inl (xa 69)) ::
  .inl (0, 100, .inl (xa 70)) ::
  .inl (0, 100, .inl (xa 71)) ::
  .inl (0, 150, .inl (xa 72)) ::
  .inl (0, 150, .inl (xa 73)) ::
  .inl (0, 150, .inl (xa 74)) ::
  .inl (3, 200, .inl (xa 75)) ::
  .inl (0, 180, .inl (xa 76)) ::
  .inl (0, 180, .inl (xa 77)) ::
  .inl (0, 10, .inl (xa 78)) ::
  .inl (0, 10, .inl (xa 79)) ::
  .inl (0, 10, .inl (xa 80)) ::
  .inl (0, 10, .inl (xa 81)) ::
  .inl (0, 10, .inl (xa 82)) ::
  .inl (0, 4680, .inl (xa 83)) ::
  .inl (0, 20, .inl (xa 84)) ::
  .inl (0, 20, .inl (xa 85)) ::
  .inl (0, 26, .inl (xa 86)) ::
  .inl (0, 260, .inl (xa 87)) ::
  .inl (0, 260, .inl (xa 88)) ::
  .inl (0, 260, .inl (xa 89)) ::
  .inl (0, 260, .inl (xa 90)) ::
  .inl (0, 260, .inl (xa 91)) ::
  .inl (1, 180, .inr (.inl (xl 92))) ::
  .inl (1, 13, .inr (.inl (xl 93))) ::
  .inl (2, 200, .inl (xa 94)) ::
  .inl (0, 12, .inl (xa 95)) ::
  .inl (0, 700, .inl (xa 96)) ::
  .inl (0, 700, .inl (xa 97)) ::
  .inl (0, 700, .inl (xa 98)) ::
  .inl (0, 700, .inl (xa 99)) ::
  .inl (0, 400, .inl (xa 100)) ::
  .inl (0, 10, .inl (xa 101)) ::
  .inl (0, 10, .inl (xa 102)) ::
  .inl (0, 6, .inl (xa 103)) ::
  .inl (0, 6, .inl (xa 104)) ::
  .inl (2, 600, .inl (xa 105)) ::
  .inl (0, 4, .inl (xa 106)) ::
  .inl (1, 2601, .inr (.inl (xl 107))) ::
  .inl (0, 36, .inl (xa 108)) ::
  .inl (2, 36, .inl (xa 109)) ::
  .inl (2, 150, .inl (xa 110)) ::
  .inl (0, 60, .inl (xa 111)) ::
  .inl (0, 60, .inl (xa 112)) ::
  .inl (0, 60, .inl (xa 113)) ::
  .inl (0, 60, .inl (xa 114)) ::
  .inl (0, 9, .inl (xa 115)) ::
  .inl (0, 9, .inl (xa 116)) ::
  .inl (0, 9, .inl (xa 117)) :: dy
def xi0 : Nat → Int32 := fun k => if k = 1600 then (-1) else if k = 5552 then (-2) else 0
abbrev ST : Type := (Nat → Int32) × (Nat → Nat → Int32) × (Nat → Nat → Int64) × (Nat → Value) × PH
def hpS (s : ST) : PH := hp s.1 s.2.1 s.2.2.1 s.2.2.2.1 s.2.2.2.2
def sI (s : ST) (k : Nat) (v : Int32) : ST := (va_up s.1 k v, s.2)
def sA (s : ST) (a : Nat) (f : Nat → Int32) : ST := (s.1, va_up s.2.1 a f, s.2.2)
def sL (s : ST) (a : Nat) (f : Nat → Int64) : ST := (s.1, s.2.1, va_up s.2.2.1 a f, s.2.2.2)
def kI (K : Int32 → ST → Prop) : Option Value → PH → Prop := fun v h => ∃ (r : Int32) (s : ST), v = some (.int r) ∧ h = hpS s ∧ K r s
def kZ (K : Int32 → ST → Prop) : Option Value → PH → Prop := fun v h => ∃ (r : Int32) (s : ST), v = some (.int r) ∧ (r = 0 ∨ r = 1) ∧ h = hpS s ∧ K r s
def kJ (K : Int64 → ST → Prop) : Option Value → PH → Prop := fun v h => ∃ (r : Int64) (s : ST), v = some (.long r) ∧ h = hpS s ∧ K r s
def kV (K : ST → Prop) : Option Value → PH → Prop := fun v h => ∃ (s : ST), v = none ∧ h = hpS s ∧ K s
theorem hset_2 (s : ST) (f : Nat → Int32) : (hpS s).set 2 (.inl (0, 10, .inl f)) = hpS (sA s 2 f) := rfl
theorem hset_3 (s : ST) (f : Nat → Int32) : (hpS s).set 3 (.inl (0, 1650, .inl f)) = hpS (sA s 3 f) := rfl
theorem hset_4 (s : ST) (f : Nat → Int32) : (hpS s).set 4 (.inl (0, 150, .inl f)) = hpS (sA s 4 f) := rfl
theorem hset_5 (s : ST) (f : Nat → Int32) : (hpS s).set 5 (.inl (0, 100, .inl f)) = hpS (sA s 5 f) := rfl
theorem hset_6 (s : ST) (f : Nat → Int32) : (hpS s).set 6 (.inl (0, 100, .inl f)) = hpS (sA s 6 f) := rfl
theorem hset_7 (s : ST) (f : Nat → Int32) : (hpS s).set 7 (.inl (0, 100, .inl f)) = hpS (sA s 7 f) := rfl
theorem hset_9 (s : ST) (f : Nat → Int32) : (hpS s).set 9 (.inl (0, 150, .inl f)) = hpS (sA s 9 f) := rfl
theorem hset_10 (s : ST) (f : Nat → Int32) : (hpS s).set 10 (.inl (0, 150, .inl f)) = hpS (sA s 10 f) := rfl
theorem hset_11 (s : ST) (f : Nat → Int32) : (hpS s).set 11 (.inl (0, 150, .inl f)) = hpS (sA s 11 f) := rfl
theorem hset_12 (s : ST) (f : Nat → Int32) : (hpS s).set 12 (.inl (0, 150, .inl f)) = hpS (sA s 12 f) := rfl
theorem hset_13 (s : ST) (f : Nat → Int32) : (hpS s).set 13 (.inl (0, 150, .inl f)) = hpS (sA s 13 f) := rfl
theorem hset_14 (s : ST) (f : Nat → Int32) : (hpS s).set 14 (.inl (0, 16, .inl f)) = hpS (sA s 14 f) := rfl
theorem hset_15 (s : ST) (f : Nat → Int32) : (hpS s).set 15 (.inl (0, 40, .inl f)) = hpS (sA s 15 f) := rfl
theorem hset_17 (s : ST) (f : Nat → Int64) : (hpS s).set 17 (.inl (1, 13, .inr (.inl f))) = hpS (sL s 17 f) := rfl
theorem hset_18 (s : ST) (f : Nat → Int64) : (hpS s).set 18 (.inl (1, 160, .inr (.inl f))) = hpS (sL s 18 f) := rfl
theorem hset_21 (s : ST) (f : Nat → Int32) : (hpS s).set 21 (.inl (0, 20, .inl f)) = hpS (sA s 21 f) := rfl
theorem hset_24 (s : ST) (f : Nat → Int32) : (hpS s).set 24 (.inl (0, 9, .inl f)) = hpS (sA s 24 f) := rfl
theorem hset_25 (s : ST) (f : Nat → Int32) : (hpS s).set 25 (.inl (0, 9, .inl f)) = hpS (sA s 25 f) := rfl
theorem hset_26 (s : ST) (f : Nat → Int32) : (hpS s).set 26 (.inl (0, 9, .inl f)) = hpS (sA s 26 f) := rfl
theorem hset_27 (s : ST) (f : Nat → Int32) : (hpS s).set 27 (.inl (0, 200, .inl f)) = hpS (sA s 27 f) := rfl
theorem hset_28 (s : ST) (f : Nat → Int32) : (hpS s).set 28 (.inl (0, 36, .inl f)) = hpS (sA s 28 f) := rfl
theorem hset_29 (s : ST) (f : Nat → Int32) : (hpS s).set 29 (.inl (2, 150, .inl f)) = hpS (sA s 29 f) := rfl
theorem hset_30 (s : ST) (f : Nat → Int32) : (hpS s).set 30 (.inl (0, 60, .inl f)) = hpS (sA s 30 f) := rfl
theorem hset_31 (s : ST) (f : Nat → Int32) : (hpS s).set 31 (.inl (0, 60, .inl f)) = hpS (sA s 31 f) := rfl
theorem hset_32 (s : ST) (f : Nat → Int32) : (hpS s).set 32 (.inl (0, 60, .inl f)) = hpS (sA s 32 f) := rfl
theorem hset_33 (s : ST) (f : Nat → Int32) : (hpS s).set 33 (.inl (0, 50, .inl f)) = hpS (sA s 33 f) := rfl
theorem hset_34 (s : ST) (f : Nat → Int32) : (hpS s).set 34 (.inl (0, 4, .inl f)) = hpS (sA s 34 f) := rfl
theorem hset_36 (s : ST) (f : Nat → Int32) : (hpS s).set 36 (.inl (0, 160, .inl f)) = hpS (sA s 36 f) := rfl
theorem hset_38 (s : ST) (f : Nat → Int32) : (hpS s).set 38 (.inl (0, 10, .inl f)) = hpS (sA s 38 f) := rfl
theorem hset_39 (s : ST) (f : Nat → Int32) : (hpS s).set 39 (.inl (0, 10, .inl f)) = hpS (sA s 39 f) := rfl
theorem hset_40 (s : ST) (f : Nat → Int32) : (hpS s).set 40 (.inl (0, 163, .inl f)) = hpS (sA s 40 f) := rfl
theorem hset_41 (s : ST) (f : Nat → Int32) : (hpS s).set 41 (.inl (0, 624, .inl f)) = hpS (sA s 41 f) := rfl
theorem hset_42 (s : ST) (f : Nat → Int32) : (hpS s).set 42 (.inl (0, 624, .inl f)) = hpS (sA s 42 f) := rfl
theorem hset_43 (s : ST) (f : Nat → Int32) : (hpS s).set 43 (.inl (0, 624, .inl f)) = hpS (sA s 43 f) := rfl
theorem hset_44 (s : ST) (f : Nat → Int32) : (hpS s).set 44 (.inl (0, 163, .inl f)) = hpS (sA s 44 f) := rfl
theorem hset_45 (s : ST) (f : Nat → Int32) : (hpS s).set 45 (.inl (0, 163, .inl f)) = hpS (sA s 45 f) := rfl
theorem hset_47 (s : ST) (f : Nat → Int32) : (hpS s).set 47 (.inl (0, 2304, .inl f)) = hpS (sA s 47 f) := rfl
theorem hset_48 (s : ST) (f : Nat → Int32) : (hpS s).set 48 (.inl (0, 576, .inl f)) = hpS (sA s 48 f) := rfl
theorem hset_49 (s : ST) (f : Nat → Int32) : (hpS s).set 49 (.inl (0, 9, .inl f)) = hpS (sA s 49 f) := rfl
theorem hset_51 (s : ST) (f : Nat → Int32) : (hpS s).set 51 (.inl (0, 150, .inl f)) = hpS (sA s 51 f) := rfl
theorem hset_52 (s : ST) (f : Nat → Int32) : (hpS s).set 52 (.inl (0, 150, .inl f)) = hpS (sA s 52 f) := rfl
theorem hset_53 (s : ST) (f : Nat → Int32) : (hpS s).set 53 (.inl (0, 755, .inl f)) = hpS (sA s 53 f) := rfl
theorem hset_54 (s : ST) (f : Nat → Int32) : (hpS s).set 54 (.inl (0, 4, .inl f)) = hpS (sA s 54 f) := rfl
theorem hset_56 (s : ST) (f : Nat → Int32) : (hpS s).set 56 (.inl (0, 10, .inl f)) = hpS (sA s 56 f) := rfl
theorem hset_57 (s : ST) (f : Nat → Int32) : (hpS s).set 57 (.inl (0, 150, .inl f)) = hpS (sA s 57 f) := rfl
theorem hset_58 (s : ST) (f : Nat → Int32) : (hpS s).set 58 (.inl (0, 150, .inl f)) = hpS (sA s 58 f) := rfl
theorem hset_59 (s : ST) (f : Nat → Int32) : (hpS s).set 59 (.inl (0, 150, .inl f)) = hpS (sA s 59 f) := rfl
theorem hset_60 (s : ST) (f : Nat → Int32) : (hpS s).set 60 (.inl (0, 150, .inl f)) = hpS (sA s 60 f) := rfl
theorem hset_61 (s : ST) (f : Nat → Int32) : (hpS s).set 61 (.inl (0, 150, .inl f)) = hpS (sA s 61 f) := rfl
theorem hset_62 (s : ST) (f : Nat → Int32) : (hpS s).set 62 (.inl (0, 150, .inl f)) = hpS (sA s 62 f) := rfl
theorem hset_63 (s : ST) (f : Nat → Int32) : (hpS s).set 63 (.inl (0, 150, .inl f)) = hpS (sA s 63 f) := rfl
theorem hset_64 (s : ST) (f : Nat → Int32) : (hpS s).set 64 (.inl (0, 150, .inl f)) = hpS (sA s 64 f) := rfl
theorem hset_65 (s : ST) (f : Nat → Int32) : (hpS s).set 65 (.inl (0, 150, .inl f)) = hpS (sA s 65 f) := rfl
theorem hset_66 (s : ST) (f : Nat → Int32) : (hpS s).set 66 (.inl (0, 150, .inl f)) = hpS (sA s 66 f) := rfl
theorem hset_67 (s : ST) (f : Nat → Int32) : (hpS s).set 67 (.inl (0, 150, .inl f)) = hpS (sA s 67 f) := rfl
theorem hset_68 (s : ST) (f : Nat → Int32) : (hpS s).set 68 (.inl (2, 150, .inl f)) = hpS (sA s 68 f) := rfl
theorem hset_69 (s : ST) (f : Nat → Int32) : (hpS s).set 69 (.inl (0, 100, .inl f)) = hpS (sA s 69 f) := rfl
theorem hset_70 (s : ST) (f : Nat → Int32) : (hpS s).set 70 (.inl (0, 100, .inl f)) = hpS (sA s 70 f) := rfl
theorem hset_71 (s : ST) (f : Nat → Int32) : (hpS s).set 71 (.inl (0, 100, .inl f)) = hpS (sA s 71 f) := rfl
theorem hset_72 (s : ST) (f : Nat → Int32) : (hpS s).set 72 (.inl (0, 150, .inl f)) = hpS (sA s 72 f) := rfl
theorem hset_73 (s : ST) (f : Nat → Int32) : (hpS s).set 73 (.inl (0, 150, .inl f)) = hpS (sA s 73 f) := rfl
theorem hset_74 (s : ST) (f : Nat → Int32) : (hpS s).set 74 (.inl (0, 150, .inl f)) = hpS (sA s 74 f) := rfl
theorem hset_75 (s : ST) (f : Nat → Int32) : (hpS s).set 75 (.inl (3, 200, .inl f)) = hpS (sA s 75 f) := rfl
theorem hset_76 (s : ST) (f : Nat → Int32) : (hpS s).set 76 (.inl (0, 180, .inl f)) = hpS (sA s 76 f) := rfl
theorem hset_77 (s : ST) (f : Nat → Int32) : (hpS s).set 77 (.inl (0, 180, .inl f)) = hpS (sA s 77 f) := rfl
theorem hset_78 (s : ST) (f : Nat → Int32) : (hpS s).set 78 (.inl (0, 10, .inl f)) = hpS (sA s 78 f) := rfl
theorem hset_79 (s : ST) (f : Nat → Int32) : (hpS s).set 79 (.inl (0, 10, .inl f)) = hpS (sA s 79 f) := rfl
theorem hset_80 (s : ST) (f : Nat → Int32) : (hpS s).set 80 (.inl (0, 10, .inl f)) = hpS (sA s 80 f) := rfl
theorem hset_81 (s : ST) (f : Nat → Int32) : (hpS s).set 81 (.inl (0, 10, .inl f)) = hpS (sA s 81 f) := rfl
theorem hset_82 (s : ST) (f : Nat → Int32) : (hpS s).set 82 (.inl (0, 10, .inl f)) = hpS (sA s 82 f) := rfl
theorem hset_83 (s : ST) (f : Nat → Int32) : (hpS s).set 83 (.inl (0, 4680, .inl f)) = hpS (sA s 83 f) := rfl
theorem hset_84 (s : ST) (f : Nat → Int32) : (hpS s).set 84 (.inl (0, 20, .inl f)) = hpS (sA s 84 f) := rfl
theorem hset_85 (s : ST) (f : Nat → Int32) : (hpS s).set 85 (.inl (0, 20, .inl f)) = hpS (sA s 85 f) := rfl
theorem hset_86 (s : ST) (f : Nat → Int32) : (hpS s).set 86 (.inl (0, 26, .inl f)) = hpS (sA s 86 f) := rfl
theorem hset_87 (s : ST) (f : Nat → Int32) : (hpS s).set 87 (.inl (0, 260, .inl f)) = hpS (sA s 87 f) := rfl
theorem hset_88 (s : ST) (f : Nat → Int32) : (hpS s).set 88 (.inl (0, 260, .inl f)) = hpS (sA s 88 f) := rfl
theorem hset_89 (s : ST) (f : Nat → Int32) : (hpS s).set 89 (.inl (0, 260, .inl f)) = hpS (sA s 89 f) := rfl
theorem hset_90 (s : ST) (f : Nat → Int32) : (hpS s).set 90 (.inl (0, 260, .inl f)) = hpS (sA s 90 f) := rfl
theorem hset_91 (s : ST) (f : Nat → Int32) : (hpS s).set 91 (.inl (0, 260, .inl f)) = hpS (sA s 91 f) := rfl
theorem hset_92 (s : ST) (f : Nat → Int64) : (hpS s).set 92 (.inl (1, 180, .inr (.inl f))) = hpS (sL s 92 f) := rfl
theorem hset_93 (s : ST) (f : Nat → Int64) : (hpS s).set 93 (.inl (1, 13, .inr (.inl f))) = hpS (sL s 93 f) := rfl
theorem hset_94 (s : ST) (f : Nat → Int32) : (hpS s).set 94 (.inl (2, 200, .inl f)) = hpS (sA s 94 f) := rfl
theorem hset_95 (s : ST) (f : Nat → Int32) : (hpS s).set 95 (.inl (0, 12, .inl f)) = hpS (sA s 95 f) := rfl
theorem hset_96 (s : ST) (f : Nat → Int32) : (hpS s).set 96 (.inl (0, 700, .inl f)) = hpS (sA s 96 f) := rfl
theorem hset_97 (s : ST) (f : Nat → Int32) : (hpS s).set 97 (.inl (0, 700, .inl f)) = hpS (sA s 97 f) := rfl
theorem hset_98 (s : ST) (f : Nat → Int32) : (hpS s).set 98 (.inl (0, 700, .inl f)) = hpS (sA s 98 f) := rfl
theorem hset_99 (s : ST) (f : Nat → Int32) : (hpS s).set 99 (.inl (0, 700, .inl f)) = hpS (sA s 99 f) := rfl
theorem hset_100 (s : ST) (f : Nat → Int32) : (hpS s).set 100 (.inl (0, 400, .inl f)) = hpS (sA s 100 f) := rfl
theorem hset_101 (s : ST) (f : Nat → Int32) : (hpS s).set 101 (.inl (0, 10, .inl f)) = hpS (sA s 101 f) := rfl
theorem hset_102 (s : ST) (f : Nat → Int32) : (hpS s).set 102 (.inl (0, 10, .inl f)) = hpS (sA s 102 f) := rfl
theorem hset_103 (s : ST) (f : Nat → Int32) : (hpS s).set 103 (.inl (0, 6, .inl f)) = hpS (sA s 103 f) := rfl
theorem hset_104 (s : ST) (f : Nat → Int32) : (hpS s).set 104 (.inl (0, 6, .inl f)) = hpS (sA s 104 f) := rfl
theorem hset_105 (s : ST) (f : Nat → Int32) : (hpS s).set 105 (.inl (2, 600, .inl f)) = hpS (sA s 105 f) := rfl
theorem hset_106 (s : ST) (f : Nat → Int32) : (hpS s).set 106 (.inl (0, 4, .inl f)) = hpS (sA s 106 f) := rfl
theorem hset_107 (s : ST) (f : Nat → Int64) : (hpS s).set 107 (.inl (1, 2601, .inr (.inl f))) = hpS (sL s 107 f) := rfl
theorem hset_108 (s : ST) (f : Nat → Int32) : (hpS s).set 108 (.inl (0, 36, .inl f)) = hpS (sA s 108 f) := rfl
theorem hset_109 (s : ST) (f : Nat → Int32) : (hpS s).set 109 (.inl (2, 36, .inl f)) = hpS (sA s 109 f) := rfl
theorem hset_110 (s : ST) (f : Nat → Int32) : (hpS s).set 110 (.inl (2, 150, .inl f)) = hpS (sA s 110 f) := rfl
theorem hset_111 (s : ST) (f : Nat → Int32) : (hpS s).set 111 (.inl (0, 60, .inl f)) = hpS (sA s 111 f) := rfl
theorem hset_112 (s : ST) (f : Nat → Int32) : (hpS s).set 112 (.inl (0, 60, .inl f)) = hpS (sA s 112 f) := rfl
theorem hset_113 (s : ST) (f : Nat → Int32) : (hpS s).set 113 (.inl (0, 60, .inl f)) = hpS (sA s 113 f) := rfl
theorem hset_114 (s : ST) (f : Nat → Int32) : (hpS s).set 114 (.inl (0, 60, .inl f)) = hpS (sA s 114 f) := rfl
theorem hset_115 (s : ST) (f : Nat → Int32) : (hpS s).set 115 (.inl (0, 9, .inl f)) = hpS (sA s 115 f) := rfl
theorem hset_116 (s : ST) (f : Nat → Int32) : (hpS s).set 116 (.inl (0, 9, .inl f)) = hpS (sA s 116 f) := rfl
theorem hset_117 (s : ST) (f : Nat → Int32) : (hpS s).set 117 (.inl (0, 9, .inl f)) = hpS (sA s 117 f) := rfl
