/-! ===== frames: what each method leaves as it was, and that its precondition grows with what follows; printed by wip/whole/genfm.py ===== -/
abbrev FS : Type := List Nat × List Nat × List Nat × Bool × Bool
/-- s1 is s but for the numbers F.1, the rows F.2.1, the long rows F.2.2.1, the rows of lists (where F says so) and dy (where F says so) -/
def Fr (F : FS) (s s1 : ST) : Prop := (∀ k, F.1.contains k = false → s1.1 k = s.1 k) ∧ (∀ a, F.2.1.contains a = false → s1.2.1 a = s.2.1 a) ∧ (∀ a, F.2.2.1.contains a = false → s1.2.2.1 a = s.2.2.1 a) ∧ (F.2.2.2.1 = false → s1.2.2.2.1 = s.2.2.2.1) ∧ (F.2.2.2.2 = false → s1.2.2.2.2 = s.2.2.2.2)
theorem fr_rfl (F : FS) (s : ST) : Fr F s s := ⟨fun _ _ => rfl, fun _ _ => rfl, fun _ _ => rfl, fun _ => rfl, fun _ => rfl⟩
theorem va_upn {α : Type} {f : Nat → α} {k j : Nat} {v : α} (h : j ≠ k) : va_up f k v j = f j := by unfold va_up; rw [if_neg h]
theorem va_ups {α : Type} {f : Nat → α} {k : Nat} {v : α} : va_up f k v k = v := by unfold va_up; rw [if_pos rfl]
theorem ct_ne {l : List Nat} {k j : Nat} (h : l.contains k = true) (h2 : l.contains j = false) : j ≠ k := by rintro rfl; rw [h] at h2; cases h2
theorem fr_sI {F : FS} {s0 s : ST} {v : Int32} (k : Nat) (f : Fr F s0 s) (h : F.1.contains k = true := by rfl) : Fr F s0 (sI s k v) := ⟨fun j hj => (va_upn (ct_ne h hj)).trans (f.1 j hj), f.2⟩
theorem fr_sA {F : FS} {s0 s : ST} {v : Nat → Int32} (k : Nat) (f : Fr F s0 s) (h : F.2.1.contains k = true := by rfl) : Fr F s0 (sA s k v) := ⟨f.1, fun j hj => (va_upn (ct_ne h hj)).trans (f.2.1 j hj), f.2.2⟩
theorem fr_sL {F : FS} {s0 s : ST} {v : Nat → Int64} (k : Nat) (f : Fr F s0 s) (h : F.2.2.1.contains k = true := by rfl) : Fr F s0 (sL s k v) := ⟨f.1, f.2.1, fun j hj => (va_upn (ct_ne h hj)).trans (f.2.2.1 j hj), f.2.2.2⟩
theorem fr_sR {F : FS} {s0 s : ST} {v : Value} (k : Nat) (f : Fr F s0 s) (h : F.2.2.2.1 = true := by rfl) : Fr F s0 (sR s k v) := ⟨f.1, f.2.1, f.2.2.1, fun z => (by rw [h] at z; cases z), f.2.2.2.2⟩
theorem fr_sD {F : FS} {s0 s : ST} {v : PH} (f : Fr F s0 s) (h : F.2.2.2.2 = true := by rfl) : Fr F s0 (sD s v) := ⟨f.1, f.2.1, f.2.2.1, f.2.2.2.1, fun z => (by rw [h] at z; cases z)⟩
def fsub (F G : FS) : Bool := F.1.all (fun k => G.1.contains k) && F.2.1.all (fun k => G.2.1.contains k) && F.2.2.1.all (fun k => G.2.2.1.contains k) && (!F.2.2.2.1 || G.2.2.2.1) && (!F.2.2.2.2 || G.2.2.2.2)
theorem ct_sub {l m : List Nat} (h : l.all (fun k => m.contains k) = true) {k : Nat} (hk : m.contains k = false) : l.contains k = false := by
  cases e : l.contains k with
  | false => rfl
  | true =>
    have h1 := List.all_eq_true.mp h k (List.contains_iff_mem.mp e)
    rw [hk] at h1; cases h1
theorem fr_weak {F G : FS} {s s1 : ST} (h : fsub F G = true) (f : Fr F s s1) : Fr G s s1 := by
  unfold fsub at h
  simp only [Bool.and_eq_true, Bool.or_eq_true, Bool.not_eq_true'] at h
  obtain ⟨⟨⟨⟨h1, h2⟩, h3⟩, h4⟩, h5⟩ := h
  refine ⟨fun k hk => f.1 k (ct_sub h1 hk), fun k hk => f.2.1 k (ct_sub h2 hk), fun k hk => f.2.2.1 k (ct_sub h3 hk), fun z => f.2.2.2.1 ?_, fun z => f.2.2.2.2 ?_⟩
  · cases h4 with
    | inl e => exact e
    | inr e => rw [z] at e; cases e
  · cases h5 with
    | inl e => exact e
    | inr e => rw [z] at e; cases e
theorem fr_tr {F G : FS} {s0 s s1 : ST} (h : fsub F G = true) (f : Fr G s0 s) (g : Fr F s s1) : Fr G s0 s1 := by
  have g := fr_weak h g
  exact ⟨fun k hk => (g.1 k hk).trans (f.1 k hk), fun k hk => (g.2.1 k hk).trans (f.2.1 k hk), fun k hk => (g.2.2.1 k hk).trans (f.2.2.1 k hk), fun z => (g.2.2.2.1 z).trans (f.2.2.2.1 z), fun z => (g.2.2.2.2 z).trans (f.2.2.2.2 z)⟩
def fs0 : FS := ([], [], [], false, false)
def fs1 : FS := ([101], [2], [], false, false)
def fs2 : FS := ([], [4], [], false, false)
def fs3 : FS := ([102], [3, 4], [], false, false)
def fs4 : FS := ([], [3], [], false, false)
def fs5 : FS := ([103], [5, 6, 7], [], false, false)
def fs6 : FS := ([], [], [17], false, false)
def fs7 : FS := ([], [], [18], false, false)
def fs8 : FS := ([], [51], [], false, false)
def fs9 : FS := ([5007, 5008], [51, 54], [17, 18], false, false)
def fs10 : FS := ([], [53], [], false, false)
def fs11 : FS := ([5009], [52, 53], [], false, false)
def fs12 : FS := ([3710], [40], [], false, false)
def fs13 : FS := ([3711], [40, 41, 42, 43], [], false, false)
def fs14 : FS := ([3710, 3711], [38, 39, 40, 41, 42, 43], [], false, false)
def fs15 : FS := ([], [44], [], false, false)
def fs16 : FS := ([], [44, 45], [], false, false)
def fs17 : FS := ([], [43], [], false, false)
def fs18 : FS := ([], [43, 44, 45], [], false, false)
def fs19 : FS := ([3710, 3711], [38, 39, 40, 41, 42, 43, 44, 45], [], false, false)
def fs20 : FS := ([], [], [], false, true)
def fs21 : FS := ([], [21], [], false, false)
def fs22 : FS := ([], [21], [17, 18], false, false)
def fs23 : FS := ([3502, 3504, 3505, 3506], [], [], false, false)
def fs24 : FS := ([3505, 3506], [], [], false, false)
def fs25 : FS := ([3504, 3505, 3506], [], [], false, false)
def fs26 : FS := ([3504], [], [], false, false)
def fs27 : FS := ([3503], [36], [], false, false)
def fs28 : FS := ([], [36], [], false, false)
def fs29 : FS := ([3503, 3504, 3505, 3506], [36], [], false, false)
def fs30 : FS := ([3503, 3504, 3505, 3506], [36], [], false, true)
def fs31 : FS := ([3504, 3505, 3506], [], [], false, true)
def fs32 : FS := ([3502, 3503, 3504, 3505, 3506], [36], [], false, true)
def fs33 : FS := ([2300], [24, 25, 26], [], false, false)
def fs34 : FS := ([], [47, 49], [], false, false)
def fs35 : FS := ([], [47, 48, 49], [], false, false)
def fs36 : FS := ([], [9], [], false, false)
def fs37 : FS := ([801], [10, 11], [], false, false)
def fs38 : FS := ([], [14, 15], [], false, false)
def fs39 : FS := ([], [12, 13, 14, 15], [], false, false)
def fs40 : FS := ([800, 801], [9, 10, 11, 12, 13, 14, 15], [], false, false)
def fs41 : FS := ([100], [], [], false, false)
def fs42 : FS := ([102], [3, 4], [], false, true)
def fs43 : FS := ([103, 800, 801], [5, 6, 7, 9, 10, 11, 12, 13, 14, 15], [], false, false)
def fs44 : FS := ([7], [27], [], false, false)
def fs45 : FS := ([], [], [], true, true)
def fs46 : FS := ([2002], [], [], true, true)
def fs47 : FS := ([2000, 2002], [], [], true, true)
def fs48 : FS := ([7, 2000, 2002, 3502, 3503, 3504, 3505, 3506], [36], [], true, true)
def fs49 : FS := ([800, 801], [9, 10, 11, 12, 13, 14, 15, 21], [17, 18], false, false)
def fs50 : FS := ([7, 800, 801], [9, 10, 11, 12, 13, 14, 15], [], false, false)
def fs51 : FS := ([800, 801, 3710, 3711], [9, 10, 11, 12, 13, 14, 15, 38, 39, 40, 41, 42, 43, 44, 45], [], false, false)
def fs52 : FS := ([800, 801], [9, 10, 11, 12, 13, 14, 15, 47, 48, 49], [], false, false)
def fs53 : FS := ([], [], [], true, true)
def fs54 : FS := ([2202], [], [], true, true)
def fs55 : FS := ([2200, 2202], [], [], true, true)
def fs56 : FS := ([7, 2200, 2202, 3502, 3503, 3504, 3505, 3506], [36], [], true, true)
def fs57 : FS := ([800, 801, 5007, 5008], [9, 10, 11, 12, 13, 14, 15, 51, 54], [17, 18], false, false)
def fs58 : FS := ([800, 801, 5007, 5008, 5009], [9, 10, 11, 12, 13, 14, 15, 51, 52, 53, 54], [17, 18], false, false)
def fs59 : FS := ([], [34], [], false, false)
def fs60 : FS := ([800, 801], [9, 10, 11, 12, 13, 14, 15, 34], [17, 18], false, false)
def fs61 : FS := ([], [28], [], false, false)
def fs62 : FS := ([], [33], [], false, false)
def fs63 : FS := ([800, 801], [9, 10, 11, 12, 13, 14, 15, 21, 33], [17, 18], false, false)
def fs64 : FS := ([13], [30, 31, 32], [], false, false)
def fs65 : FS := ([], [32], [], false, false)
def fs66 : FS := ([800, 801, 1600], [9, 10, 11, 12, 13, 14, 15, 21], [17, 18], false, false)
def fs67 : FS := ([], [29], [], false, false)
def fs68 : FS := ([5500], [], [], false, false)
def fs69 : FS := ([5501], [56], [], false, false)
def fs70 : FS := ([5502], [57, 58, 59, 60, 61, 62, 63, 64, 65, 66, 67], [], false, false)
def fs71 : FS := ([5503], [69, 70, 71], [], false, false)
def fs72 : FS := ([5520], [72, 73, 74], [], false, false)
def fs73 : FS := ([5525], [75], [], false, false)
def fs74 : FS := ([5528], [], [], false, false)
def fs75 : FS := ([5526, 5528], [], [], false, false)
def fs76 : FS := ([5526, 5528, 5533], [], [], false, false)
def fs77 : FS := ([5530], [76], [], false, false)
def fs78 : FS := ([5526, 5528, 5529, 5531], [77], [], false, false)
def fs79 : FS := ([5530, 5531], [76], [], false, false)
def fs80 : FS := ([5526, 5528, 5529, 5530, 5531, 5533], [76, 77], [], false, false)
def fs81 : FS := ([5529, 5530, 5531], [76], [], false, false)
def fs82 : FS := ([5531], [76], [], false, false)
def fs83 : FS := ([5526, 5530, 5531], [76, 77], [], false, false)
def fs84 : FS := ([5526, 5528, 5529, 5530, 5531, 5532, 5533], [76, 77, 78, 79, 80, 81, 82], [], false, false)
def fs85 : FS := ([], [83, 86, 87, 88, 89, 90, 91], [], false, false)
def fs86 : FS := ([5526, 5527, 5530, 5532], [], [], false, false)
def fs87 : FS := ([5525, 5526, 5527, 5528, 5529, 5530, 5531, 5532, 5533, 5541], [76, 77, 78, 79, 80, 81, 82, 83, 84, 85, 86, 87, 88, 89, 90, 91], [], false, false)
def fs88 : FS := ([5525, 5526, 5527, 5528, 5529, 5530, 5531, 5532, 5533, 5542], [76, 77, 78, 79, 80, 81, 82, 83, 86, 87, 88, 89, 90, 91], [], false, false)
def fs89 : FS := ([], [], [93], false, false)
def fs90 : FS := ([], [], [92], false, false)
def fs91 : FS := ([], [94], [], false, false)
def fs92 : FS := ([], [94], [92, 93], false, false)
def fs93 : FS := ([5520], [72, 73, 74, 94], [92, 93], false, false)
def fs94 : FS := ([], [67], [], false, false)
def fs95 : FS := ([5520, 5552], [72, 73, 74, 94], [92, 93], false, false)
def fs96 : FS := ([5520, 5525], [72, 73, 74, 95], [], false, false)
def fs97 : FS := ([5558], [96, 97, 98, 99], [], false, false)
def fs98 : FS := ([5557], [], [], false, false)
def fs99 : FS := ([5557, 5558], [96, 97, 98, 99, 101, 102], [], false, false)
def fs100 : FS := ([], [99, 100], [], false, false)
def fs101 : FS := ([5520, 5557, 5558], [72, 73, 74, 96, 97, 98, 99, 100, 101, 102], [], false, false)
def fs102 : FS := ([5520], [72, 73, 74, 103, 104], [], false, false)
def fs103 : FS := ([5520], [72, 73, 74, 103, 104, 105, 106], [92, 93], false, false)
def fs104 : FS := ([], [], [107], false, false)
def fs105 : FS := ([5520, 5571, 5572, 5573, 5574], [72, 73, 74], [92, 93], false, false)
def fs106 : FS := ([5520, 5571, 5572, 5573, 5574], [72, 73, 74], [92, 93, 107], false, false)
def fs107 : FS := ([], [108], [], false, false)
def fs108 : FS := ([], [109], [], false, false)
def fs109 : FS := ([5520], [72, 73, 74, 109], [], false, false)
def fs110 : FS := ([5520], [72, 73, 74, 94, 110], [92, 93], false, false)
def fs111 : FS := ([5578], [111, 112, 113, 114], [], false, false)
def fs112 : FS := ([], [114], [], false, false)
def fs113 : FS := ([], [68], [], false, false)
def fs114 : FS := ([5579], [115, 116, 117], [], false, false)
theorem fsb_0_0 : fsub fs0 fs0 = true := by decide
theorem fsb_0_2 : fsub fs0 fs2 = true := by decide
theorem fsb_2_3 : fsub fs2 fs3 = true := by decide
theorem fsb_0_4 : fsub fs0 fs4 = true := by decide
theorem fsb_0_6 : fsub fs0 fs6 = true := by decide
theorem fsb_0_7 : fsub fs0 fs7 = true := by decide
theorem fsb_0_9 : fsub fs0 fs9 = true := by decide
theorem fsb_6_9 : fsub fs6 fs9 = true := by decide
theorem fsb_7_9 : fsub fs7 fs9 = true := by decide
theorem fsb_8_9 : fsub fs8 fs9 = true := by decide
theorem fsb_10_10 : fsub fs10 fs10 = true := by decide
theorem fsb_0_10 : fsub fs0 fs10 = true := by decide
theorem fsb_0_11 : fsub fs0 fs11 = true := by decide
theorem fsb_10_11 : fsub fs10 fs11 = true := by decide
theorem fsb_11_11 : fsub fs11 fs11 = true := by decide
theorem fsb_0_13 : fsub fs0 fs13 = true := by decide
theorem fsb_13_13 : fsub fs13 fs13 = true := by decide
theorem fsb_12_14 : fsub fs12 fs14 = true := by decide
theorem fsb_0_14 : fsub fs0 fs14 = true := by decide
theorem fsb_13_14 : fsub fs13 fs14 = true := by decide
theorem fsb_14_14 : fsub fs14 fs14 = true := by decide
theorem fsb_0_16 : fsub fs0 fs16 = true := by decide
theorem fsb_15_16 : fsub fs15 fs16 = true := by decide
theorem fsb_0_17 : fsub fs0 fs17 = true := by decide
theorem fsb_16_18 : fsub fs16 fs18 = true := by decide
theorem fsb_17_18 : fsub fs17 fs18 = true := by decide
theorem fsb_0_19 : fsub fs0 fs19 = true := by decide
theorem fsb_14_19 : fsub fs14 fs19 = true := by decide
theorem fsb_13_19 : fsub fs13 fs19 = true := by decide
theorem fsb_18_19 : fsub fs18 fs19 = true := by decide
theorem fsb_0_20 : fsub fs0 fs20 = true := by decide
theorem fsb_20_20 : fsub fs20 fs20 = true := by decide
theorem fsb_0_21 : fsub fs0 fs21 = true := by decide
theorem fsb_7_7 : fsub fs7 fs7 = true := by decide
theorem fsb_0_22 : fsub fs0 fs22 = true := by decide
theorem fsb_21_22 : fsub fs21 fs22 = true := by decide
theorem fsb_7_22 : fsub fs7 fs22 = true := by decide
theorem fsb_6_22 : fsub fs6 fs22 = true := by decide
theorem fsb_22_22 : fsub fs22 fs22 = true := by decide
theorem fsb_0_25 : fsub fs0 fs25 = true := by decide
theorem fsb_24_25 : fsub fs24 fs25 = true := by decide
theorem fsb_0_26 : fsub fs0 fs26 = true := by decide
theorem fsb_0_28 : fsub fs0 fs28 = true := by decide
theorem fsb_24_24 : fsub fs24 fs24 = true := by decide
theorem fsb_26_29 : fsub fs26 fs29 = true := by decide
theorem fsb_27_29 : fsub fs27 fs29 = true := by decide
theorem fsb_29_29 : fsub fs29 fs29 = true := by decide
theorem fsb_28_29 : fsub fs28 fs29 = true := by decide
theorem fsb_0_29 : fsub fs0 fs29 = true := by decide
theorem fsb_24_29 : fsub fs24 fs29 = true := by decide
theorem fsb_25_29 : fsub fs25 fs29 = true := by decide
theorem fsb_25_30 : fsub fs25 fs30 = true := by decide
theorem fsb_29_30 : fsub fs29 fs30 = true := by decide
theorem fsb_20_30 : fsub fs20 fs30 = true := by decide
theorem fsb_25_25 : fsub fs25 fs25 = true := by decide
theorem fsb_25_31 : fsub fs25 fs31 = true := by decide
theorem fsb_20_31 : fsub fs20 fs31 = true := by decide
theorem fsb_0_32 : fsub fs0 fs32 = true := by decide
theorem fsb_25_32 : fsub fs25 fs32 = true := by decide
theorem fsb_30_32 : fsub fs30 fs32 = true := by decide
theorem fsb_20_32 : fsub fs20 fs32 = true := by decide
theorem fsb_26_32 : fsub fs26 fs32 = true := by decide
theorem fsb_31_32 : fsub fs31 fs32 = true := by decide
theorem fsb_24_32 : fsub fs24 fs32 = true := by decide
theorem fsb_23_32 : fsub fs23 fs32 = true := by decide
theorem fsb_0_34 : fsub fs0 fs34 = true := by decide
theorem fsb_0_35 : fsub fs0 fs35 = true := by decide
theorem fsb_35_35 : fsub fs35 fs35 = true := by decide
theorem fsb_34_35 : fsub fs34 fs35 = true := by decide
theorem fsb_0_36 : fsub fs0 fs36 = true := by decide
theorem fsb_0_37 : fsub fs0 fs37 = true := by decide
theorem fsb_0_38 : fsub fs0 fs38 = true := by decide
theorem fsb_0_39 : fsub fs0 fs39 = true := by decide
theorem fsb_38_39 : fsub fs38 fs39 = true := by decide
theorem fsb_0_40 : fsub fs0 fs40 = true := by decide
theorem fsb_37_40 : fsub fs37 fs40 = true := by decide
theorem fsb_39_40 : fsub fs39 fs40 = true := by decide
theorem fsb_36_40 : fsub fs36 fs40 = true := by decide
theorem fsb_0_41 : fsub fs0 fs41 = true := by decide
theorem fsb_0_1 : fsub fs0 fs1 = true := by decide
theorem fsb_1_1 : fsub fs1 fs1 = true := by decide
theorem fsb_0_42 : fsub fs0 fs42 = true := by decide
theorem fsb_3_42 : fsub fs3 fs42 = true := by decide
theorem fsb_0_43 : fsub fs0 fs43 = true := by decide
theorem fsb_40_43 : fsub fs40 fs43 = true := by decide
theorem fsb_5_43 : fsub fs5 fs43 = true := by decide
theorem fsb_40_40 : fsub fs40 fs40 = true := by decide
theorem fsb_44_44 : fsub fs44 fs44 = true := by decide
theorem fsb_0_45 : fsub fs0 fs45 = true := by decide
theorem fsb_20_45 : fsub fs20 fs45 = true := by decide
theorem fsb_45_45 : fsub fs45 fs45 = true := by decide
theorem fsb_45_46 : fsub fs45 fs46 = true := by decide
theorem fsb_46_47 : fsub fs46 fs47 = true := by decide
theorem fsb_47_47 : fsub fs47 fs47 = true := by decide
theorem fsb_0_47 : fsub fs0 fs47 = true := by decide
theorem fsb_0_48 : fsub fs0 fs48 = true := by decide
theorem fsb_32_48 : fsub fs32 fs48 = true := by decide
theorem fsb_47_48 : fsub fs47 fs48 = true := by decide
theorem fsb_0_49 : fsub fs0 fs49 = true := by decide
theorem fsb_40_49 : fsub fs40 fs49 = true := by decide
theorem fsb_22_49 : fsub fs22 fs49 = true := by decide
theorem fsb_4_4 : fsub fs4 fs4 = true := by decide
theorem fsb_0_50 : fsub fs0 fs50 = true := by decide
theorem fsb_40_50 : fsub fs40 fs50 = true := by decide
theorem fsb_0_51 : fsub fs0 fs51 = true := by decide
theorem fsb_40_51 : fsub fs40 fs51 = true := by decide
theorem fsb_19_51 : fsub fs19 fs51 = true := by decide
theorem fsb_0_52 : fsub fs0 fs52 = true := by decide
theorem fsb_40_52 : fsub fs40 fs52 = true := by decide
theorem fsb_35_52 : fsub fs35 fs52 = true := by decide
theorem fsb_0_53 : fsub fs0 fs53 = true := by decide
theorem fsb_20_53 : fsub fs20 fs53 = true := by decide
theorem fsb_53_53 : fsub fs53 fs53 = true := by decide
theorem fsb_53_54 : fsub fs53 fs54 = true := by decide
theorem fsb_54_55 : fsub fs54 fs55 = true := by decide
theorem fsb_55_55 : fsub fs55 fs55 = true := by decide
theorem fsb_0_55 : fsub fs0 fs55 = true := by decide
theorem fsb_0_56 : fsub fs0 fs56 = true := by decide
theorem fsb_32_56 : fsub fs32 fs56 = true := by decide
theorem fsb_55_56 : fsub fs55 fs56 = true := by decide
theorem fsb_0_57 : fsub fs0 fs57 = true := by decide
theorem fsb_40_57 : fsub fs40 fs57 = true := by decide
theorem fsb_9_57 : fsub fs9 fs57 = true := by decide
theorem fsb_57_58 : fsub fs57 fs58 = true := by decide
theorem fsb_11_58 : fsub fs11 fs58 = true := by decide
theorem fsb_0_60 : fsub fs0 fs60 = true := by decide
theorem fsb_6_60 : fsub fs6 fs60 = true := by decide
theorem fsb_7_60 : fsub fs7 fs60 = true := by decide
theorem fsb_59_60 : fsub fs59 fs60 = true := by decide
theorem fsb_40_60 : fsub fs40 fs60 = true := by decide
theorem fsb_60_60 : fsub fs60 fs60 = true := by decide
theorem fsb_0_61 : fsub fs0 fs61 = true := by decide
theorem fsb_0_62 : fsub fs0 fs62 = true := by decide
theorem fsb_0_63 : fsub fs0 fs63 = true := by decide
theorem fsb_40_63 : fsub fs40 fs63 = true := by decide
theorem fsb_62_63 : fsub fs62 fs63 = true := by decide
theorem fsb_22_63 : fsub fs22 fs63 = true := by decide
theorem fsb_0_64 : fsub fs0 fs64 = true := by decide
theorem fsb_0_65 : fsub fs0 fs65 = true := by decide
theorem fsb_0_66 : fsub fs0 fs66 = true := by decide
theorem fsb_40_66 : fsub fs40 fs66 = true := by decide
theorem fsb_22_66 : fsub fs22 fs66 = true := by decide
theorem fsb_0_67 : fsub fs0 fs67 = true := by decide
theorem fsb_0_33 : fsub fs0 fs33 = true := by decide
theorem fsb_33_33 : fsub fs33 fs33 = true := by decide
theorem fsb_0_68 : fsub fs0 fs68 = true := by decide
theorem fsb_0_69 : fsub fs0 fs69 = true := by decide
theorem fsb_0_70 : fsub fs0 fs70 = true := by decide
theorem fsb_0_71 : fsub fs0 fs71 = true := by decide
theorem fsb_0_72 : fsub fs0 fs72 = true := by decide
theorem fsb_72_72 : fsub fs72 fs72 = true := by decide
theorem fsb_73_73 : fsub fs73 fs73 = true := by decide
theorem fsb_0_75 : fsub fs0 fs75 = true := by decide
theorem fsb_74_75 : fsub fs74 fs75 = true := by decide
theorem fsb_0_76 : fsub fs0 fs76 = true := by decide
theorem fsb_74_76 : fsub fs74 fs76 = true := by decide
theorem fsb_74_78 : fsub fs74 fs78 = true := by decide
theorem fsb_0_79 : fsub fs0 fs79 = true := by decide
theorem fsb_77_79 : fsub fs77 fs79 = true := by decide
theorem fsb_0_80 : fsub fs0 fs80 = true := by decide
theorem fsb_78_80 : fsub fs78 fs80 = true := by decide
theorem fsb_77_80 : fsub fs77 fs80 = true := by decide
theorem fsb_74_80 : fsub fs74 fs80 = true := by decide
theorem fsb_76_80 : fsub fs76 fs80 = true := by decide
theorem fsb_79_80 : fsub fs79 fs80 = true := by decide
theorem fsb_80_80 : fsub fs80 fs80 = true := by decide
theorem fsb_0_81 : fsub fs0 fs81 = true := by decide
theorem fsb_77_81 : fsub fs77 fs81 = true := by decide
theorem fsb_0_82 : fsub fs0 fs82 = true := by decide
theorem fsb_77_83 : fsub fs77 fs83 = true := by decide
theorem fsb_81_80 : fsub fs81 fs80 = true := by decide
theorem fsb_82_80 : fsub fs82 fs80 = true := by decide
theorem fsb_83_80 : fsub fs83 fs80 = true := by decide
theorem fsb_0_84 : fsub fs0 fs84 = true := by decide
theorem fsb_80_84 : fsub fs80 fs84 = true := by decide
theorem fsb_76_84 : fsub fs76 fs84 = true := by decide
theorem fsb_75_84 : fsub fs75 fs84 = true := by decide
theorem fsb_74_84 : fsub fs74 fs84 = true := by decide
theorem fsb_75_87 : fsub fs75 fs87 = true := by decide
theorem fsb_84_87 : fsub fs84 fs87 = true := by decide
theorem fsb_0_87 : fsub fs0 fs87 = true := by decide
theorem fsb_86_87 : fsub fs86 fs87 = true := by decide
theorem fsb_85_87 : fsub fs85 fs87 = true := by decide
theorem fsb_75_88 : fsub fs75 fs88 = true := by decide
theorem fsb_84_88 : fsub fs84 fs88 = true := by decide
theorem fsb_0_88 : fsub fs0 fs88 = true := by decide
theorem fsb_86_88 : fsub fs86 fs88 = true := by decide
theorem fsb_85_88 : fsub fs85 fs88 = true := by decide
theorem fsb_0_89 : fsub fs0 fs89 = true := by decide
theorem fsb_0_90 : fsub fs0 fs90 = true := by decide
theorem fsb_0_91 : fsub fs0 fs91 = true := by decide
theorem fsb_90_90 : fsub fs90 fs90 = true := by decide
theorem fsb_0_92 : fsub fs0 fs92 = true := by decide
theorem fsb_90_92 : fsub fs90 fs92 = true := by decide
theorem fsb_91_92 : fsub fs91 fs92 = true := by decide
theorem fsb_89_92 : fsub fs89 fs92 = true := by decide
theorem fsb_0_93 : fsub fs0 fs93 = true := by decide
theorem fsb_72_93 : fsub fs72 fs93 = true := by decide
theorem fsb_92_93 : fsub fs92 fs93 = true := by decide
theorem fsb_0_94 : fsub fs0 fs94 = true := by decide
theorem fsb_92_92 : fsub fs92 fs92 = true := by decide
theorem fsb_93_93 : fsub fs93 fs93 = true := by decide
theorem fsb_0_95 : fsub fs0 fs95 = true := by decide
theorem fsb_93_95 : fsub fs93 fs95 = true := by decide
theorem fsb_0_96 : fsub fs0 fs96 = true := by decide
theorem fsb_72_96 : fsub fs72 fs96 = true := by decide
theorem fsb_98_99 : fsub fs98 fs99 = true := by decide
theorem fsb_97_99 : fsub fs97 fs99 = true := by decide
theorem fsb_97_101 : fsub fs97 fs101 = true := by decide
theorem fsb_100_101 : fsub fs100 fs101 = true := by decide
theorem fsb_0_101 : fsub fs0 fs101 = true := by decide
theorem fsb_72_101 : fsub fs72 fs101 = true := by decide
theorem fsb_99_101 : fsub fs99 fs101 = true := by decide
theorem fsb_98_101 : fsub fs98 fs101 = true := by decide
theorem fsb_0_102 : fsub fs0 fs102 = true := by decide
theorem fsb_72_102 : fsub fs72 fs102 = true := by decide
theorem fsb_90_103 : fsub fs90 fs103 = true := by decide
theorem fsb_89_103 : fsub fs89 fs103 = true := by decide
theorem fsb_0_103 : fsub fs0 fs103 = true := by decide
theorem fsb_72_103 : fsub fs72 fs103 = true := by decide
theorem fsb_103_103 : fsub fs103 fs103 = true := by decide
theorem fsb_89_105 : fsub fs89 fs105 = true := by decide
theorem fsb_90_105 : fsub fs90 fs105 = true := by decide
theorem fsb_0_105 : fsub fs0 fs105 = true := by decide
theorem fsb_72_105 : fsub fs72 fs105 = true := by decide
theorem fsb_104_104 : fsub fs104 fs104 = true := by decide
theorem fsb_0_106 : fsub fs0 fs106 = true := by decide
theorem fsb_105_106 : fsub fs105 fs106 = true := by decide
theorem fsb_104_106 : fsub fs104 fs106 = true := by decide
theorem fsb_0_107 : fsub fs0 fs107 = true := by decide
theorem fsb_0_108 : fsub fs0 fs108 = true := by decide
theorem fsb_108_108 : fsub fs108 fs108 = true := by decide
theorem fsb_0_109 : fsub fs0 fs109 = true := by decide
theorem fsb_108_109 : fsub fs108 fs109 = true := by decide
theorem fsb_72_109 : fsub fs72 fs109 = true := by decide
theorem fsb_92_110 : fsub fs92 fs110 = true := by decide
theorem fsb_72_110 : fsub fs72 fs110 = true := by decide
theorem fsb_0_110 : fsub fs0 fs110 = true := by decide
theorem fsb_0_111 : fsub fs0 fs111 = true := by decide
theorem fsb_0_112 : fsub fs0 fs112 = true := by decide
theorem fsb_0_113 : fsub fs0 fs113 = true := by decide
theorem fsb_0_114 : fsub fs0 fs114 = true := by decide
