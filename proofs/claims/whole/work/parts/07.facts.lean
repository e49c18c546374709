/-! ===== what stays true of the tables and of the cells that were there before ===== -/
def ptys (dA : Nat → ClassId) : List (ClassId × FieldType) := [(dA 0, .int), (dA 1, .long), (dA 2, .boolean), (dA 3, .byte), (dA 4, .object "java/lang/Object")]
def Kf (D : va_G) (dA : Nat → ClassId) (U : State) : Prop := va_K D pcl (ptys dA) U ∧ (∀ w ∈ lw_tbl, isNW w = true → va_Nw w U) ∧ va_AO "java/lang/Object" U
def Sf (base : Nat) (sp : Nat → Nat) (sc : Nat × (Nat → Int32)) (U : State) (H : Heap) : Prop :=
  (∀ k, k < 4 → sp k < base) ∧ va_X (sp 0) sc.1 sc.2 U H ∧
  va_Z "java/util/ArrayList" "DEFAULTCAPACITY_EMPTY_ELEMENTDATA" "[Ljava/lang/Object;" (.ref (sp 1)) (pAb base) U H ∧
  va_T (.object "java/lang/Object") (sp 1) 0 (fun _ => .null) (pAb base) U H ∧
  va_Z "java/lang/String" "COMPACT_STRINGS" "Z" (.int 1) (pAb base) U H ∧
  vk_R "RowAuditor$Parser" 141 "ksdhwvoepqant" (sp 2) U ∧ va_O "java/lang/String" (sp 2) (pAb base) U H ∧
  va_OF "java/lang/String" "coder" "B" (.int 0) (sp 2) (pAb base) U H ∧ va_OF "java/lang/String" "value" "[B" (.ref (sp 3)) (sp 2) (pAb base) U H ∧
  va_T .byte (sp 3) 13 (fun j => .int (pbyt.getD j 0)) (pAb base) U H ∧ va_Mi "[Ljava/lang/Object;" (sp 4) U
theorem Kf.warm {D : va_G} {dA : Nat → ClassId} {s U : State} (hW : s.WarmedH U.vm) (h : Kf D dA s) : Kf D dA U := by
  refine ⟨va_K.moved hW.alike h.1, fun w hw hn => ?_, h.2.2.moved hW.alike⟩
  have h1 := h.2.1 w hw hn
  cases w <;> first | exact va_Nw.warmM hW h1 | exact va_Nw.warmC hW h1 | exact va_Nw.warmD hW h1 | (simp [isNW] at hn)
theorem Kf.same {D : va_G} {dA : Nat → ClassId} {s U : State} (hv : s.vm = U.vm) (h : Kf D dA s) : Kf D dA U := by
  have hal : s.vm.Alike U.vm := by rw [hv]; exact Vm.Alike.refl _
  refine ⟨va_K.moved hal h.1, fun w hw hn => ?_, h.2.2.moved hal⟩
  have h1 := h.2.1 w hw hn
  cases w <;> first | exact va_Nw.same rfl hv h1 | (simp [isNW] at hn)
theorem Sf.kept {base : Nat} {sp : Nat → Nat} {sc : Nat × (Nat → Int32)} {U : State} {H H1 : Heap} (h : Sf base sp sc U H) (hb : base ≤ H.size) (hq : ∀ a : Nat, a < H.size → ¬ pAb base a → H1[a]? = H[a]?) : Sf base sp sc U H1 := by
  obtain ⟨a1, a2, a3, a4, a5, a6, a7, a8, a9, a10, a11⟩ := h
  have h0 := a1 0 (by omega)
  exact ⟨a1, a2.kept (hq _ (by omega) (by show ¬ base ≤ sp 0; omega)), a3.kept hq, a4.kept hq, a5.kept hq, a6, a7.kept hq, a8.kept hq, a9.kept hq, a10.kept hq, a11⟩
theorem Sf.warm {base : Nat} {sp : Nat → Nat} {sc : Nat × (Nat → Int32)} {s U : State} {H : Heap} (hW : s.WarmedH U.vm) (h : Sf base sp sc s H) : Sf base sp sc U H := by
  obtain ⟨a1, a2, a3, a4, a5, a6, a7, a8, a9, a10, a11⟩ := h
  exact ⟨a1, a2.moved hW.alike, a3.moved hW.alike, a4.moved hW.alike, a5.moved hW.alike, a6.warm hW, a7.moved hW.alike, a8.moved hW.alike, a9.moved hW.alike, a10.moved hW.alike, a11.moved hW.alike⟩
theorem Sf.same {base : Nat} {sp : Nat → Nat} {sc : Nat × (Nat → Int32)} {s U : State} {H : Heap} (hv : s.vm = U.vm) (h : Sf base sp sc s H) : Sf base sp sc U H := by
  have hal : s.vm.Alike U.vm := by rw [hv]; exact Vm.Alike.refl _
  obtain ⟨a1, a2, a3, a4, a5, a6, a7, a8, a9, a10, a11⟩ := h
  exact ⟨a1, a2.moved hal, a3.moved hal, a4.moved hal, a5.moved hal, a6.same hv.symm, a7.moved hal, a8.moved hal, a9.moved hal, a10.moved hal, a11.moved hal⟩
theorem pF_of {big ws : List Cond} (ps : List Nat) (h : ps.filterMap (fun i => big[i]?) = ws) (hg : ws.all goodWord = true) : ∀ w ∈ ws, w ∈ big.filter goodWord := by
  intro w hw
  refine List.mem_filter.mpr ⟨?_, List.all_eq_true.mp hg w hw⟩
  rw [← h] at hw
  obtain ⟨i, -, hi⟩ := List.mem_filterMap.mp hw
  exact List.mem_of_getElem? hi
theorem pF0 : (∀ w ∈ u_ws "RowAuditor$Books" pT0 10, w ∈ wg) := pF_of [192, 194, 196, 198, 200, 202, 204, 206, 208, 210] (by decide +kernel) (by decide +kernel)
theorem pQ0 : Cond.castable "RowAuditor$Books" "java/lang/Object" ∈ lw_tbl := List.mem_of_getElem? (i := 2203) (by decide +kernel)
theorem pF1 : (∀ w ∈ u_ws "RowAuditor$Clause" pT1 4, w ∈ wg) := pF_of [798, 800, 802, 804] (by decide +kernel) (by decide +kernel)
theorem pQ1 : Cond.castable "RowAuditor$Clause" "java/lang/Object" ∈ lw_tbl := List.mem_of_getElem? (i := 2215) (by decide +kernel)
theorem pF2 : (∀ w ∈ u_ws "RowAuditor$Facts" pT2 5, w ∈ wg) := pF_of [269, 271, 273, 275, 277] (by decide +kernel) (by decide +kernel)
theorem pQ2 : Cond.castable "RowAuditor$Facts" "java/lang/Object" ∈ lw_tbl := List.mem_of_getElem? (i := 2205) (by decide +kernel)
theorem pF3 : (∀ w ∈ u_ws "RowAuditor$Fitter" pT3 10, w ∈ wg) := pF_of [462, 464, 466, 468, 470, 472, 474, 476, 478, 480] (by decide +kernel) (by decide +kernel)
theorem pQ3 : Cond.castable "RowAuditor$Fitter" "java/lang/Object" ∈ lw_tbl := List.mem_of_getElem? (i := 2212) (by decide +kernel)
theorem pF4 : (∀ w ∈ u_ws "RowAuditor$Flow" pT4 12, w ∈ wg) := pF_of [399, 401, 403, 405, 407, 409, 411, 413, 415, 417, 419, 421] (by decide +kernel) (by decide +kernel)
theorem pQ4 : Cond.castable "RowAuditor$Flow" "java/lang/Object" ∈ lw_tbl := List.mem_of_getElem? (i := 2210) (by decide +kernel)
theorem pF5 : (∀ w ∈ u_ws "RowAuditor$Laws" pT5 5, w ∈ wg) := pF_of [319, 321, 323, 325, 327] (by decide +kernel) (by decide +kernel)
theorem pQ5 : Cond.castable "RowAuditor$Laws" "java/lang/Object" ∈ lw_tbl := List.mem_of_getElem? (i := 2206) (by decide +kernel)
theorem pF6 : (∀ w ∈ u_ws "RowAuditor$Parser" pT6 7, w ∈ wg) := pF_of [365, 367, 369, 371, 373, 375, 377] (by decide +kernel) (by decide +kernel)
theorem pQ6 : Cond.castable "RowAuditor$Parser" "java/lang/Object" ∈ lw_tbl := List.mem_of_getElem? (i := 2209) (by decide +kernel)
theorem pF7 : (∀ w ∈ u_ws "RowAuditor$Readings" pT7 4, w ∈ wg) := pF_of [343, 345, 347, 349] (by decide +kernel) (by decide +kernel)
theorem pQ7 : Cond.castable "RowAuditor$Readings" "java/lang/Object" ∈ lw_tbl := List.mem_of_getElem? (i := 2208) (by decide +kernel)
theorem pF8 : (∀ w ∈ u_ws "RowAuditor$Rounder" pT8 5, w ∈ wg) := pF_of [435, 437, 439, 441, 443] (by decide +kernel) (by decide +kernel)
theorem pQ8 : Cond.castable "RowAuditor$Rounder" "java/lang/Object" ∈ lw_tbl := List.mem_of_getElem? (i := 2211) (by decide +kernel)
theorem pF9 : (∀ w ∈ u_ws "RowAuditor$Text" pT9 3, w ∈ wg) := pF_of [743, 745, 747] (by decide +kernel) (by decide +kernel)
theorem pQ9 : Cond.castable "RowAuditor$Text" "java/lang/Object" ∈ lw_tbl := List.mem_of_getElem? (i := 2214) (by decide +kernel)
theorem pF10 : (∀ w ∈ u_ws "RowAuditor$View" pT10 10, w ∈ wg) := pF_of [236, 238, 240, 242, 244, 246, 248, 250, 252, 254] (by decide +kernel) (by decide +kernel)
theorem pQ10 : Cond.castable "RowAuditor$View" "java/lang/Object" ∈ lw_tbl := List.mem_of_getElem? (i := 2204) (by decide +kernel)
theorem pF11 : (∀ w ∈ u_ws "RowAuditor" pT11 20, w ∈ wg) := pF_of [503, 505, 507, 509, 511, 513, 515, 517, 519, 521, 523, 525, 527, 529, 531, 533, 535, 537, 539, 541] (by decide +kernel) (by decide +kernel)
theorem pQ11 : Cond.castable "RowAuditor" "java/lang/Object" ∈ lw_tbl := List.mem_of_getElem? (i := 2202) (by decide +kernel)
theorem pF12 : (∀ w ∈ u_ws "RowAuditorModel" pT12 87, w ∈ wg) := pF_of [1633, 1635, 1637, 1639, 1641, 1643, 1645, 1647, 1649, 1651, 1653, 1655, 1657, 1659, 1661, 1663, 1665, 1667, 1669, 1671, 1673, 1675, 1677, 1679, 1681, 1683, 1685, 1687, 1689, 1691, 1693, 1695, 1697, 1699, 1701, 1703, 1705, 1707, 1709, 1711, 1713, 1715, 1717, 1719, 1721, 1723, 1725, 1727, 1729, 1731, 1733, 1735, 1737, 1739, 1741, 1743, 1745, 1747, 1749, 1751, 1753, 1755, 1757, 1759, 1761, 1763, 1765, 1767, 1769, 1771, 1773, 1775, 1777, 1779, 1781, 1783, 1785, 1787, 1789, 1791, 1793, 1795, 1797, 1799, 1801, 1803, 1805] (by decide +kernel) (by decide +kernel)
theorem pQ12 : Cond.castable "RowAuditorModel" "java/lang/Object" ∈ lw_tbl := List.mem_of_getElem? (i := 2213) (by decide +kernel)
theorem pF13 : (∀ w ∈ u_ws "java/util/ArrayList" pT13 3, w ∈ wg) := pF_of [310, 306, 308] (by decide +kernel) (by decide +kernel)
theorem pQ13 : Cond.castable "java/util/ArrayList" "java/lang/Object" ∈ lw_tbl := List.mem_of_getElem? (i := 2207) (by decide +kernel)
theorem pV0 : pD0.length = 10 ∧ ∀ j, j < 10 → defaultValue (pY0 j) = vp_V pD0 j := by decide +kernel
theorem pV1 : pD1.length = 4 ∧ ∀ j, j < 4 → defaultValue (pY1 j) = vp_V pD1 j := by decide +kernel
theorem pV2 : pD2.length = 5 ∧ ∀ j, j < 5 → defaultValue (pY2 j) = vp_V pD2 j := by decide +kernel
theorem pV3 : pD3.length = 10 ∧ ∀ j, j < 10 → defaultValue (pY3 j) = vp_V pD3 j := by decide +kernel
theorem pV4 : pD4.length = 12 ∧ ∀ j, j < 12 → defaultValue (pY4 j) = vp_V pD4 j := by decide +kernel
theorem pV5 : pD5.length = 5 ∧ ∀ j, j < 5 → defaultValue (pY5 j) = vp_V pD5 j := by decide +kernel
theorem pV6 : pD6.length = 7 ∧ ∀ j, j < 7 → defaultValue (pY6 j) = vp_V pD6 j := by decide +kernel
theorem pV7 : pD7.length = 4 ∧ ∀ j, j < 4 → defaultValue (pY7 j) = vp_V pD7 j := by decide +kernel
theorem pV8 : pD8.length = 5 ∧ ∀ j, j < 5 → defaultValue (pY8 j) = vp_V pD8 j := by decide +kernel
theorem pV9 : pD9.length = 3 ∧ ∀ j, j < 3 → defaultValue (pY9 j) = vp_V pD9 j := by decide +kernel
theorem pV10 : pD10.length = 10 ∧ ∀ j, j < 10 → defaultValue (pY10 j) = vp_V pD10 j := by decide +kernel
theorem pV11 : pD11.length = 20 ∧ ∀ j, j < 20 → defaultValue (pY11 j) = vp_V pD11 j := by decide +kernel
theorem pV12 : pD12.length = 87 ∧ ∀ j, j < 87 → defaultValue (pY12 j) = vp_V pD12 j := by decide +kernel
theorem pV13 : pD13.length = 3 ∧ ∀ j, j < 3 → defaultValue (pY13 j) = vp_V pD13 j := by decide +kernel
/-- each class: its field words, types, names; its fresh fields; it may stand where an Object is wanted -/
theorem pcl_ok : ∀ (c : Nat) (r : vw_C), pcl[c]? = some r → (∀ w ∈ u_ws r.1 r.2.1 r.2.2, w ∈ wg) ∧ (∀ k, k < r.2.2 → parseFieldDescriptor (r.2.1 k).2.2.1 = some (pY c k)) ∧ (∀ a, a < r.2.2 → ∀ b, b < r.2.2 → a ≠ b → (r.2.1 a).2.1 ≠ (r.2.1 b).2.1) ∧ (∃ fs, pDf[c]? = some fs ∧ fs.length = r.2.2 ∧ ∀ j, j < r.2.2 → defaultValue (pY c j) = vp_V fs j) ∧ (Cond.castable r.1 "java/lang/Object") ∈ lw_tbl := by
  intro c r hr
  match c, hr with
  | 0, hr => cases hr; exact ⟨pF0, pO0, pN0, ⟨pD0, rfl, pV0.1, pV0.2⟩, pQ0⟩
  | 1, hr => cases hr; exact ⟨pF1, pO1, pN1, ⟨pD1, rfl, pV1.1, pV1.2⟩, pQ1⟩
  | 2, hr => cases hr; exact ⟨pF2, pO2, pN2, ⟨pD2, rfl, pV2.1, pV2.2⟩, pQ2⟩
  | 3, hr => cases hr; exact ⟨pF3, pO3, pN3, ⟨pD3, rfl, pV3.1, pV3.2⟩, pQ3⟩
  | 4, hr => cases hr; exact ⟨pF4, pO4, pN4, ⟨pD4, rfl, pV4.1, pV4.2⟩, pQ4⟩
  | 5, hr => cases hr; exact ⟨pF5, pO5, pN5, ⟨pD5, rfl, pV5.1, pV5.2⟩, pQ5⟩
  | 6, hr => cases hr; exact ⟨pF6, pO6, pN6, ⟨pD6, rfl, pV6.1, pV6.2⟩, pQ6⟩
  | 7, hr => cases hr; exact ⟨pF7, pO7, pN7, ⟨pD7, rfl, pV7.1, pV7.2⟩, pQ7⟩
  | 8, hr => cases hr; exact ⟨pF8, pO8, pN8, ⟨pD8, rfl, pV8.1, pV8.2⟩, pQ8⟩
  | 9, hr => cases hr; exact ⟨pF9, pO9, pN9, ⟨pD9, rfl, pV9.1, pV9.2⟩, pQ9⟩
  | 10, hr => cases hr; exact ⟨pF10, pO10, pN10, ⟨pD10, rfl, pV10.1, pV10.2⟩, pQ10⟩
  | 11, hr => cases hr; exact ⟨pF11, pO11, pN11, ⟨pD11, rfl, pV11.1, pV11.2⟩, pQ11⟩
  | 12, hr => cases hr; exact ⟨pF12, pO12, pN12, ⟨pD12, rfl, pV12.1, pV12.2⟩, pQ12⟩
  | 13, hr => cases hr; exact ⟨pF13, pO13, pN13, ⟨pD13, rfl, pV13.1, pV13.2⟩, pQ13⟩
  | k + 14, hr => simp [pcl] at hr
