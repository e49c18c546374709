/-! ===== leaves ===== -/
section LF
variable {sc : Nat × (Nat → Int32)} {d : Nat} {xi : Nat → Int32} {xa : Nat → Nat → Int32} {xl : Nat → Nat → Int64} {xr : Nat → Value} {dy : PH} {K : Option Value → PH → Prop}
theorem r_within {h : PH} {v lo hi : Int32} (k : K (some (.int (bi (lo ≤ v ∧ v ≤ hi)))) h) : Rn sc d 181 [.int v, .int lo, .int hi] h K := by
  have hq : prog[181]? = some pm181 := rfl
  refine Rn.of (L := [.int v, .int lo, .int hi]) hq rfl rfl ?_
  refine Ex.seg hq 2 rfl ?_
  refine Ex.i2 hq rfl (fun (c : v < lo) => ?_) (fun (c : ¬ v < lo) => ?_)
  · rw [bi_f (fun z => (Int32.not_le.mpr c) z.1)] at k
    exact Ex.seg hq 1 rfl (Ex.zr hq rfl rfl (Or.inl rfl) k)
  · refine Ex.seg hq 2 rfl ?_
    refine Ex.i2 hq rfl (fun (c2 : hi < v) => ?_) (fun (c2 : ¬ hi < v) => ?_)
    · rw [bi_f (fun z => (Int32.not_le.mpr c2) z.2)] at k
      exact Ex.seg hq 1 rfl (Ex.zr hq rfl rfl (Or.inl rfl) k)
    · rw [bi_t ⟨Int32.not_lt.mp c, Int32.not_lt.mp c2⟩] at k
      exact Ex.seg hq 2 rfl (Ex.zr hq rfl rfl (Or.inr rfl) k)
theorem r_isDay {h : PH} {v : Int32} (k : K (some (.int (bi (0 ≤ v ∧ v ≤ 3999)))) h) : Rn sc (d + 1) 182 [.int v] h K := by
  have hq : prog[182]? = some pm182 := rfl
  refine Rn.of (L := [.int v]) hq rfl rfl ?_
  refine Ex.seg hq 3 rfl ?_
  refine Ex.cl hq rfl rfl ?_
  refine r_within ?_
  exact Ex.zr hq rfl rfl (bi_01 _) k
theorem m_isHouse {v : Int32} (k : K (some (.int (bi (0 ≤ v ∧ v < xi 5501)))) (hp xi xa xl xr dy)) : Rn sc d 189 [.ref 55, .int v] (hp xi xa xl xr dy) K := by
  have hq : prog[189]? = some pm189 := rfl
  refine Rn.of (L := [.ref 55, .int v]) hq rfl rfl ?_
  refine Ex.seg hq 1 rfl ?_
  refine Ex.i1 hq rfl (fun (c : v < 0) => ?_) (fun (c : ¬ v < 0) => ?_)
  · rw [bi_f (fun z => (Int32.not_le.mpr c) z.1)] at k
    exact Ex.seg hq 1 rfl (Ex.zr hq rfl rfl (Or.inl rfl) k)
  · refine Ex.seg hq 3 rfl ?_
    refine Ex.i2 hq rfl (fun (c2 : xi 5501 ≤ v) => ?_) (fun (c2 : ¬ xi 5501 ≤ v) => ?_)
    · rw [bi_f (fun z => (Int32.not_lt.mpr c2) z.2)] at k
      exact Ex.seg hq 1 rfl (Ex.zr hq rfl rfl (Or.inl rfl) k)
    · rw [bi_t ⟨Int32.not_lt.mp c, Int32.not_le.mp c2⟩] at k
      exact Ex.seg hq 2 rfl (Ex.zr hq rfl rfl (Or.inr rfl) k)
theorem r_now {v : Int32} (k1 : xi 100 ≤ v ∧ v ≤ 3999 → K (some (.int 1)) (hp (va_up xi 100 v) xa xl xr dy)) (k0 : ¬ (xi 100 ≤ v ∧ v ≤ 3999) → K (some (.int 0)) (hp xi xa xl xr dy)) : Rn sc (d + 1) 127 [.ref 0, .int v] (hp xi xa xl xr dy) K := by
  have hq : prog[127]? = some pm127 := rfl
  refine Rn.of (L := [.ref 0, .int v]) hq rfl rfl ?_
  refine Ex.seg hq 5 rfl ?_
  refine Ex.cl hq rfl rfl ?_
  refine r_within ?_
  refine Ex.ifn hq rfl (fun c => ?_) (fun c => ?_)
  · refine Ex.seg hq 5 (h' := hp (va_up xi 100 v) xa xl xr dy) rfl ?_
    exact Ex.zr hq rfl rfl (Or.inr rfl) (k1 c)
  · exact Ex.seg hq 1 rfl (Ex.zr hq rfl rfl (Or.inl rfl) (k0 c))
end LF
