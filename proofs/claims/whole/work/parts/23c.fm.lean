/-! ===== frames, printed by wip/whole/genfm.py ===== -/
theorem fm_w_54_L8 {s0 : ST} {X62 X62' : ST → Prop} {K K' : ST → Prop} (hX62 : ∀ (s1 : ST), Fr fs21 s0 s1 → X62 s1 → X62' s1) (hK : ∀ (s1 : ST), Fr fs21 s0 s1 → K s1 → K' s1) : ∀ (n : Nat) (x1 : Nat) (x3 : Int32) (x4 : Int32) (x5 : Int32) (x6 : Int32) (s : ST), Fr fs21 s0 s → w_54_L8 n x1 x3 x4 x5 x6 s X62 K → w_54_L8 n x1 x3 x4 x5 x6 s X62' K' := by
  intro n
  induction n with
  | zero => intro x1 x3 x4 x5 x6 s f h; exact h.elim
  | succ n ih =>
    intro x1 x3 x4 x5 x6 s f h
    rw [w_54_L8] at h
    rw [w_54_L8]
    exact (Exists.elim h (fun v3 e1 => ⟨v3, ⟨e1.1, (Exists.elim e1.2 (fun f6 e2 => ⟨f6, ⟨e2.1, (fm_w_297 _ _ (fr_rfl _ _) e2.2 (fun r5 s4 gs4 h3 => ⟨(fun c4 => (hX62 _ (fr_tr fsb_0_21 f gs4) (h3.1 c4))), (fun c5 => (Exists.elim (h3.2 c5) (fun v7 e6 => ⟨v7, ⟨e6.1, (Exists.elim e6.2 (fun f10 e7 => ⟨f10, ⟨e7.1, (fm_w_299 _ _ _ (fr_rfl _ _) e7.2 (fun r9 s8 gs8 h8 => (Exists.elim h8 (fun f11 e9 => ⟨f11, ⟨e9.1, (Exists.elim e9.2 (fun v12 e10 => ⟨v12, ⟨e10.1, ⟨(fun c11 => (Exists.elim (e10.2.1 c11) (fun v13 e12 => ⟨v13, ⟨e12.1, (ih _ _ _ _ _ _ (fr_tr fsb_0_21 (fr_tr fsb_0_21 f gs4) gs8) e12.2)⟩⟩))), (fun c13 => (fm_w_184 _ _ _ (fr_rfl _ _) (e10.2.2 c13) (fun r15 s14 gs14 h14 => ⟨(fun c15 => (Exists.elim (h14.1 c15) (fun v16 e16 => ⟨v16, ⟨e16.1, (ih _ _ _ _ _ _ (fr_tr fsb_0_21 (fr_tr fsb_0_21 (fr_tr fsb_0_21 f gs4) gs8) gs14) e16.2)⟩⟩))), (fun c17 => (Exists.elim (h14.2 c17) (fun v17 e18 => ⟨v17, ⟨e18.1, ⟨(fun c19 => (ih _ _ _ _ _ _ (fr_tr fsb_0_21 (fr_tr fsb_0_21 (fr_tr fsb_0_21 f gs4) gs8) gs14) (e18.2.1 c19))), (fun c20 => ⟨(fun c21 => (ih _ _ _ _ _ _ (fr_tr fsb_0_21 (fr_tr fsb_0_21 (fr_tr fsb_0_21 f gs4) gs8) gs14) ((e18.2.2 c20).1 c21))), (fun c22 => (fm_w_299_R20 _ _ (fr_rfl _ _) ((e18.2.2 c20).2 c22) (fun r19 s18 gs18 h23 => (Exists.elim h23 (fun f20 e24 => ⟨f20, ⟨e24.1, (Exists.elim e24.2 (fun f23 e25 => ⟨f23, ⟨e25.1, (fm_w_108 _ _ _ (fr_rfl _ _) e25.2 (fun r22 s21 gs21 h26 => ⟨(fun c27 => (ih _ _ _ _ _ _ (fr_tr fsb_0_21 (fr_tr fsb_0_21 (fr_tr fsb_0_21 (fr_tr fsb_0_21 (fr_tr fsb_0_21 f gs4) gs8) gs14) gs18) gs21) (h26.1 c27))), (fun c28 => ⟨(h26.2 c28).1, (Exists.elim (h26.2 c28).2 (fun v24 e29 => ⟨v24, ⟨e29.1, ⟨e29.2.1, (ih _ _ _ _ _ _ (fr_sA 21 (fr_tr fsb_0_21 (fr_tr fsb_0_21 (fr_tr fsb_0_21 (fr_tr fsb_0_21 (fr_tr fsb_0_21 f gs4) gs8) gs14) gs18) gs21)) e29.2.2)⟩⟩⟩))⟩)⟩))⟩⟩))⟩⟩)))))⟩)⟩⟩⟩)))⟩)))⟩⟩⟩))⟩⟩))))⟩⟩))⟩⟩)))⟩))⟩⟩))⟩⟩))
theorem fm_w_54 {s0 : ST} {K K' : ST → Prop} (p1 : Nat) (p2 : Int32) (p3 : Int32) (p4 : Int32) (s : ST) (f : Fr fs21 s0 s) (h : w_54 p1 p2 p3 p4 s K) (hK : ∀ (s1 : ST), Fr fs21 s0 s1 → K s1 → K' s1) : w_54 p1 p2 p3 p4 s K' := by
  unfold w_54 at h ⊢
  exact (fm_w_297_R20 _ (fr_rfl _ _) h (fun r2 s1 gs1 h1 => (Exists.elim h1 (fun m e2 => ⟨m, (fm_w_54_L8 (fun s25 gs25 h3 => (hK _ gs25 h3)) hK m _ _ _ _ _ _ (fr_tr fsb_0_21 f gs1) e2)⟩))))
theorem fm_w_55_L2 {s0 : ST} {X31 X31' : ST → Prop} {X27 X27' : ST → Prop} {K K' : Int32 → ST → Prop} (hX31 : ∀ (s1 : ST), Fr fs7 s0 s1 → X31 s1 → X31' s1) (hX27 : ∀ (s1 : ST), Fr fs7 s0 s1 → X27 s1 → X27' s1) (hK : ∀ (v0 : Int32) (s1 : ST), Fr fs7 s0 s1 → K v0 s1 → K' v0 s1) : ∀ (n : Nat) (x1 : Nat) (x2 : Int32) (x3 : Int32) (x4 : Int32) (s : ST), Fr fs7 s0 s → w_55_L2 n x1 x2 x3 x4 s X31 X27 K → w_55_L2 n x1 x2 x3 x4 s X31' X27' K' := by
  intro n
  induction n with
  | zero => intro x1 x2 x3 x4 s f h; exact h.elim
  | succ n ih =>
    intro x1 x2 x3 x4 s f h
    rw [w_55_L2] at h
    rw [w_55_L2]
    exact (Exists.elim h (fun v1 e1 => ⟨v1, ⟨e1.1, (Exists.elim e1.2 (fun f4 e2 => ⟨f4, ⟨e2.1, (fm_w_297 _ _ (fr_rfl _ _) e2.2 (fun r3 s2 gs2 h3 => ⟨(fun c4 => (hX31 _ (fr_tr fsb_0_7 f gs2) (h3.1 c4))), (fun c5 => (Exists.elim (h3.2 c5) (fun v5 e6 => ⟨v5, ⟨e6.1, (Exists.elim e6.2 (fun f8 e7 => ⟨f8, ⟨e7.1, (fm_w_299 _ _ _ (fr_rfl _ _) e7.2 (fun r7 s6 gs6 h8 => (Exists.elim h8 (fun f9 e9 => ⟨f9, ⟨e9.1, (Exists.elim e9.2 (fun v10 e10 => ⟨v10, ⟨e10.1, ⟨(fun c11 => (ih _ _ _ _ _ (fr_tr fsb_0_7 (fr_tr fsb_0_7 f gs2) gs6) (e10.2.1 c11))), (fun c12 => (fm_w_184 _ _ _ (fr_rfl _ _) (e10.2.2 c12) (fun r12 s11 gs11 h13 => ⟨(fun c14 => (ih _ _ _ _ _ (fr_tr fsb_0_7 (fr_tr fsb_0_7 (fr_tr fsb_0_7 f gs2) gs6) gs11) (h13.1 c14))), (fun c15 => (Exists.elim (h13.2 c15) (fun v13 e16 => ⟨v13, ⟨e16.1, (fm_w_21 _ _ (fr_rfl _ _) e16.2 (fun r15 s14 gs14 h17 => ⟨(fun c18 => (ih _ _ _ _ _ (fr_tr fsb_7_7 (fr_tr fsb_0_7 (fr_tr fsb_0_7 (fr_tr fsb_0_7 f gs2) gs6) gs11) gs14) (h17.1 c18))), (fun c19 => (hX27 _ (fr_tr fsb_7_7 (fr_tr fsb_0_7 (fr_tr fsb_0_7 (fr_tr fsb_0_7 f gs2) gs6) gs11) gs14) (h17.2 c19)))⟩))⟩⟩)))⟩)))⟩⟩⟩))⟩⟩))))⟩⟩))⟩⟩)))⟩))⟩⟩))⟩⟩))
theorem fm_w_55 {s0 : ST} {K K' : Int32 → ST → Prop} (p1 : Nat) (p2 : Int32) (p3 : Int32) (s : ST) (f : Fr fs7 s0 s) (h : w_55 p1 p2 p3 s K) (hK : ∀ (v0 : Int32) (s1 : ST), Fr fs7 s0 s1 → K v0 s1 → K' v0 s1) : w_55 p1 p2 p3 s K' := by
  unfold w_55 at h ⊢
  exact (Exists.elim h (fun m e1 => ⟨m, (fm_w_55_L2 (fun s16 gs16 h2 => (hK _ _ gs16 h2)) (fun s17 gs17 h3 => (hK _ _ gs17 h3)) hK m _ _ _ _ _ f e1)⟩))
theorem fm_w_53_L22 {s0 : ST} {X63 X63' : ST → Prop} {X59 X59' : Int32 → ST → Prop} {X51 X51' : ST → Prop} {K K' : Int32 → ST → Prop} (hX63 : ∀ (s1 : ST), Fr fs22 s0 s1 → X63 s1 → X63' s1) (hX59 : ∀ (v0 : Int32) (s1 : ST), Fr fs22 s0 s1 → X59 v0 s1 → X59' v0 s1) (hX51 : ∀ (s1 : ST), Fr fs22 s0 s1 → X51 s1 → X51' s1) (hK : ∀ (v0 : Int32) (s1 : ST), Fr fs22 s0 s1 → K v0 s1 → K' v0 s1) : ∀ (n : Nat) (x2 : Int32) (x3 : Int32) (s : ST), Fr fs22 s0 s → w_53_L22 n x2 x3 s X63 X59 X51 K → w_53_L22 n x2 x3 s X63' X59' X51' K' := by
  intro n
  induction n with
  | zero => intro x2 x3 s f h; exact h.elim
  | succ n ih =>
    intro x2 x3 s f h
    rw [w_53_L22] at h
    rw [w_53_L22]
    exact ⟨(fun c1 => (hX63 _ f (h.1 c1))), (fun c2 => (fm_w_299_R20 _ _ (fr_rfl _ _) (h.2 c2) (fun r10 s9 gs9 h3 => (Exists.elim h3 (fun f11 e4 => ⟨f11, ⟨e4.1, (Exists.elim e4.2 (fun f14 e5 => ⟨f14, ⟨e5.1, (fm_w_108 _ _ _ (fr_rfl _ _) e5.2 (fun r13 s12 gs12 h6 => ⟨(fun c7 => (ih _ _ _ (fr_tr fsb_0_22 (fr_tr fsb_0_22 f gs9) gs12) (h6.1 c7))), (fun c8 => ⟨(h6.2 c8).1, (fm_w_54 _ _ _ _ _ (fr_rfl _ _) (h6.2 c8).2 (fun s15 gs15 h9 => (fm_w_55 _ _ _ _ (fr_rfl _ _) h9 (fun r18 s17 gs17 h10 => ⟨(fun c11 => (fm_w_55 _ _ _ _ (fr_rfl _ _) (h10.1 c11) (fun r20 s19 gs19 h12 => ⟨(fun c13 => (ih _ _ _ (fr_tr fsb_7_22 (fr_tr fsb_7_22 (fr_tr fsb_21_22 (fr_tr fsb_0_22 (fr_tr fsb_0_22 f gs9) gs12) gs15) gs17) gs19) (h12.1 c13))), (fun c14 => (hX59 _ _ (fr_tr fsb_7_22 (fr_tr fsb_7_22 (fr_tr fsb_21_22 (fr_tr fsb_0_22 (fr_tr fsb_0_22 f gs9) gs12) gs15) gs17) gs19) (h12.2 c14)))⟩))), (fun c15 => (hX51 _ (fr_tr fsb_7_22 (fr_tr fsb_21_22 (fr_tr fsb_0_22 (fr_tr fsb_0_22 f gs9) gs12) gs15) gs17) (h10.2 c15)))⟩))))⟩)⟩))⟩⟩))⟩⟩)))))⟩
theorem fm_w_53 {s0 : ST} {K K' : Int32 → ST → Prop} (p1 : Int32) (s : ST) (f : Fr fs22 s0 s) (h : w_53 p1 s K) (hK : ∀ (v0 : Int32) (s1 : ST), Fr fs22 s0 s1 → K v0 s1 → K' v0 s1) : w_53 p1 s K' := by
  unfold w_53 at h ⊢
  exact (fm_w_302_R21 _ _ (fr_rfl _ _) h (fun s1 gs1 h1 => (fm_w_20 _ _ (fr_rfl _ _) h1 (fun s3 gs3 h2 => (fm_w_9 _ _ _ (fr_rfl _ _) h2 (fun r6 s5 gs5 h3 => (fm_w_297_R20 _ (fr_rfl _ _) h3 (fun r8 s7 gs7 h4 => (Exists.elim h4 (fun m e5 => ⟨m, (fm_w_53_L22 (fun s21 gs21 h6 => (hK _ _ gs21 h6)) (fun y3 s22 gs22 h7 => (hK _ _ gs22 h7)) (fun s23 gs23 h8 => (hK _ _ gs23 h8)) hK m _ _ _ (fr_tr fsb_0_22 (fr_tr fsb_0_22 (fr_tr fsb_6_22 (fr_tr fsb_21_22 f gs1) gs3) gs5) gs7) e5)⟩))))))))))
theorem fm_w_56 {s0 : ST} {K K' : Int32 → ST → Prop} (p1 : Int32) (s : ST) (f : Fr fs22 s0 s) (h : w_56 p1 s K) (hK : ∀ (v0 : Int32) (s1 : ST), Fr fs22 s0 s1 → K v0 s1 → K' v0 s1) : w_56 p1 s K' := by
  unfold w_56 at h ⊢
  exact (fm_w_9 _ _ _ (fr_rfl _ _) h (fun r2 s1 gs1 h1 => ⟨(fun c2 => (fm_w_118 _ _ (fr_rfl _ _) (h1.1 c2) (fun r4 s3 gs3 h3 => ⟨(fun c4 => (hK _ _ (fr_tr fsb_0_22 (fr_tr fsb_0_22 f gs1) gs3) (h3.1 c4))), (fun c5 => (fm_w_53 _ _ (fr_rfl _ _) (h3.2 c5) (fun r6 s5 gs5 h6 => ⟨(fun c7 => (hK _ _ (fr_tr fsb_22_22 (fr_tr fsb_0_22 (fr_tr fsb_0_22 f gs1) gs3) gs5) (h6.1 c7))), (fun c8 => (hK _ _ (fr_tr fsb_22_22 (fr_tr fsb_0_22 (fr_tr fsb_0_22 f gs1) gs3) gs5) (h6.2 c8)))⟩)))⟩))), (fun c9 => ⟨(fun c10 => (fm_w_118 _ _ (fr_rfl _ _) ((h1.2 c9).1 c10) (fun r8 s7 gs7 h11 => ⟨(fun c12 => (hK _ _ (fr_tr fsb_0_22 (fr_tr fsb_0_22 f gs1) gs7) (h11.1 c12))), (fun c13 => (fm_w_53 _ _ (fr_rfl _ _) (h11.2 c13) (fun r10 s9 gs9 h14 => ⟨(fun c15 => (hK _ _ (fr_tr fsb_22_22 (fr_tr fsb_0_22 (fr_tr fsb_0_22 f gs1) gs7) gs9) (h14.1 c15))), (fun c16 => (hK _ _ (fr_tr fsb_22_22 (fr_tr fsb_0_22 (fr_tr fsb_0_22 f gs1) gs7) gs9) (h14.2 c16)))⟩)))⟩))), (fun c17 => (fm_w_118 _ _ (fr_rfl _ _) ((h1.2 c9).2 c17) (fun r12 s11 gs11 h18 => ⟨(fun c19 => (hK _ _ (fr_tr fsb_0_22 (fr_tr fsb_0_22 f gs1) gs11) (h18.1 c19))), (fun c20 => (hK _ _ (fr_tr fsb_0_22 (fr_tr fsb_0_22 f gs1) gs11) (h18.2 c20)))⟩)))⟩)⟩))
theorem fm_w_57_L4 {s0 : ST} {X19 X19' : Int32 → ST → Prop} {K K' : Int32 → ST → Prop} (hX19 : ∀ (v0 : Int32) (s1 : ST), Fr fs22 s0 s1 → X19 v0 s1 → X19' v0 s1) (hK : ∀ (v0 : Int32) (s1 : ST), Fr fs22 s0 s1 → K v0 s1 → K' v0 s1) : ∀ (n : Nat) (x1 : Int32) (x2 : Int32) (s : ST), Fr fs22 s0 s → w_57_L4 n x1 x2 s X19 K → w_57_L4 n x1 x2 s X19' K' := by
  intro n
  induction n with
  | zero => intro x1 x2 s f h; exact h.elim
  | succ n ih =>
    intro x1 x2 s f h
    rw [w_57_L4] at h
    rw [w_57_L4]
    exact ⟨(fun c1 => (hX19 _ _ f (h.1 c1))), (fun c2 => (fm_w_123 _ _ (fr_rfl _ _) (h.2 c2) (fun r2 s1 gs1 h3 => (fm_w_56 _ _ (fr_rfl _ _) h3 (fun r4 s3 gs3 h4 => ⟨(fun c5 => (ih _ _ _ (fr_tr fsb_22_22 (fr_tr fsb_0_22 f gs1) gs3) (h4.1 c5))), (fun c6 => (ih _ _ _ (fr_tr fsb_22_22 (fr_tr fsb_0_22 f gs1) gs3) (h4.2 c6)))⟩)))))⟩
theorem fm_w_57 {s0 : ST} {K K' : Int32 → ST → Prop} (s : ST) (f : Fr fs22 s0 s) (h : w_57  s K) (hK : ∀ (v0 : Int32) (s1 : ST), Fr fs22 s0 s1 → K v0 s1 → K' v0 s1) : w_57  s K' := by
  unfold w_57 at h ⊢
  exact (Exists.elim h (fun m e1 => ⟨m, (fm_w_57_L4 (fun y1 s5 gs5 h2 => (hK _ _ gs5 h2)) hK m _ _ _ f e1)⟩))
theorem fm_w_59 {s0 : ST} {K K' : ST → Prop} (p1 : Int32) (s : ST) (f : Fr fs23 s0 s) (h : w_59 p1 s K) (hK : ∀ (s1 : ST), Fr fs23 s0 s1 → K s1 → K' s1) : w_59 p1 s K' := by
  unfold w_59 at h ⊢
  exact (hK _ (fr_sI 3506 (fr_sI 3505 (fr_sI 3504 (fr_sI 3502 f)))) h)
theorem fm_w_60 {s0 : ST} {K K' : Int32 → ST → Prop} (s : ST) (f : Fr fs0 s0 s) (h : w_60  s K) (hK : ∀ (v0 : Int32) (s1 : ST), Fr fs0 s0 s1 → K v0 s1 → K' v0 s1) : w_60  s K' := by
  unfold w_60 at h ⊢
  exact ⟨(fun c1 => (hK _ _ f (h.1 c1))), (fun c2 => (hK _ _ f (h.2 c2)))⟩
theorem fm_w_61 {s0 : ST} {K K' : Int32 → ST → Prop} (s : ST) (f : Fr fs0 s0 s) (h : w_61  s K) (hK : ∀ (v0 : Int32) (s1 : ST), Fr fs0 s0 s1 → K v0 s1 → K' v0 s1) : w_61  s K' := by
  unfold w_61 at h ⊢
  exact (hK _ _ f h)
theorem fm_w_107 {s0 : ST} {K K' : ST → Prop} (p0 : Nat) (p1 : Int32) (p2 : Int32) (s : ST) (f : Fr fs20 s0 s) (h : w_107 p0 p1 p2 s K) (hK : ∀ (s1 : ST), Fr fs20 s0 s1 → K s1 → K' s1) : w_107 p0 p1 p2 s K' := by
  unfold w_107 at h ⊢
  exact (fm_w_294 _ _ (fr_rfl _ _) h (fun s1 gs1 h1 => (Exists.elim h1 (fun f3 e2 => ⟨f3, ⟨e2.1, e2.2.1, (Exists.elim e2.2.2 (fun f4 e3 => ⟨f4, ⟨e3.1, e3.2.1, (Exists.elim e3.2.2 (fun f5 e4 => ⟨f5, ⟨e4.1, e4.2.1, (hK _ (fr_sD (fr_tr fsb_20_20 (fr_sD f) gs1)) e4.2.2)⟩⟩))⟩⟩))⟩⟩))))
theorem fm_w_81 {s0 : ST} {K K' : Int32 → ST → Prop} (s : ST) (f : Fr fs0 s0 s) (h : w_81  s K) (hK : ∀ (v0 : Int32) (s1 : ST), Fr fs0 s0 s1 → K v0 s1 → K' v0 s1) : w_81  s K' := by
  unfold w_81 at h ⊢
  exact ⟨(fun c1 => (hK _ _ f (h.1 c1))), (fun c2 => ⟨(fun c3 => (hK _ _ f ((h.2 c2).1 c3))), (fun c4 => ⟨(fun c5 => (hK _ _ f (((h.2 c2).2 c4).1 c5))), (fun c6 => ⟨(((h.2 c2).2 c4).2 c6).1, (hK _ _ f (((h.2 c2).2 c4).2 c6).2)⟩)⟩)⟩)⟩
theorem fm_w_85 {s0 : ST} {K K' : ST → Prop} (p1 : Int32) (p2 : Int32) (s : ST) (f : Fr fs24 s0 s) (h : w_85 p1 p2 s K) (hK : ∀ (s1 : ST), Fr fs24 s0 s1 → K s1 → K' s1) : w_85 p1 p2 s K' := by
  unfold w_85 at h ⊢
  exact ⟨(fun c1 => (hK _ f (h.1 c1))), (fun c2 => (hK _ (fr_sI 3506 (fr_sI 3505 f)) (h.2 c2)))⟩
theorem fm_w_83 {s0 : ST} {K K' : ST → Prop} (p1 : Int32) (s : ST) (f : Fr fs25 s0 s) (h : w_83 p1 s K) (hK : ∀ (s1 : ST), Fr fs25 s0 s1 → K s1 → K' s1) : w_83 p1 s K' := by
  unfold w_83 at h ⊢
  exact (fm_w_81 _ (fr_rfl _ _) h (fun r2 s1 gs1 h1 => ⟨(fun c2 => (fm_w_85 _ _ _ (fr_rfl _ _) (h1.1 c2) (fun s3 gs3 h3 => (hK _ (fr_tr fsb_24_25 (fr_tr fsb_0_25 f gs1) gs3) h3)))), (fun c4 => (hK _ (fr_sI 3504 (fr_tr fsb_0_25 f gs1)) (h1.2 c4)))⟩))
theorem fm_w_82 {s0 : ST} {K K' : Int32 → ST → Prop} (p1 : Int32) (s : ST) (f : Fr fs26 s0 s) (h : w_82 p1 s K) (hK : ∀ (v0 : Int32) (s1 : ST), Fr fs26 s0 s1 → K v0 s1 → K' v0 s1) : w_82 p1 s K' := by
  unfold w_82 at h ⊢
  exact (fm_w_81 _ (fr_rfl _ _) h (fun r2 s1 gs1 h1 => ⟨(fun c2 => (hK _ _ (fr_sI 3504 (fr_tr fsb_0_26 f gs1)) (h1.1 c2))), (fun c3 => (hK _ _ (fr_tr fsb_0_26 f gs1) (h1.2 c3)))⟩))
theorem fm_w_86 {s0 : ST} {K K' : Int32 → ST → Prop} (p1 : Int32) (p2 : Int32) (s : ST) (f : Fr fs27 s0 s) (h : w_86 p1 p2 s K) (hK : ∀ (v0 : Int32) (s1 : ST), Fr fs27 s0 s1 → K v0 s1 → K' v0 s1) : w_86 p1 p2 s K' := by
  unfold w_86 at h ⊢
  exact ⟨(fun c1 => ⟨(h.1 c1).1, (hK _ _ (fr_sA 36 (fr_sI 3503 f)) (h.1 c1).2)⟩), (fun c2 => (hK _ _ f (h.2 c2)))⟩
theorem fm_w_87 {s0 : ST} {K K' : ST → Prop} (p1 : Int32) (p2 : Int32) (s : ST) (f : Fr fs28 s0 s) (h : w_87 p1 p2 s K) (hK : ∀ (s1 : ST), Fr fs28 s0 s1 → K s1 → K' s1) : w_87 p1 p2 s K' := by
  unfold w_87 at h ⊢
  exact (fm_w_181 _ _ _ _ (fr_rfl _ _) h (fun r2 s1 gs1 h1 => ⟨(fun c2 => (hK _ (fr_tr fsb_0_28 f gs1) (h1.1 c2))), (fun c3 => ⟨(h1.2 c3).1, (hK _ (fr_sA 36 (fr_tr fsb_0_28 f gs1)) (h1.2 c3).2)⟩)⟩))
theorem fm_w_72 {s0 : ST} {K K' : Int32 → ST → Prop} (p1 : Int32) (s : ST) (f : Fr fs24 s0 s) (h : w_72 p1 s K) (hK : ∀ (v0 : Int32) (s1 : ST), Fr fs24 s0 s1 → K v0 s1 → K' v0 s1) : w_72 p1 s K' := by
  unfold w_72 at h ⊢
  exact ⟨(fun c1 => (fm_w_85 _ _ _ (fr_rfl _ _) (h.1 c1) (fun s1 gs1 h2 => (hK _ _ (fr_tr fsb_24_24 f gs1) h2)))), (fun c3 => (hK _ _ f (h.2.1 c3))), (fun c4 => (hK _ _ f (h.2.2.1 c4))), (fun c5 => (hK _ _ f (h.2.2.2 c5)))⟩
theorem fm_w_80 {s0 : ST} {K K' : Int32 → ST → Prop} (p1 : Int32) (s : ST) (f : Fr fs25 s0 s) (h : w_80 p1 s K) (hK : ∀ (v0 : Int32) (s1 : ST), Fr fs25 s0 s1 → K v0 s1 → K' v0 s1) : w_80 p1 s K' := by
  unfold w_80 at h ⊢
  exact ⟨(fun c1 => (hK _ _ (fr_sI 3504 f) (h.1 c1))), (fun c2 => (fm_w_85 _ _ _ (fr_rfl _ _) (h.2 c2) (fun s1 gs1 h3 => (hK _ _ (fr_tr fsb_24_25 f gs1) h3))))⟩
theorem fm_w_75 {s0 : ST} {K K' : Int32 → ST → Prop} (p0 : Int32) (s : ST) (f : Fr fs0 s0 s) (h : w_75 p0 s K) (hK : ∀ (v0 : Int32) (s1 : ST), Fr fs0 s0 s1 → K v0 s1 → K' v0 s1) : w_75 p0 s K' := by
  unfold w_75 at h ⊢
  exact ⟨(fun c1 => (hK _ _ f (h.1 c1))), (fun c2 => ⟨(fun c3 => (hK _ _ f ((h.2 c2).1 c3))), (fun c4 => ⟨(fun c5 => (hK _ _ f (((h.2 c2).2 c4).1 c5))), (fun c6 => (hK _ _ f (((h.2 c2).2 c4).2 c6)))⟩)⟩)⟩
theorem fm_w_288_F2 {s0 : ST} {K K' : Int32 → ST → Prop} (s : ST) (f : Fr fs0 s0 s) (h : w_288_F2  s K) (hK : ∀ (v0 : Int32) (s1 : ST), Fr fs0 s0 s1 → K v0 s1 → K' v0 s1) : w_288_F2  s K' := by
  unfold w_288_F2 at h ⊢
  exact (hK _ _ f h)
theorem fm_w_287_F2 {s0 : ST} {K K' : Int32 → ST → Prop} (s : ST) (f : Fr fs0 s0 s) (h : w_287_F2  s K) (hK : ∀ (v0 : Int32) (s1 : ST), Fr fs0 s0 s1 → K v0 s1 → K' v0 s1) : w_287_F2  s K' := by
  unfold w_287_F2 at h ⊢
  exact (hK _ _ f h)
theorem fm_w_284_F2 {s0 : ST} {K K' : Int32 → ST → Prop} (s : ST) (f : Fr fs0 s0 s) (h : w_284_F2  s K) (hK : ∀ (v0 : Int32) (s1 : ST), Fr fs0 s0 s1 → K v0 s1 → K' v0 s1) : w_284_F2  s K' := by
  unfold w_284_F2 at h ⊢
  exact (fm_w_287_F2 _ (fr_rfl _ _) h (fun r2 s1 gs1 h1 => (hK _ _ (fr_tr fsb_0_0 f gs1) h1)))
theorem fm_w_289 {s0 : ST} {K K' : Int32 → ST → Prop} (p0 : Int32) (s : ST) (f : Fr fs0 s0 s) (h : w_289 p0 s K) (hK : ∀ (v0 : Int32) (s1 : ST), Fr fs0 s0 s1 → K v0 s1 → K' v0 s1) : w_289 p0 s K' := by
  unfold w_289 at h ⊢
  exact ⟨(fun c1 => (hK _ _ f (h.1 c1))), (fun c2 => ⟨(fun c3 => (hK _ _ f ((h.2 c2).1 c3))), (fun c4 => (hK _ _ f ((h.2 c2).2 c4)))⟩)⟩
theorem fm_w_291_F3_L5 {s0 : ST} {X17 X17' : ST → Prop} {X13 X13' : Int32 → ST → Prop} {K K' : Int32 → ST → Prop} (hX17 : ∀ (s1 : ST), Fr fs0 s0 s1 → X17 s1 → X17' s1) (hX13 : ∀ (v0 : Int32) (s1 : ST), Fr fs0 s0 s1 → X13 v0 s1 → X13' v0 s1) (hK : ∀ (v0 : Int32) (s1 : ST), Fr fs0 s0 s1 → K v0 s1 → K' v0 s1) : ∀ (n : Nat) (x3 : Int32) (x4 : Int32) (x5 : Int32) (s : ST), Fr fs0 s0 s → w_291_F3_L5 n x3 x4 x5 s X17 X13 K → w_291_F3_L5 n x3 x4 x5 s X17' X13' K' := by
  intro n
  induction n with
  | zero => intro x3 x4 x5 s f h; exact h.elim
  | succ n ih =>
    intro x3 x4 x5 s f h
    rw [w_291_F3_L5] at h
    rw [w_291_F3_L5]
    exact ⟨(fun c1 => (hX17 _ f (h.1 c1))), (fun c2 => ⟨(h.2 c2).1, ⟨(fun c3 => (ih _ _ _ _ f ((h.2 c2).2.1 c3))), (fun c4 => (hX13 _ _ f ((h.2 c2).2.2 c4)))⟩⟩)⟩
theorem fm_w_291_F3 {s0 : ST} {K K' : Int32 → ST → Prop} (p1 : Int32) (p2 : Int32) (p3 : Int32) (s : ST) (f : Fr fs0 s0 s) (h : w_291_F3 p1 p2 p3 s K) (hK : ∀ (v0 : Int32) (s1 : ST), Fr fs0 s0 s1 → K v0 s1 → K' v0 s1) : w_291_F3 p1 p2 p3 s K' := by
  unfold w_291_F3 at h ⊢
  exact (Exists.elim h (fun m e1 => ⟨m, (fm_w_291_F3_L5 (fun s1 gs1 h2 => (hK _ _ gs1 h2)) (fun y5 s2 gs2 h3 => (hK _ _ gs2 h3)) hK m _ _ _ _ f e1)⟩))
theorem fm_w_290_F3 {s0 : ST} {K K' : Int32 → ST → Prop} (p1 : Int32) (p2 : Int32) (p3 : Int32) (s : ST) (f : Fr fs0 s0 s) (h : w_290_F3 p1 p2 p3 s K) (hK : ∀ (v0 : Int32) (s1 : ST), Fr fs0 s0 s1 → K v0 s1 → K' v0 s1) : w_290_F3 p1 p2 p3 s K' := by
  unfold w_290_F3 at h ⊢
  exact (fm_w_289 _ _ (fr_rfl _ _) h (fun r2 s1 gs1 h1 => ⟨(fun c2 => ⟨(fun c3 => (fm_w_291_F3 _ _ _ _ (fr_rfl _ _) ((h1.1 c2).1 c3) (fun r4 s3 gs3 h4 => (hK _ _ (fr_tr fsb_0_0 (fr_tr fsb_0_0 f gs1) gs3) h4)))), (fun c5 => (hK _ _ (fr_tr fsb_0_0 f gs1) ((h1.1 c2).2 c5)))⟩), (fun c6 => (hK _ _ (fr_tr fsb_0_0 f gs1) (h1.2 c6)))⟩))
theorem fm_w_286_F2 {s0 : ST} {K K' : Int32 → ST → Prop} (p1 : Int32) (p2 : Int32) (s : ST) (f : Fr fs0 s0 s) (h : w_286_F2 p1 p2 s K) (hK : ∀ (v0 : Int32) (s1 : ST), Fr fs0 s0 s1 → K v0 s1 → K' v0 s1) : w_286_F2 p1 p2 s K' := by
  unfold w_286_F2 at h ⊢
  exact (fm_w_288_F2 _ (fr_rfl _ _) h (fun r2 s1 gs1 h1 => ⟨(fun c2 => (fm_w_284_F2 _ (fr_rfl _ _) (h1.1 c2) (fun r4 s3 gs3 h3 => h3))), (fun c4 => (fm_w_284_F2 _ (fr_rfl _ _) (h1.2 c4) (fun r6 s5 gs5 h5 => (fm_w_290_F3 _ _ _ _ (fr_rfl _ _) h5 (fun r8 s7 gs7 h6 => (hK _ _ (fr_tr fsb_0_0 (fr_tr fsb_0_0 (fr_tr fsb_0_0 f gs1) gs5) gs7) h6))))))⟩))
theorem fm_w_285_F2 {s0 : ST} {K K' : Int32 → ST → Prop} (p1 : Int32) (s : ST) (f : Fr fs0 s0 s) (h : w_285_F2 p1 s K) (hK : ∀ (v0 : Int32) (s1 : ST), Fr fs0 s0 s1 → K v0 s1 → K' v0 s1) : w_285_F2 p1 s K' := by
  unfold w_285_F2 at h ⊢
  exact (fm_w_286_F2 _ _ _ (fr_rfl _ _) h (fun r2 s1 gs1 h1 => (hK _ _ (fr_tr fsb_0_0 f gs1) h1)))
theorem fm_w_79 {s0 : ST} {K K' : Int32 → ST → Prop} (p0 : Int32) (s : ST) (f : Fr fs0 s0 s) (h : w_79 p0 s K) (hK : ∀ (v0 : Int32) (s1 : ST), Fr fs0 s0 s1 → K v0 s1 → K' v0 s1) : w_79 p0 s K' := by
  unfold w_79 at h ⊢
  exact ⟨(fun c1 => (hK _ _ f (h.1 c1))), (fun c2 => ⟨(fun c3 => (hK _ _ f ((h.2 c2).1 c3))), (fun c4 => (hK _ _ f ((h.2 c2).2 c4)))⟩)⟩
theorem fm_w_77_L13 {s0 : ST} {X37 X37' : Int32 → ST → Prop} {K K' : Int32 → ST → Prop} (hX37 : ∀ (v0 : Int32) (s1 : ST), Fr fs25 s0 s1 → X37 v0 s1 → X37' v0 s1) (hK : ∀ (v0 : Int32) (s1 : ST), Fr fs25 s0 s1 → K v0 s1 → K' v0 s1) : ∀ (n : Nat) (x1 : Int32) (x2 : Int32) (s : ST), Fr fs25 s0 s → w_77_L13 n x1 x2 s X37 K → w_77_L13 n x1 x2 s X37' K' := by
  intro n
  induction n with
  | zero => intro x1 x2 s f h; exact h.elim
  | succ n ih =>
    intro x1 x2 s f h
    rw [w_77_L13] at h
    rw [w_77_L13]
    exact ⟨(fun c1 => (hX37 _ _ f (h.1 c1))), (fun c2 => (fm_w_81 _ (fr_rfl _ _) (h.2 c2) (fun r6 s5 gs5 h3 => (fm_w_79 _ _ (fr_rfl _ _) h3 (fun r8 s7 gs7 h4 => ⟨(fun c5 => (hX37 _ _ (fr_tr fsb_0_25 (fr_tr fsb_0_25 f gs5) gs7) (h4.1 c5))), (fun c6 => (fm_w_81 _ (fr_rfl _ _) (h4.2 c6) (fun r10 s9 gs9 h7 => (ih _ _ _ (fr_sI 3504 (fr_tr fsb_0_25 (fr_tr fsb_0_25 (fr_tr fsb_0_25 f gs5) gs7) gs9)) h7))))⟩)))))⟩
theorem fm_w_77 {s0 : ST} {K K' : Int32 → ST → Prop} (s : ST) (f : Fr fs25 s0 s) (h : w_77  s K) (hK : ∀ (v0 : Int32) (s1 : ST), Fr fs25 s0 s1 → K v0 s1 → K' v0 s1) : w_77  s K' := by
  unfold w_77 at h ⊢
  exact (fm_w_81 _ (fr_rfl _ _) h (fun r2 s1 gs1 h1 => (fm_w_79 _ _ (fr_rfl _ _) h1 (fun r4 s3 gs3 h2 => ⟨(fun c3 => (Exists.elim (h2.1 c3) (fun m e4 => ⟨m, (fm_w_77_L13 (fun y1 s11 gs11 h5 => (fm_w_81 _ (fr_rfl _ _) h5 (fun r13 s12 gs12 h6 => (fm_w_79 _ _ (fr_rfl _ _) h6 (fun r15 s14 gs14 h7 => ⟨(fun c8 => (hK _ _ (fr_tr fsb_0_25 (fr_tr fsb_0_25 gs11 gs12) gs14) (h7.1 c8))), (fun c9 => (fm_w_85 _ _ _ (fr_rfl _ _) (h7.2 c9) (fun s16 gs16 h10 => (hK _ _ (fr_tr fsb_24_25 (fr_tr fsb_0_25 (fr_tr fsb_0_25 gs11 gs12) gs14) gs16) h10))))⟩))))) hK m _ _ _ (fr_tr fsb_0_25 (fr_tr fsb_0_25 f gs1) gs3) e4)⟩))), (fun c11 => (fm_w_85 _ _ _ (fr_rfl _ _) (h2.2 c11) (fun s18 gs18 h12 => (Exists.elim h12 (fun m e13 => ⟨m, (fm_w_77_L13 (fun y1 s20 gs20 h14 => (fm_w_81 _ (fr_rfl _ _) h14 (fun r22 s21 gs21 h15 => (fm_w_79 _ _ (fr_rfl _ _) h15 (fun r24 s23 gs23 h16 => ⟨(fun c17 => (hK _ _ (fr_tr fsb_0_25 (fr_tr fsb_0_25 gs20 gs21) gs23) (h16.1 c17))), (fun c18 => (fm_w_85 _ _ _ (fr_rfl _ _) (h16.2 c18) (fun s25 gs25 h19 => (hK _ _ (fr_tr fsb_24_25 (fr_tr fsb_0_25 (fr_tr fsb_0_25 gs20 gs21) gs23) gs25) h19))))⟩))))) hK m _ _ _ (fr_tr fsb_24_25 (fr_tr fsb_0_25 (fr_tr fsb_0_25 f gs1) gs3) gs18) e13)⟩)))))⟩))))
theorem fm_w_69_L5 {s0 : ST} {X27 X27' : ST → Prop} {K K' : ST → Prop} {R : Nat → Int32 → ST → (ST → Prop) → Prop} (hR : ∀ (b0 : Nat) (b1 : Int32) (b2 : ST) {K K' : ST → Prop} {s0 : ST}, Fr fs29 s0 b2 → R b0 b1 b2 K → (∀ (s1 : ST), Fr fs29 s0 s1 → K s1 → K' s1) → R b0 b1 b2 K') (hX27 : ∀ (s1 : ST), Fr fs29 s0 s1 → X27 s1 → X27' s1) (hK : ∀ (s1 : ST), Fr fs29 s0 s1 → K s1 → K' s1) : ∀ (n : Nat) (x1 : Int32) (x2 : Int32) (s : ST), Fr fs29 s0 s → w_69_L5 R n x1 x2 s X27 K → w_69_L5 R n x1 x2 s X27' K' := by
  intro n
  induction n with
  | zero => intro x1 x2 s f h; exact h.elim
  | succ n ih =>
    intro x1 x2 s f h
    rw [w_69_L5] at h
    rw [w_69_L5]
    exact ⟨(fun c1 => (hX27 _ f (h.1 c1))), (fun c2 => (fm_w_82 _ _ (fr_rfl _ _) (h.2 c2) (fun r4 s3 gs3 h3 => ⟨(fun c4 => (hX27 _ (fr_tr fsb_26_29 f gs3) (h3.1 c4))), (fun c5 => (fm_w_86 _ _ _ (fr_rfl _ _) (h3.2 c5) (fun r6 s5 gs5 h6 => (hR _ _ _ (fr_rfl _ _) h6 (fun s7 gs7 h7 => (fm_w_87 _ _ _ (fr_rfl _ _) h7 (fun s9 gs9 h8 => (ih _ _ _ (fr_tr fsb_28_29 (fr_tr fsb_29_29 (fr_tr fsb_27_29 (fr_tr fsb_26_29 f gs3) gs5) gs7) gs9) h8))))))))⟩)))⟩
theorem fm_o_69 {s0 : ST} {K K' : ST → Prop} {R : Nat → Int32 → ST → (ST → Prop) → Prop} (hR : ∀ (b0 : Nat) (b1 : Int32) (b2 : ST) {K K' : ST → Prop} {s0 : ST}, Fr fs29 s0 b2 → R b0 b1 b2 K → (∀ (s1 : ST), Fr fs29 s0 s1 → K s1 → K' s1) → R b0 b1 b2 K') (p1 : Int32) (s : ST) (f : Fr fs29 s0 s) (h : o_69 R p1 s K) (hK : ∀ (s1 : ST), Fr fs29 s0 s1 → K s1 → K' s1) : o_69 R p1 s K' := by
  unfold o_69 at h ⊢
  exact (hR _ _ _ (fr_rfl _ _) h (fun s1 gs1 h1 => (Exists.elim h1 (fun m e2 => ⟨m, (fm_w_69_L5 hR (fun s11 gs11 h3 => (hK _ gs11 h3)) hK m _ _ _ (fr_tr fsb_29_29 f gs1) e2)⟩))))
theorem fm_w_70_L5 {s0 : ST} {X27 X27' : ST → Prop} {K K' : ST → Prop} {R : Nat → Int32 → ST → (ST → Prop) → Prop} (hR : ∀ (b0 : Nat) (b1 : Int32) (b2 : ST) {K K' : ST → Prop} {s0 : ST}, Fr fs29 s0 b2 → R b0 b1 b2 K → (∀ (s1 : ST), Fr fs29 s0 s1 → K s1 → K' s1) → R b0 b1 b2 K') (hX27 : ∀ (s1 : ST), Fr fs29 s0 s1 → X27 s1 → X27' s1) (hK : ∀ (s1 : ST), Fr fs29 s0 s1 → K s1 → K' s1) : ∀ (n : Nat) (x1 : Int32) (x2 : Int32) (s : ST), Fr fs29 s0 s → w_70_L5 R n x1 x2 s X27 K → w_70_L5 R n x1 x2 s X27' K' := by
  intro n
  induction n with
  | zero => intro x1 x2 s f h; exact h.elim
  | succ n ih =>
    intro x1 x2 s f h
    rw [w_70_L5] at h
    rw [w_70_L5]
    exact ⟨(fun c1 => (hX27 _ f (h.1 c1))), (fun c2 => (fm_w_82 _ _ (fr_rfl _ _) (h.2 c2) (fun r4 s3 gs3 h3 => ⟨(fun c4 => (hX27 _ (fr_tr fsb_26_29 f gs3) (h3.1 c4))), (fun c5 => (fm_w_86 _ _ _ (fr_rfl _ _) (h3.2 c5) (fun r6 s5 gs5 h6 => (hR _ _ _ (fr_rfl _ _) h6 (fun s7 gs7 h7 => (fm_w_87 _ _ _ (fr_rfl _ _) h7 (fun s9 gs9 h8 => (ih _ _ _ (fr_tr fsb_28_29 (fr_tr fsb_29_29 (fr_tr fsb_27_29 (fr_tr fsb_26_29 f gs3) gs5) gs7) gs9) h8))))))))⟩)))⟩
theorem fm_o_70 {s0 : ST} {K K' : ST → Prop} {R : Nat → Int32 → ST → (ST → Prop) → Prop} (hR : ∀ (b0 : Nat) (b1 : Int32) (b2 : ST) {K K' : ST → Prop} {s0 : ST}, Fr fs29 s0 b2 → R b0 b1 b2 K → (∀ (s1 : ST), Fr fs29 s0 s1 → K s1 → K' s1) → R b0 b1 b2 K') (p1 : Int32) (s : ST) (f : Fr fs29 s0 s) (h : o_70 R p1 s K) (hK : ∀ (s1 : ST), Fr fs29 s0 s1 → K s1 → K' s1) : o_70 R p1 s K' := by
  unfold o_70 at h ⊢
  exact (hR _ _ _ (fr_rfl _ _) h (fun s1 gs1 h1 => (Exists.elim h1 (fun m e2 => ⟨m, (fm_w_70_L5 hR (fun s11 gs11 h3 => (hK _ gs11 h3)) hK m _ _ _ (fr_tr fsb_29_29 f gs1) e2)⟩))))
theorem fm_o_71 {s0 : ST} {K K' : ST → Prop} {R : Nat → Int32 → ST → (ST → Prop) → Prop} (hR : ∀ (b0 : Nat) (b1 : Int32) (b2 : ST) {K K' : ST → Prop} {s0 : ST}, Fr fs29 s0 b2 → R b0 b1 b2 K → (∀ (s1 : ST), Fr fs29 s0 s1 → K s1 → K' s1) → R b0 b1 b2 K') (p1 : Int32) (s : ST) (f : Fr fs29 s0 s) (h : o_71 R p1 s K) (hK : ∀ (s1 : ST), Fr fs29 s0 s1 → K s1 → K' s1) : o_71 R p1 s K' := by
  unfold o_71 at h ⊢
  exact (fm_w_81 _ (fr_rfl _ _) h (fun r2 s1 gs1 h1 => ⟨(fun c2 => ⟨(fun c3 => (hR _ _ _ (fr_rfl _ _) ((h1.1 c2).1 c3) (fun s3 gs3 h4 => (fm_w_81 _ (fr_rfl _ _) h4 (fun r6 s5 gs5 h5 => (fm_w_72 _ _ (fr_rfl _ _) h5 (fun r8 s7 gs7 h6 => (hR _ _ _ (fr_rfl _ _) h6 (fun s9 gs9 h7 => (fm_w_86 _ _ _ (fr_rfl _ _) h7 (fun r12 s11 gs11 h8 => (hK _ (fr_tr fsb_27_29 (fr_tr fsb_29_29 (fr_sI 3504 (fr_tr fsb_24_29 (fr_tr fsb_0_29 (fr_tr fsb_29_29 (fr_tr fsb_0_29 f gs1) gs3) gs5) gs7)) gs9) gs11) h8)))))))))))), (fun c9 => (fm_w_80 _ _ (fr_rfl _ _) ((h1.1 c2).2 c9) (fun r14 s13 gs13 h10 => ⟨(fun c11 => (hK _ (fr_tr fsb_25_29 (fr_tr fsb_0_29 f gs1) gs13) (h10.1 c11))), (fun c12 => (hR _ _ _ (fr_rfl _ _) (h10.2 c12) (fun s15 gs15 h13 => (fm_w_83 _ _ (fr_rfl _ _) h13 (fun s17 gs17 h14 => (hK _ (fr_tr fsb_25_29 (fr_tr fsb_29_29 (fr_tr fsb_25_29 (fr_tr fsb_0_29 f gs1) gs13) gs15) gs17) h14))))))⟩)))⟩), (fun c15 => (fm_w_80 _ _ (fr_rfl _ _) (h1.2 c15) (fun r20 s19 gs19 h16 => ⟨(fun c17 => (hK _ (fr_tr fsb_25_29 (fr_tr fsb_0_29 f gs1) gs19) (h16.1 c17))), (fun c18 => (hR _ _ _ (fr_rfl _ _) (h16.2 c18) (fun s21 gs21 h19 => (fm_w_86 _ _ _ (fr_rfl _ _) h19 (fun r24 s23 gs23 h20 => (hK _ (fr_tr fsb_27_29 (fr_tr fsb_29_29 (fr_tr fsb_25_29 (fr_tr fsb_0_29 f gs1) gs19) gs21) gs23) h20))))))⟩)))⟩))
theorem fm_w_73_L5 {s0 : ST} {X41 X41' : ST → Prop} {K K' : ST → Prop} {R : Nat → Int32 → ST → (ST → Prop) → Prop} (hR : ∀ (b0 : Nat) (b1 : Int32) (b2 : ST) {K K' : ST → Prop} {s0 : ST}, Fr fs29 s0 b2 → R b0 b1 b2 K → (∀ (s1 : ST), Fr fs29 s0 s1 → K s1 → K' s1) → R b0 b1 b2 K') (hX41 : ∀ (s1 : ST), Fr fs29 s0 s1 → X41 s1 → X41' s1) (hK : ∀ (s1 : ST), Fr fs29 s0 s1 → K s1 → K' s1) : ∀ (n : Nat) (x1 : Int32) (x2 : Int32) (s : ST), Fr fs29 s0 s → w_73_L5 R n x1 x2 s X41 K → w_73_L5 R n x1 x2 s X41' K' := by
  intro n
  induction n with
  | zero => intro x1 x2 s f h; exact h.elim
  | succ n ih =>
    intro x1 x2 s f h
    rw [w_73_L5] at h
    rw [w_73_L5]
    exact ⟨(fun c1 => (hX41 _ f (h.1 c1))), (fun c2 => (fm_w_81 _ (fr_rfl _ _) (h.2 c2) (fun r4 s3 gs3 h3 => ⟨(fun c4 => (fm_w_81 _ (fr_rfl _ _) (h3.1 c4) (fun r6 s5 gs5 h5 => ⟨(fun c6 => (hR _ _ _ (fr_rfl _ _) (h5.1 c6) (fun s7 gs7 h7 => (fm_w_86 _ _ _ (fr_rfl _ _) h7 (fun r10 s9 gs9 h8 => (ih _ _ _ (fr_tr fsb_27_29 (fr_tr fsb_29_29 (fr_sI 3504 (fr_tr fsb_0_29 (fr_tr fsb_0_29 f gs3) gs5)) gs7) gs9) h8)))))), (fun c9 => (hR _ _ _ (fr_rfl _ _) (h5.2 c9) (fun s11 gs11 h10 => (fm_w_86 _ _ _ (fr_rfl _ _) h10 (fun r14 s13 gs13 h11 => (ih _ _ _ (fr_tr fsb_27_29 (fr_tr fsb_29_29 (fr_sI 3504 (fr_tr fsb_0_29 (fr_tr fsb_0_29 f gs3) gs5)) gs11) gs13) h11))))))⟩))), (fun c12 => (fm_w_81 _ (fr_rfl _ _) (h3.2 c12) (fun r16 s15 gs15 h13 => ⟨(fun c14 => (hX41 _ (fr_tr fsb_0_29 (fr_tr fsb_0_29 f gs3) gs15) (h13.1 c14))), (fun c15 => (fm_w_81 _ (fr_rfl _ _) (h13.2 c15) (fun r18 s17 gs17 h16 => ⟨(fun c17 => (hR _ _ _ (fr_rfl _ _) (h16.1 c17) (fun s19 gs19 h18 => (fm_w_86 _ _ _ (fr_rfl _ _) h18 (fun r22 s21 gs21 h19 => (ih _ _ _ (fr_tr fsb_27_29 (fr_tr fsb_29_29 (fr_sI 3504 (fr_tr fsb_0_29 (fr_tr fsb_0_29 (fr_tr fsb_0_29 f gs3) gs15) gs17)) gs19) gs21) h19)))))), (fun c20 => (hR _ _ _ (fr_rfl _ _) (h16.2 c20) (fun s23 gs23 h21 => (fm_w_86 _ _ _ (fr_rfl _ _) h21 (fun r26 s25 gs25 h22 => (ih _ _ _ (fr_tr fsb_27_29 (fr_tr fsb_29_29 (fr_sI 3504 (fr_tr fsb_0_29 (fr_tr fsb_0_29 (fr_tr fsb_0_29 f gs3) gs15) gs17)) gs23) gs25) h22))))))⟩)))⟩)))⟩)))⟩
theorem fm_o_73 {s0 : ST} {K K' : ST → Prop} {R : Nat → Int32 → ST → (ST → Prop) → Prop} (hR : ∀ (b0 : Nat) (b1 : Int32) (b2 : ST) {K K' : ST → Prop} {s0 : ST}, Fr fs29 s0 b2 → R b0 b1 b2 K → (∀ (s1 : ST), Fr fs29 s0 s1 → K s1 → K' s1) → R b0 b1 b2 K') (p1 : Int32) (s : ST) (f : Fr fs29 s0 s) (h : o_73 R p1 s K) (hK : ∀ (s1 : ST), Fr fs29 s0 s1 → K s1 → K' s1) : o_73 R p1 s K' := by
  unfold o_73 at h ⊢
  exact (hR _ _ _ (fr_rfl _ _) h (fun s1 gs1 h1 => (Exists.elim h1 (fun m e2 => ⟨m, (fm_w_73_L5 hR (fun s27 gs27 h3 => (hK _ gs27 h3)) hK m _ _ _ (fr_tr fsb_29_29 f gs1) e2)⟩))))
theorem fm_w_74_L5 {s0 : ST} {X43 X43' : ST → Prop} {K K' : ST → Prop} {R : Nat → Int32 → ST → (ST → Prop) → Prop} (hR : ∀ (b0 : Nat) (b1 : Int32) (b2 : ST) {K K' : ST → Prop} {s0 : ST}, Fr fs29 s0 b2 → R b0 b1 b2 K → (∀ (s1 : ST), Fr fs29 s0 s1 → K s1 → K' s1) → R b0 b1 b2 K') (hX43 : ∀ (s1 : ST), Fr fs29 s0 s1 → X43 s1 → X43' s1) (hK : ∀ (s1 : ST), Fr fs29 s0 s1 → K s1 → K' s1) : ∀ (n : Nat) (x1 : Int32) (x2 : Int32) (s : ST), Fr fs29 s0 s → w_74_L5 R n x1 x2 s X43 K → w_74_L5 R n x1 x2 s X43' K' := by
  intro n
  induction n with
  | zero => intro x1 x2 s f h; exact h.elim
  | succ n ih =>
    intro x1 x2 s f h
    rw [w_74_L5] at h
    rw [w_74_L5]
    exact ⟨(fun c1 => (hX43 _ f (h.1 c1))), (fun c2 => (fm_w_81 _ (fr_rfl _ _) (h.2 c2) (fun r4 s3 gs3 h3 => (fm_w_75 _ _ (fr_rfl _ _) h3 (fun r6 s5 gs5 h4 => ⟨(fun c5 => (hX43 _ (fr_tr fsb_0_29 (fr_tr fsb_0_29 f gs3) gs5) (h4.1 c5))), (fun c6 => (fm_w_81 _ (fr_rfl _ _) (h4.2 c6) (fun r8 s7 gs7 h7 => ⟨(fun c8 => (fm_w_81 _ (fr_rfl _ _) (h7.1 c8) (fun r10 s9 gs9 h9 => ⟨(fun c10 => (hR _ _ _ (fr_rfl _ _) (h9.1 c10) (fun s11 gs11 h11 => (fm_w_86 _ _ _ (fr_rfl _ _) h11 (fun r14 s13 gs13 h12 => (ih _ _ _ (fr_tr fsb_27_29 (fr_tr fsb_29_29 (fr_sI 3504 (fr_tr fsb_0_29 (fr_tr fsb_0_29 (fr_tr fsb_0_29 (fr_tr fsb_0_29 f gs3) gs5) gs7) gs9)) gs11) gs13) h12)))))), (fun c13 => (hR _ _ _ (fr_rfl _ _) (h9.2 c13) (fun s15 gs15 h14 => (fm_w_86 _ _ _ (fr_rfl _ _) h14 (fun r18 s17 gs17 h15 => (ih _ _ _ (fr_tr fsb_27_29 (fr_tr fsb_29_29 (fr_sI 3504 (fr_tr fsb_0_29 (fr_tr fsb_0_29 (fr_tr fsb_0_29 (fr_tr fsb_0_29 f gs3) gs5) gs7) gs9)) gs15) gs17) h15))))))⟩))), (fun c16 => (hR _ _ _ (fr_rfl _ _) (h7.2 c16) (fun s19 gs19 h17 => (fm_w_86 _ _ _ (fr_rfl _ _) h17 (fun r22 s21 gs21 h18 => (ih _ _ _ (fr_tr fsb_27_29 (fr_tr fsb_29_29 (fr_sI 3504 (fr_tr fsb_0_29 (fr_tr fsb_0_29 (fr_tr fsb_0_29 f gs3) gs5) gs7)) gs19) gs21) h18))))))⟩)))⟩)))))⟩
theorem fm_o_74 {s0 : ST} {K K' : ST → Prop} {R : Nat → Int32 → ST → (ST → Prop) → Prop} (hR : ∀ (b0 : Nat) (b1 : Int32) (b2 : ST) {K K' : ST → Prop} {s0 : ST}, Fr fs29 s0 b2 → R b0 b1 b2 K → (∀ (s1 : ST), Fr fs29 s0 s1 → K s1 → K' s1) → R b0 b1 b2 K') (p1 : Int32) (s : ST) (f : Fr fs29 s0 s) (h : o_74 R p1 s K) (hK : ∀ (s1 : ST), Fr fs29 s0 s1 → K s1 → K' s1) : o_74 R p1 s K' := by
  unfold o_74 at h ⊢
  exact (hR _ _ _ (fr_rfl _ _) h (fun s1 gs1 h1 => (Exists.elim h1 (fun m e2 => ⟨m, (fm_w_74_L5 hR (fun s23 gs23 h3 => (hK _ gs23 h3)) hK m _ _ _ (fr_tr fsb_29_29 f gs1) e2)⟩))))
theorem fm_o_76 {s0 : ST} {K K' : ST → Prop} {R : Nat → Int32 → ST → (ST → Prop) → Prop} (hR : ∀ (b0 : Nat) (b1 : Int32) (b2 : ST) {K K' : ST → Prop} {s0 : ST}, Fr fs29 s0 b2 → R b0 b1 b2 K → (∀ (s1 : ST), Fr fs29 s0 s1 → K s1 → K' s1) → R b0 b1 b2 K') (p1 : Int32) (s : ST) (f : Fr fs29 s0 s) (h : o_76 R p1 s K) (hK : ∀ (s1 : ST), Fr fs29 s0 s1 → K s1 → K' s1) : o_76 R p1 s K' := by
  unfold o_76 at h ⊢
  exact (fm_w_81 _ (fr_rfl _ _) h (fun r2 s1 gs1 h1 => ⟨(fun c2 => (fm_w_285_F2 _ _ (fr_rfl _ _) (h1.1 c2) (fun r4 s3 gs3 h3 => ⟨(fun c4 => ⟨(fun c5 => (fm_w_77 _ (fr_rfl _ _) ((h3.1 c4).1 c5) (fun r6 s5 gs5 h6 => (fm_w_86 _ _ _ (fr_rfl _ _) h6 (fun r8 s7 gs7 h7 => (hK _ (fr_tr fsb_27_29 (fr_tr fsb_25_29 (fr_tr fsb_0_29 (fr_tr fsb_0_29 f gs1) gs3) gs5) gs7) h7)))))), (fun c8 => (fm_w_86 _ _ _ (fr_rfl _ _) ((h3.1 c4).2 c8) (fun r10 s9 gs9 h9 => (hK _ (fr_tr fsb_27_29 (fr_sI 3504 (fr_tr fsb_0_29 (fr_tr fsb_0_29 f gs1) gs3)) gs9) h9))))⟩), (fun c10 => (fm_w_80 _ _ (fr_rfl _ _) (h3.2 c10) (fun r12 s11 gs11 h11 => ⟨(fun c12 => (hK _ (fr_tr fsb_25_29 (fr_tr fsb_0_29 (fr_tr fsb_0_29 f gs1) gs3) gs11) (h11.1 c12))), (fun c13 => (hR _ _ _ (fr_rfl _ _) (h11.2 c13) (fun s13 gs13 h14 => (fm_w_83 _ _ (fr_rfl _ _) h14 (fun s15 gs15 h15 => (hK _ (fr_tr fsb_25_29 (fr_tr fsb_29_29 (fr_tr fsb_25_29 (fr_tr fsb_0_29 (fr_tr fsb_0_29 f gs1) gs3) gs11) gs13) gs15) h15))))))⟩)))⟩))), (fun c16 => ⟨(fun c17 => (fm_w_77 _ (fr_rfl _ _) ((h1.2 c16).1 c17) (fun r18 s17 gs17 h18 => (fm_w_86 _ _ _ (fr_rfl _ _) h18 (fun r20 s19 gs19 h19 => (hK _ (fr_tr fsb_27_29 (fr_tr fsb_25_29 (fr_tr fsb_0_29 f gs1) gs17) gs19) h19)))))), (fun c20 => (fm_w_80 _ _ (fr_rfl _ _) ((h1.2 c16).2 c20) (fun r22 s21 gs21 h21 => ⟨(fun c22 => (hK _ (fr_tr fsb_25_29 (fr_tr fsb_0_29 f gs1) gs21) (h21.1 c22))), (fun c23 => (hR _ _ _ (fr_rfl _ _) (h21.2 c23) (fun s23 gs23 h24 => (fm_w_83 _ _ (fr_rfl _ _) h24 (fun s25 gs25 h25 => (hK _ (fr_tr fsb_25_29 (fr_tr fsb_29_29 (fr_tr fsb_25_29 (fr_tr fsb_0_29 f gs1) gs21) gs23) gs25) h25))))))⟩)))⟩)⟩))
theorem fm_wr_69 : ∀ (n : Nat) (t : Nat) (a0 : Int32) (s : ST) {K K' : ST → Prop} {s0 : ST}, Fr fs29 s0 s → wr_69 n t a0 s K → (∀ (s1 : ST), Fr fs29 s0 s1 → K s1 → K' s1) → wr_69 n t a0 s K' := by
  intro n
  induction n with
  | zero => intro t a0 s K K' s0 f h hK; exact h.elim
  | succ n ih =>
    intro t a0 s K K' s0 f h hK
    rw [wr_69] at h
    rw [wr_69]
    by_cases c : t = 69
    · rw [if_pos c] at h ⊢
      exact fm_o_69 ih _ s f h hK
    rw [if_neg c] at h ⊢
    by_cases c : t = 70
    · rw [if_pos c] at h ⊢
      exact fm_o_70 ih _ s f h hK
    rw [if_neg c] at h ⊢
    by_cases c : t = 71
    · rw [if_pos c] at h ⊢
      exact fm_o_71 ih _ s f h hK
    rw [if_neg c] at h ⊢
    by_cases c : t = 73
    · rw [if_pos c] at h ⊢
      exact fm_o_73 ih _ s f h hK
    rw [if_neg c] at h ⊢
    by_cases c : t = 74
    · rw [if_pos c] at h ⊢
      exact fm_o_74 ih _ s f h hK
    rw [if_neg c] at h ⊢
    by_cases c : t = 76
    · rw [if_pos c] at h ⊢
      exact fm_o_76 ih _ s f h hK
    rw [if_neg c] at h ⊢
    exact h.elim
theorem fm_w_69 {s0 : ST} {K K' : ST → Prop} (a0 : Int32) (s : ST) (f : Fr fs29 s0 s) (h : w_69 a0 s K) (hK : ∀ (s1 : ST), Fr fs29 s0 s1 → K s1 → K' s1) : w_69 a0 s K' := by
  unfold w_69 at h ⊢
  exact (Exists.elim h (fun n e => ⟨n, e.1, fm_wr_69 n _ _ _ f e.2 hK⟩))
theorem fm_w_305_R36 {s0 : ST} {K K' : Nat → ST → Prop} (p1 : Int32) (s : ST) (f : Fr fs20 s0 s) (h : w_305_R36 p1 s K) (hK : ∀ (v0 : Nat) (s1 : ST), Fr fs20 s0 s1 → K v0 s1 → K' v0 s1) : w_305_R36 p1 s K' := by
  unfold w_305_R36 at h ⊢
  exact ⟨(fun c1 => ⟨(h.1 c1).1, (h.1 c1).2.1, (Exists.elim (h.1 c1).2.2 (fun n1 e2 => (Exists.elim e2 (fun f2 e3 => ⟨n1, f2, ⟨e3.1, e3.2.1, e3.2.2.1, e3.2.2.2.1, e3.2.2.2.2.1, e3.2.2.2.2.2.1, (hK _ _ (fr_sD f) e3.2.2.2.2.2.2)⟩⟩))))⟩), (fun c4 => (Exists.elim (h.2 c4) (fun n3 e5 => (Exists.elim e5 (fun f4 e6 => ⟨n3, f4, ⟨e6.1, (hK _ _ (fr_sD f) e6.2)⟩⟩)))))⟩
theorem fm_w_66 {s0 : ST} {K K' : Nat → ST → Prop} (s : ST) (f : Fr fs30 s0 s) (h : w_66  s K) (hK : ∀ (v0 : Nat) (s1 : ST), Fr fs30 s0 s1 → K v0 s1 → K' v0 s1) : w_66  s K' := by
  unfold w_66 at h ⊢
  exact (fm_w_83 _ _ (fr_rfl _ _) h (fun s1 gs1 h1 => (fm_w_69 _ _ (fr_rfl _ _) h1 (fun s3 gs3 h2 => (fm_w_83 _ _ (fr_rfl _ _) h2 (fun s5 gs5 h3 => (fm_w_305_R36 _ _ (fr_rfl _ _) h3 (fun r8 s7 gs7 h4 => (hK _ _ (fr_tr fsb_20_30 (fr_tr fsb_25_30 (fr_tr fsb_29_30 (fr_tr fsb_25_30 (fr_sI 3503 f) gs1) gs3) gs5) gs7) h4)))))))))
theorem fm_w_18 {s0 : ST} {K K' : ST → Prop} (p0 : Nat) (p1 : Int32) (p2 : Nat) (p3 : Int32) (p4 : Int32) (s : ST) (f : Fr fs20 s0 s) (h : w_18 p0 p1 p2 p3 p4 s K) (hK : ∀ (s1 : ST), Fr fs20 s0 s1 → K s1 → K' s1) : w_18 p0 p1 p2 p3 p4 s K' := by
  unfold w_18 at h ⊢
  exact (Exists.elim h (fun f1 e1 => ⟨f1, ⟨e1.1, e1.2.1, (Exists.elim e1.2.2 (fun f2 e2 => ⟨f2, ⟨e2.1, e2.2.1, (Exists.elim e2.2.2 (fun f3 e3 => ⟨f3, ⟨e3.1, e3.2.1, (Exists.elim e3.2.2 (fun f4 e4 => ⟨f4, ⟨e4.1, e4.2.1, (hK _ (fr_sD f) e4.2.2)⟩⟩))⟩⟩))⟩⟩))⟩⟩))
theorem fm_w_307 {s0 : ST} {K K' : Int32 → ST → Prop} (p0 : Int32) (p1 : Int32) (p2 : Int32) (s : ST) (f : Fr fs0 s0 s) (h : w_307 p0 p1 p2 s K) (hK : ∀ (v0 : Int32) (s1 : ST), Fr fs0 s0 s1 → K v0 s1 → K' v0 s1) : w_307 p0 p1 p2 s K' := by
  unfold w_307 at h ⊢
  exact ⟨(fun c1 => (h.1 c1)), (fun c2 => ⟨(fun c3 => ((h.2 c2).1 c3)), (fun c4 => (hK _ _ f ((h.2 c2).2 c4)))⟩)⟩
theorem fm_w_303_F1 {s0 : ST} {K K' : Nat → ST → Prop} (p1 : Int32) (s : ST) (f : Fr fs0 s0 s) (h : w_303_F1 p1 s K) (hK : ∀ (v0 : Nat) (s1 : ST), Fr fs0 s0 s1 → K v0 s1 → K' v0 s1) : w_303_F1 p1 s K' := by
  unfold w_303_F1 at h ⊢
  exact h
theorem fm_w_304_F4 {s0 : ST} {K K' : Nat → ST → Prop} (p0 : Nat) (p1 : Int32) (s : ST) (f : Fr fs20 s0 s) (h : w_304_F4 p0 p1 s K) (hK : ∀ (v0 : Nat) (s1 : ST), Fr fs20 s0 s1 → K v0 s1 → K' v0 s1) : w_304_F4 p0 p1 s K' := by
  unfold w_304_F4 at h ⊢
  exact ⟨h.1, h.2.1, (Exists.elim h.2.2 (fun n1 e1 => (Exists.elim e1 (fun f2 e2 => ⟨n1, f2, ⟨e2.1, (Exists.elim e2.2 (fun n3 e3 => (Exists.elim e3 (fun f4 e4 => (Exists.elim e4 (fun n5 e5 => (Exists.elim e5 (fun g6 e6 => ⟨n3, f4, n5, g6, ⟨e6.1, e6.2.1, e6.2.2.1, e6.2.2.2.1, e6.2.2.2.2.1, e6.2.2.2.2.2.1, e6.2.2.2.2.2.2.1, e6.2.2.2.2.2.2.2.1, (hK _ _ (fr_sD f) e6.2.2.2.2.2.2.2.2)⟩⟩))))))))⟩⟩))))⟩
theorem fm_w_303 {s0 : ST} {K K' : Nat → ST → Prop} (p0 : Nat) (p1 : Int32) (s : ST) (f : Fr fs20 s0 s) (h : w_303 p0 p1 s K) (hK : ∀ (v0 : Nat) (s1 : ST), Fr fs20 s0 s1 → K v0 s1 → K' v0 s1) : w_303 p0 p1 s K' := by
  unfold w_303 at h ⊢
  exact (Exists.elim h (fun n1 e1 => (Exists.elim e1 (fun f2 e2 => ⟨n1, f2, ⟨e2.1, (fm_w_304_F4 _ _ _ (fr_rfl _ _) e2.2 (fun r4 s3 gs3 h3 => (hK _ _ (fr_tr fsb_20_20 f gs3) h3)))⟩⟩))))
theorem fm_w_295 {s0 : ST} {K K' : Nat → ST → Prop} (p0 : Nat) (p1 : Int32) (s : ST) (f : Fr fs20 s0 s) (h : w_295 p0 p1 s K) (hK : ∀ (v0 : Nat) (s1 : ST), Fr fs20 s0 s1 → K v0 s1 → K' v0 s1) : w_295 p0 p1 s K' := by
  unfold w_295 at h ⊢
  exact (Or.imp (fun h1 => ⟨h1.1, (Or.imp (fun h3 => ⟨h3.1, ⟨h3.2.1, h3.2.2.1, (Exists.elim h3.2.2.2 (fun f3 e5 => ⟨f3, ⟨e5.1, e5.2.1, (hK _ _ (fr_sD f) e5.2.2)⟩⟩))⟩⟩) (fun h4 => (Exists.elim h4 (fun b2 e6 => ⟨b2, ⟨e6.1, (fm_w_307 _ _ _ _ (fr_rfl _ _) e6.2 (fun r5 s4 gs4 h7 => (Or.imp (fun h8 => ⟨h8.1, (fm_w_303_F1 _ _ (fr_rfl _ _) h8.2 (fun r8 s7 gs7 h10 => (Exists.elim h10 (fun f9 e11 => ⟨f9, ⟨e11.1, e11.2.1, (hK _ _ (fr_sD (fr_tr fsb_0_20 (fr_tr fsb_0_20 f gs4) gs7)) e11.2.2)⟩⟩))))⟩) (fun h9 => (Exists.elim h9 (fun b6 e12 => ⟨b6, ⟨e12.1, (fm_w_303 _ _ _ (fr_rfl _ _) e12.2 (fun r11 s10 gs10 h13 => (Exists.elim h13 (fun f12 e14 => ⟨f12, ⟨e14.1, e14.2.1, (hK _ _ (fr_sD (fr_tr fsb_20_20 (fr_tr fsb_0_20 f gs4) gs10)) e14.2.2)⟩⟩))))⟩⟩))) h7)))⟩⟩))) h1.2)⟩) (fun h2 => (Exists.elim h2 (fun b1 e15 => ⟨b1, ⟨e15.1, (Exists.elim e15.2 (fun n13 e16 => (Exists.elim e16 (fun f14 e17 => ⟨n13, f14, ⟨e17.1, ⟨(fun c18 => (fm_w_307 _ _ _ _ (fr_rfl _ _) (e17.2.1 c18) (fun r16 s15 gs15 h19 => (Or.imp (fun h20 => ⟨h20.1, (fm_w_303_F1 _ _ (fr_rfl _ _) h20.2 (fun r19 s18 gs18 h22 => (Exists.elim h22 (fun f20 e23 => ⟨f20, ⟨e23.1, e23.2.1, (hK _ _ (fr_sD (fr_tr fsb_0_20 (fr_tr fsb_0_20 f gs15) gs18)) e23.2.2)⟩⟩))))⟩) (fun h21 => (Exists.elim h21 (fun b17 e24 => ⟨b17, ⟨e24.1, (fm_w_303 _ _ _ (fr_rfl _ _) e24.2 (fun r22 s21 gs21 h25 => (Exists.elim h25 (fun f23 e26 => ⟨f23, ⟨e26.1, e26.2.1, (hK _ _ (fr_sD (fr_tr fsb_20_20 (fr_tr fsb_0_20 f gs15) gs21)) e26.2.2)⟩⟩))))⟩⟩))) h19)))), (fun c27 => (Or.imp (fun h28 => ⟨h28.1, ⟨h28.2.1, h28.2.2.1, (Exists.elim h28.2.2.2 (fun f25 e30 => ⟨f25, ⟨e30.1, e30.2.1, (hK _ _ (fr_sD f) e30.2.2)⟩⟩))⟩⟩) (fun h29 => (Exists.elim h29 (fun b24 e31 => ⟨b24, ⟨e31.1, (fm_w_307 _ _ _ _ (fr_rfl _ _) e31.2 (fun r27 s26 gs26 h32 => (Or.imp (fun h33 => ⟨h33.1, (fm_w_303_F1 _ _ (fr_rfl _ _) h33.2 (fun r30 s29 gs29 h35 => (Exists.elim h35 (fun f31 e36 => ⟨f31, ⟨e36.1, e36.2.1, (hK _ _ (fr_sD (fr_tr fsb_0_20 (fr_tr fsb_0_20 f gs26) gs29)) e36.2.2)⟩⟩))))⟩) (fun h34 => (Exists.elim h34 (fun b28 e37 => ⟨b28, ⟨e37.1, (fm_w_303 _ _ _ (fr_rfl _ _) e37.2 (fun r33 s32 gs32 h38 => (Exists.elim h38 (fun f34 e39 => ⟨f34, ⟨e39.1, e39.2.1, (hK _ _ (fr_sD (fr_tr fsb_20_20 (fr_tr fsb_0_20 f gs26) gs32)) e39.2.2)⟩⟩))))⟩⟩))) h32)))⟩⟩))) (e17.2.2 c27)))⟩⟩⟩))))⟩⟩))) h)
theorem fm_w_296 {s0 : ST} {K K' : Nat → ST → Prop} (p0 : Nat) (s : ST) (f : Fr fs20 s0 s) (h : w_296 p0 s K) (hK : ∀ (v0 : Nat) (s1 : ST), Fr fs20 s0 s1 → K v0 s1 → K' v0 s1) : w_296 p0 s K' := by
  unfold w_296 at h ⊢
  exact (Exists.elim h (fun v1 e1 => ⟨v1, ⟨e1.1, (Exists.elim e1.2 (fun f4 e2 => ⟨f4, ⟨e2.1, (fm_w_295 _ _ _ (fr_rfl _ _) e2.2 (fun r3 s2 gs2 h3 => (hK _ _ (fr_tr fsb_20_20 f gs2) h3)))⟩⟩))⟩⟩))
theorem fm_w_300_F1 {s0 : ST} {K K' : ST → Prop} (p0 : Nat) (p1 : Nat) (p3 : Int32) (s : ST) (f : Fr fs20 s0 s) (h : w_300_F1 p0 p1 p3 s K) (hK : ∀ (s1 : ST), Fr fs20 s0 s1 → K s1 → K' s1) : w_300_F1 p0 p1 p3 s K' := by
  unfold w_300_F1 at h ⊢
  exact ⟨(fun c1 => (h.1 c1)), (fun c2 => (Exists.elim (h.2 c2) (fun f3 e3 => ⟨f3, ⟨e3.1, (fm_w_296 _ _ (fr_rfl _ _) e3.2 (fun r2 s1 gs1 h4 => (Exists.elim h4 (fun n4 e5 => (Exists.elim e5 (fun f5 e6 => (Exists.elim e6 (fun o6 e7 => ⟨n4, f5, o6, ⟨e7.1, e7.2.1, e7.2.2.1, (Exists.elim e7.2.2.2 (fun f7 e8 => ⟨f7, ⟨e8.1, e8.2.1, (hK _ (fr_sD (fr_tr fsb_20_20 f gs1)) e8.2.2)⟩⟩))⟩⟩))))))))⟩⟩)))⟩
theorem fm_w_300 {s0 : ST} {K K' : ST → Prop} (p0 : Nat) (p1 : Nat) (p2 : Nat) (p3 : Int32) (s : ST) (f : Fr fs20 s0 s) (h : w_300 p0 p1 p2 p3 s K) (hK : ∀ (s1 : ST), Fr fs20 s0 s1 → K s1 → K' s1) : w_300 p0 p1 p2 p3 s K' := by
  unfold w_300 at h ⊢
  exact (Exists.elim h (fun n1 e1 => (Exists.elim e1 (fun f2 e2 => ⟨n1, f2, ⟨e2.1, ⟨(fun c3 => (Exists.elim (e2.2.1 c3) (fun n3 e4 => (Exists.elim e4 (fun f4 e5 => (Exists.elim e5 (fun o5 e6 => ⟨n3, f4, o5, ⟨e6.1, e6.2.1, e6.2.2.1, (Exists.elim e6.2.2.2 (fun f6 e7 => ⟨f6, ⟨e7.1, e7.2.1, (hK _ (fr_sD f) e7.2.2)⟩⟩))⟩⟩))))))), (fun c8 => (Exists.elim (e2.2.2 c8) (fun f9 e9 => ⟨f9, ⟨e9.1, (fm_w_296 _ _ (fr_rfl _ _) e9.2 (fun r8 s7 gs7 h10 => (Exists.elim h10 (fun n10 e11 => (Exists.elim e11 (fun f11 e12 => (Exists.elim e12 (fun o12 e13 => ⟨n10, f11, o12, ⟨e13.1, e13.2.1, e13.2.2.1, (Exists.elim e13.2.2.2 (fun f13 e14 => ⟨f13, ⟨e14.1, e14.2.1, (hK _ (fr_sD (fr_tr fsb_20_20 f gs7)) e14.2.2)⟩⟩))⟩⟩))))))))⟩⟩)))⟩⟩⟩))))
theorem fm_w_301 {s0 : ST} {K K' : Int32 → ST → Prop} (p0 : Nat) (p1 : Nat) (s : ST) (f : Fr fs20 s0 s) (h : w_301 p0 p1 s K) (hK : ∀ (v0 : Int32) (s1 : ST), Fr fs20 s0 s1 → K v0 s1 → K' v0 s1) : w_301 p0 p1 s K' := by
  unfold w_301 at h ⊢
  exact (Exists.elim h (fun v1 e1 => ⟨v1, ⟨e1.1, (Exists.elim e1.2 (fun f2 e2 => ⟨f2, ⟨e2.1, e2.2.1, (Or.imp (fun h3 => ⟨h3.1, (Exists.elim h3.2 (fun v4 e5 => ⟨v4, ⟨e5.1, (Exists.elim e5.2 (fun f7 e6 => ⟨f7, ⟨e6.1, (fm_w_300_F1 _ _ _ _ (fr_rfl _ _) e6.2 (fun s5 gs5 h7 => (hK _ _ (fr_tr fsb_20_20 (fr_sD f) gs5) h7)))⟩⟩))⟩⟩))⟩) (fun h4 => (Exists.elim h4 (fun b3 e8 => ⟨b3, ⟨e8.1, (Exists.elim e8.2 (fun v8 e9 => ⟨v8, ⟨e9.1, (Exists.elim e9.2 (fun f11 e10 => ⟨f11, ⟨e10.1, (fm_w_300 _ _ _ _ _ (fr_rfl _ _) e10.2 (fun s9 gs9 h11 => (hK _ _ (fr_tr fsb_20_20 (fr_sD f) gs9) h11)))⟩⟩))⟩⟩))⟩⟩))) e2.2.2)⟩⟩))⟩⟩))
theorem fm_w_78 {s0 : ST} {K K' : Int32 → ST → Prop} (p1 : Int32) (s : ST) (f : Fr fs25 s0 s) (h : w_78 p1 s K) (hK : ∀ (v0 : Int32) (s1 : ST), Fr fs25 s0 s1 → K v0 s1 → K' v0 s1) : w_78 p1 s K' := by
  unfold w_78 at h ⊢
  exact (fm_w_77 _ (fr_rfl _ _) h (fun r2 s1 gs1 h1 => ⟨(fun c2 => (hK _ _ (fr_tr fsb_25_25 f gs1) (h1.1 c2))), (fun c3 => (fm_w_85 _ _ _ (fr_rfl _ _) (h1.2 c3) (fun s3 gs3 h4 => (hK _ _ (fr_tr fsb_24_25 (fr_tr fsb_25_25 f gs1) gs3) h4))))⟩))
theorem fm_w_65 {s0 : ST} {K K' : Nat → ST → Prop} (s : ST) (f : Fr fs31 s0 s) (h : w_65  s K) (hK : ∀ (v0 : Nat) (s1 : ST), Fr fs31 s0 s1 → K v0 s1 → K' v0 s1) : w_65  s K' := by
  unfold w_65 at h ⊢
  exact (fm_w_83 _ _ (fr_rfl _ _) h (fun s1 gs1 h1 => (fm_w_78 _ _ (fr_rfl _ _) h1 (fun r4 s3 gs3 h2 => (fm_w_83 _ _ (fr_rfl _ _) h2 (fun s5 gs5 h3 => (fm_w_78 _ _ (fr_rfl _ _) h3 (fun r8 s7 gs7 h4 => ⟨h4.1, h4.2.1, (fm_w_18 _ _ _ _ _ _ (fr_rfl _ _) h4.2.2 (fun s9 gs9 h5 => (hK _ _ (fr_tr fsb_20_31 (fr_sD (fr_tr fsb_25_31 (fr_tr fsb_25_31 (fr_tr fsb_25_31 (fr_tr fsb_25_31 f gs1) gs3) gs5) gs7)) gs9) h5)))⟩))))))))
theorem fm_w_64 {s0 : ST} {K K' : Int32 → ST → Prop} (p0 : Int32) (s : ST) (f : Fr fs0 s0 s) (h : w_64 p0 s K) (hK : ∀ (v0 : Int32) (s1 : ST), Fr fs0 s0 s1 → K v0 s1 → K' v0 s1) : w_64 p0 s K' := by
  unfold w_64 at h ⊢
  exact ⟨(fun c1 => (hK _ _ f (h.1 c1))), (fun c2 => ⟨(fun c3 => (hK _ _ f ((h.2 c2).1 c3))), (fun c4 => ⟨(fun c5 => (hK _ _ f (((h.2 c2).2 c4).1 c5))), (fun c6 => (hK _ _ f (((h.2 c2).2 c4).2 c6)))⟩)⟩)⟩
theorem fm_w_84 {s0 : ST} {K K' : ST → Prop} (s : ST) (f : Fr fs24 s0 s) (h : w_84  s K) (hK : ∀ (s1 : ST), Fr fs24 s0 s1 → K s1 → K' s1) : w_84  s K' := by
  unfold w_84 at h ⊢
  exact ⟨(fun c1 => (hK _ f (h.1 c1))), (fun c2 => (fm_w_85 _ _ _ (fr_rfl _ _) (h.2 c2) (fun s1 gs1 h3 => (hK _ (fr_tr fsb_24_24 f gs1) h3))))⟩
theorem fm_w_62_L11 {s0 : ST} {X65 X65' : Nat → ST → Prop} {X62 X62' : Nat → ST → Prop} {K K' : Nat → ST → Prop} (hX65 : ∀ (v0 : Nat) (s1 : ST), Fr fs32 s0 s1 → X65 v0 s1 → X65' v0 s1) (hX62 : ∀ (v0 : Nat) (s1 : ST), Fr fs32 s0 s1 → X62 v0 s1 → X62' v0 s1) (hK : ∀ (v0 : Nat) (s1 : ST), Fr fs32 s0 s1 → K v0 s1 → K' v0 s1) : ∀ (n : Nat) (x4 : Nat) (x5 : Int32) (s : ST), Fr fs32 s0 s → w_62_L11 n x4 x5 s X65 X62 K → w_62_L11 n x4 x5 s X65' X62' K' := by
  intro n
  induction n with
  | zero => intro x4 x5 s f h; exact h.elim
  | succ n ih =>
    intro x4 x5 s f h
    rw [w_62_L11] at h
    rw [w_62_L11]
    exact ⟨(fun c1 => (hX65 _ _ f (h.1 c1))), (fun c2 => (fm_w_81 _ (fr_rfl _ _) (h.2 c2) (fun r6 s5 gs5 h3 => ⟨(fun c4 => ⟨(fun c5 => ⟨(fun c6 => (fm_w_83 _ _ (fr_rfl _ _) (((h3.1 c4).1 c5).1 c6) (fun s7 gs7 h7 => (Exists.elim h7 (fun v9 e8 => ⟨v9, ⟨e8.1, (fm_w_66 _ (fr_rfl _ _) e8.2 (fun r11 s10 gs10 h9 => (fm_w_18 _ _ _ _ _ _ (fr_rfl _ _) h9 (fun s12 gs12 h10 => (Exists.elim h10 (fun f16 e11 => ⟨f16, ⟨e11.1, (fm_w_301 _ _ _ (fr_rfl _ _) e11.2 (fun r15 s14 gs14 h12 => (fm_w_82 _ _ (fr_rfl _ _) h12 (fun r18 s17 gs17 h13 => ⟨(fun c14 => (ih _ _ _ (fr_tr fsb_26_32 (fr_tr fsb_20_32 (fr_tr fsb_20_32 (fr_tr fsb_30_32 (fr_sD (fr_tr fsb_25_32 (fr_tr fsb_0_32 f gs5) gs7)) gs10) gs12) gs14) gs17) (h13.1 c14))), (fun c15 => (hX62 _ _ (fr_tr fsb_26_32 (fr_tr fsb_20_32 (fr_tr fsb_20_32 (fr_tr fsb_30_32 (fr_sD (fr_tr fsb_25_32 (fr_tr fsb_0_32 f gs5) gs7)) gs10) gs12) gs14) gs17) (h13.2 c15)))⟩))))⟩⟩))))))⟩⟩))))), (fun c16 => (fm_w_83 _ _ (fr_rfl _ _) (((h3.1 c4).1 c5).2 c16) (fun s19 gs19 h17 => (Exists.elim h17 (fun v21 e18 => ⟨v21, ⟨e18.1, (fm_w_66 _ (fr_rfl _ _) e18.2 (fun r23 s22 gs22 h19 => (fm_w_18 _ _ _ _ _ _ (fr_rfl _ _) h19 (fun s24 gs24 h20 => (Exists.elim h20 (fun f28 e21 => ⟨f28, ⟨e21.1, (fm_w_301 _ _ _ (fr_rfl _ _) e21.2 (fun r27 s26 gs26 h22 => (fm_w_82 _ _ (fr_rfl _ _) h22 (fun r30 s29 gs29 h23 => ⟨(fun c24 => (ih _ _ _ (fr_tr fsb_26_32 (fr_tr fsb_20_32 (fr_tr fsb_20_32 (fr_tr fsb_30_32 (fr_sD (fr_tr fsb_25_32 (fr_tr fsb_0_32 f gs5) gs19)) gs22) gs24) gs26) gs29) (h23.1 c24))), (fun c25 => (hX62 _ _ (fr_tr fsb_26_32 (fr_tr fsb_20_32 (fr_tr fsb_20_32 (fr_tr fsb_30_32 (fr_sD (fr_tr fsb_25_32 (fr_tr fsb_0_32 f gs5) gs19)) gs22) gs24) gs26) gs29) (h23.2 c25)))⟩))))⟩⟩))))))⟩⟩)))))⟩), (fun c26 => (Exists.elim ((h3.1 c4).2 c26) (fun v31 e27 => ⟨v31, ⟨e27.1, (fm_w_65 _ (fr_rfl _ _) e27.2 (fun r33 s32 gs32 h28 => (Exists.elim h28 (fun f36 e29 => ⟨f36, ⟨e29.1, (fm_w_301 _ _ _ (fr_rfl _ _) e29.2 (fun r35 s34 gs34 h30 => (fm_w_82 _ _ (fr_rfl _ _) h30 (fun r38 s37 gs37 h31 => ⟨(fun c32 => (ih _ _ _ (fr_tr fsb_26_32 (fr_tr fsb_20_32 (fr_tr fsb_31_32 (fr_tr fsb_0_32 f gs5) gs32) gs34) gs37) (h31.1 c32))), (fun c33 => (hX62 _ _ (fr_tr fsb_26_32 (fr_tr fsb_20_32 (fr_tr fsb_31_32 (fr_tr fsb_0_32 f gs5) gs32) gs34) gs37) (h31.2 c33)))⟩))))⟩⟩))))⟩⟩)))⟩), (fun c34 => (fm_w_64 _ _ (fr_rfl _ _) (h3.2 c34) (fun r40 s39 gs39 h35 => ⟨(fun c36 => ⟨(fun c37 => ⟨(fun c38 => (fm_w_83 _ _ (fr_rfl _ _) (((h35.1 c36).1 c37).1 c38) (fun s41 gs41 h39 => (Exists.elim h39 (fun v43 e40 => ⟨v43, ⟨e40.1, (fm_w_66 _ (fr_rfl _ _) e40.2 (fun r45 s44 gs44 h41 => (fm_w_18 _ _ _ _ _ _ (fr_rfl _ _) h41 (fun s46 gs46 h42 => (Exists.elim h42 (fun f50 e43 => ⟨f50, ⟨e43.1, (fm_w_301 _ _ _ (fr_rfl _ _) e43.2 (fun r49 s48 gs48 h44 => (fm_w_82 _ _ (fr_rfl _ _) h44 (fun r52 s51 gs51 h45 => ⟨(fun c46 => (ih _ _ _ (fr_tr fsb_26_32 (fr_tr fsb_20_32 (fr_tr fsb_20_32 (fr_tr fsb_30_32 (fr_sD (fr_tr fsb_25_32 (fr_tr fsb_0_32 (fr_tr fsb_0_32 f gs5) gs39) gs41)) gs44) gs46) gs48) gs51) (h45.1 c46))), (fun c47 => (hX62 _ _ (fr_tr fsb_26_32 (fr_tr fsb_20_32 (fr_tr fsb_20_32 (fr_tr fsb_30_32 (fr_sD (fr_tr fsb_25_32 (fr_tr fsb_0_32 (fr_tr fsb_0_32 f gs5) gs39) gs41)) gs44) gs46) gs48) gs51) (h45.2 c47)))⟩))))⟩⟩))))))⟩⟩))))), (fun c48 => (fm_w_83 _ _ (fr_rfl _ _) (((h35.1 c36).1 c37).2 c48) (fun s53 gs53 h49 => (Exists.elim h49 (fun v55 e50 => ⟨v55, ⟨e50.1, (fm_w_66 _ (fr_rfl _ _) e50.2 (fun r57 s56 gs56 h51 => (fm_w_18 _ _ _ _ _ _ (fr_rfl _ _) h51 (fun s58 gs58 h52 => (Exists.elim h52 (fun f62 e53 => ⟨f62, ⟨e53.1, (fm_w_301 _ _ _ (fr_rfl _ _) e53.2 (fun r61 s60 gs60 h54 => (fm_w_82 _ _ (fr_rfl _ _) h54 (fun r64 s63 gs63 h55 => ⟨(fun c56 => (ih _ _ _ (fr_tr fsb_26_32 (fr_tr fsb_20_32 (fr_tr fsb_20_32 (fr_tr fsb_30_32 (fr_sD (fr_tr fsb_25_32 (fr_tr fsb_0_32 (fr_tr fsb_0_32 f gs5) gs39) gs53)) gs56) gs58) gs60) gs63) (h55.1 c56))), (fun c57 => (hX62 _ _ (fr_tr fsb_26_32 (fr_tr fsb_20_32 (fr_tr fsb_20_32 (fr_tr fsb_30_32 (fr_sD (fr_tr fsb_25_32 (fr_tr fsb_0_32 (fr_tr fsb_0_32 f gs5) gs39) gs53)) gs56) gs58) gs60) gs63) (h55.2 c57)))⟩))))⟩⟩))))))⟩⟩)))))⟩), (fun c58 => (Exists.elim ((h35.1 c36).2 c58) (fun v65 e59 => ⟨v65, ⟨e59.1, (fm_w_65 _ (fr_rfl _ _) e59.2 (fun r67 s66 gs66 h60 => (Exists.elim h60 (fun f70 e61 => ⟨f70, ⟨e61.1, (fm_w_301 _ _ _ (fr_rfl _ _) e61.2 (fun r69 s68 gs68 h62 => (fm_w_82 _ _ (fr_rfl _ _) h62 (fun r72 s71 gs71 h63 => ⟨(fun c64 => (ih _ _ _ (fr_tr fsb_26_32 (fr_tr fsb_20_32 (fr_tr fsb_31_32 (fr_tr fsb_0_32 (fr_tr fsb_0_32 f gs5) gs39) gs66) gs68) gs71) (h63.1 c64))), (fun c65 => (hX62 _ _ (fr_tr fsb_26_32 (fr_tr fsb_20_32 (fr_tr fsb_31_32 (fr_tr fsb_0_32 (fr_tr fsb_0_32 f gs5) gs39) gs66) gs68) gs71) (h63.2 c65)))⟩))))⟩⟩))))⟩⟩)))⟩), (fun c66 => (fm_w_85 _ _ _ (fr_rfl _ _) (h35.2 c66) (fun s73 gs73 h67 => ⟨(fun c68 => ⟨(fun c69 => (fm_w_83 _ _ (fr_rfl _ _) ((h67.1 c68).1 c69) (fun s75 gs75 h70 => (Exists.elim h70 (fun v77 e71 => ⟨v77, ⟨e71.1, (fm_w_66 _ (fr_rfl _ _) e71.2 (fun r79 s78 gs78 h72 => (fm_w_18 _ _ _ _ _ _ (fr_rfl _ _) h72 (fun s80 gs80 h73 => (Exists.elim h73 (fun f84 e74 => ⟨f84, ⟨e74.1, (fm_w_301 _ _ _ (fr_rfl _ _) e74.2 (fun r83 s82 gs82 h75 => (fm_w_82 _ _ (fr_rfl _ _) h75 (fun r86 s85 gs85 h76 => ⟨(fun c77 => (ih _ _ _ (fr_tr fsb_26_32 (fr_tr fsb_20_32 (fr_tr fsb_20_32 (fr_tr fsb_30_32 (fr_sD (fr_tr fsb_25_32 (fr_tr fsb_24_32 (fr_tr fsb_0_32 (fr_tr fsb_0_32 f gs5) gs39) gs73) gs75)) gs78) gs80) gs82) gs85) (h76.1 c77))), (fun c78 => (hX62 _ _ (fr_tr fsb_26_32 (fr_tr fsb_20_32 (fr_tr fsb_20_32 (fr_tr fsb_30_32 (fr_sD (fr_tr fsb_25_32 (fr_tr fsb_24_32 (fr_tr fsb_0_32 (fr_tr fsb_0_32 f gs5) gs39) gs73) gs75)) gs78) gs80) gs82) gs85) (h76.2 c78)))⟩))))⟩⟩))))))⟩⟩))))), (fun c79 => (fm_w_83 _ _ (fr_rfl _ _) ((h67.1 c68).2 c79) (fun s87 gs87 h80 => (Exists.elim h80 (fun v89 e81 => ⟨v89, ⟨e81.1, (fm_w_66 _ (fr_rfl _ _) e81.2 (fun r91 s90 gs90 h82 => (fm_w_18 _ _ _ _ _ _ (fr_rfl _ _) h82 (fun s92 gs92 h83 => (Exists.elim h83 (fun f96 e84 => ⟨f96, ⟨e84.1, (fm_w_301 _ _ _ (fr_rfl _ _) e84.2 (fun r95 s94 gs94 h85 => (fm_w_82 _ _ (fr_rfl _ _) h85 (fun r98 s97 gs97 h86 => ⟨(fun c87 => (ih _ _ _ (fr_tr fsb_26_32 (fr_tr fsb_20_32 (fr_tr fsb_20_32 (fr_tr fsb_30_32 (fr_sD (fr_tr fsb_25_32 (fr_tr fsb_24_32 (fr_tr fsb_0_32 (fr_tr fsb_0_32 f gs5) gs39) gs73) gs87)) gs90) gs92) gs94) gs97) (h86.1 c87))), (fun c88 => (hX62 _ _ (fr_tr fsb_26_32 (fr_tr fsb_20_32 (fr_tr fsb_20_32 (fr_tr fsb_30_32 (fr_sD (fr_tr fsb_25_32 (fr_tr fsb_24_32 (fr_tr fsb_0_32 (fr_tr fsb_0_32 f gs5) gs39) gs73) gs87)) gs90) gs92) gs94) gs97) (h86.2 c88)))⟩))))⟩⟩))))))⟩⟩)))))⟩), (fun c89 => (Exists.elim (h67.2 c89) (fun v99 e90 => ⟨v99, ⟨e90.1, (fm_w_65 _ (fr_rfl _ _) e90.2 (fun r101 s100 gs100 h91 => (Exists.elim h91 (fun f104 e92 => ⟨f104, ⟨e92.1, (fm_w_301 _ _ _ (fr_rfl _ _) e92.2 (fun r103 s102 gs102 h93 => (fm_w_82 _ _ (fr_rfl _ _) h93 (fun r106 s105 gs105 h94 => ⟨(fun c95 => (ih _ _ _ (fr_tr fsb_26_32 (fr_tr fsb_20_32 (fr_tr fsb_31_32 (fr_tr fsb_24_32 (fr_tr fsb_0_32 (fr_tr fsb_0_32 f gs5) gs39) gs73) gs100) gs102) gs105) (h94.1 c95))), (fun c96 => (hX62 _ _ (fr_tr fsb_26_32 (fr_tr fsb_20_32 (fr_tr fsb_31_32 (fr_tr fsb_24_32 (fr_tr fsb_0_32 (fr_tr fsb_0_32 f gs5) gs39) gs73) gs100) gs102) gs105) (h94.2 c96)))⟩))))⟩⟩))))⟩⟩)))⟩)))⟩)))⟩)))⟩
theorem fm_w_62 {s0 : ST} {K K' : Nat → ST → Prop} (p1 : Int32) (p2 : Int32) (p3 : Int32) (s : ST) (f : Fr fs32 s0 s) (h : w_62 p1 p2 p3 s K) (hK : ∀ (v0 : Nat) (s1 : ST), Fr fs32 s0 s1 → K v0 s1 → K' v0 s1) : w_62 p1 p2 p3 s K' := by
  unfold w_62 at h ⊢
  exact (fm_w_59 _ _ (fr_rfl _ _) h (fun s1 gs1 h1 => (fm_w_107 _ _ _ _ (fr_rfl _ _) h1 (fun s3 gs3 h2 => (Exists.elim h2 (fun m e3 => ⟨m, (fm_w_62_L11 (fun y4 s107 gs107 h4 => (fm_w_84 _ (fr_rfl _ _) h4 (fun s108 gs108 h5 => (hK _ _ (fr_tr fsb_24_32 gs107 gs108) h5)))) (fun y4 s110 gs110 h6 => (fm_w_84 _ (fr_rfl _ _) h6 (fun s111 gs111 h7 => (hK _ _ (fr_tr fsb_24_32 gs110 gs111) h7)))) hK m _ _ _ (fr_tr fsb_20_32 (fr_sD (fr_tr fsb_23_32 f gs1)) gs3) e3)⟩))))))
theorem fm_w_68 {s0 : ST} {K K' : Int32 → ST → Prop} (p0 : Int32) (s : ST) (f : Fr fs0 s0 s) (h : w_68 p0 s K) (hK : ∀ (v0 : Int32) (s1 : ST), Fr fs0 s0 s1 → K v0 s1 → K' v0 s1) : w_68 p0 s K' := by
  unfold w_68 at h ⊢
  exact ⟨(fun c1 => (hK _ _ f (h.1 c1))), (fun c2 => (hK _ _ f (h.2.1 c2))), (fun c3 => (hK _ _ f (h.2.2.1 c3))), (fun c4 c5 c6 => (hK _ _ f (h.2.2.2 c4 c5 c6)))⟩
theorem fm_w_67_L4 {s0 : ST} {X36 X36' : Int32 → ST → Prop} {X14 X14' : Int32 → ST → Prop} {K K' : Int32 → ST → Prop} (hX36 : ∀ (v0 : Int32) (s1 : ST), Fr fs25 s0 s1 → X36 v0 s1 → X36' v0 s1) (hX14 : ∀ (v0 : Int32) (s1 : ST), Fr fs25 s0 s1 → X14 v0 s1 → X14' v0 s1) (hK : ∀ (v0 : Int32) (s1 : ST), Fr fs25 s0 s1 → K v0 s1 → K' v0 s1) : ∀ (n : Nat) (x1 : Int32) (x2 : Int32) (s : ST), Fr fs25 s0 s → w_67_L4 n x1 x2 s X36 X14 K → w_67_L4 n x1 x2 s X36' X14' K' := by
  intro n
  induction n with
  | zero => intro x1 x2 s f h; exact h.elim
  | succ n ih =>
    intro x1 x2 s f h
    rw [w_67_L4] at h
    rw [w_67_L4]
    exact ⟨(fun c1 => (hX36 _ _ f (h.1 c1))), (fun c2 => (fm_w_81 _ (fr_rfl _ _) (h.2 c2) (fun r2 s1 gs1 h3 => (fm_w_68 _ _ (fr_rfl _ _) h3 (fun r4 s3 gs3 h4 => ⟨(fun c5 => ⟨(fun c6 => (ih _ _ _ (fr_sI 3504 (fr_tr fsb_0_25 (fr_tr fsb_0_25 f gs1) gs3)) ((h4.1 c5).1 c6))), (fun c7 => (fm_w_85 _ _ _ (fr_rfl _ _) ((h4.1 c5).2 c7) (fun s5 gs5 h8 => (ih _ _ _ (fr_sI 3504 (fr_tr fsb_24_25 (fr_tr fsb_0_25 (fr_tr fsb_0_25 f gs1) gs3) gs5)) h8))))⟩), (fun c9 => (hX14 _ _ (fr_tr fsb_0_25 (fr_tr fsb_0_25 f gs1) gs3) (h4.2 c9)))⟩)))))⟩
theorem fm_w_67 {s0 : ST} {K K' : Int32 → ST → Prop} (s : ST) (f : Fr fs25 s0 s) (h : w_67  s K) (hK : ∀ (v0 : Int32) (s1 : ST), Fr fs25 s0 s1 → K v0 s1 → K' v0 s1) : w_67  s K' := by
  unfold w_67 at h ⊢
  exact (Exists.elim h (fun m e1 => ⟨m, (fm_w_67_L4 (fun y1 s7 gs7 h2 => (hK _ _ gs7 h2)) (fun y1 s8 gs8 h3 => (hK _ _ gs8 h3)) hK m _ _ _ f e1)⟩))
theorem fm_w_63_L11 {s0 : ST} {X54 X54' : Nat → ST → Prop} {X51 X51' : Nat → ST → Prop} {K K' : Nat → ST → Prop} (hX54 : ∀ (v0 : Nat) (s1 : ST), Fr fs32 s0 s1 → X54 v0 s1 → X54' v0 s1) (hX51 : ∀ (v0 : Nat) (s1 : ST), Fr fs32 s0 s1 → X51 v0 s1 → X51' v0 s1) (hK : ∀ (v0 : Nat) (s1 : ST), Fr fs32 s0 s1 → K v0 s1 → K' v0 s1) : ∀ (n : Nat) (x2 : Nat) (x3 : Int32) (s : ST), Fr fs32 s0 s → w_63_L11 n x2 x3 s X54 X51 K → w_63_L11 n x2 x3 s X54' X51' K' := by
  intro n
  induction n with
  | zero => intro x2 x3 s f h; exact h.elim
  | succ n ih =>
    intro x2 x3 s f h
    rw [w_63_L11] at h
    rw [w_63_L11]
    exact ⟨(fun c1 => (hX54 _ _ f (h.1 c1))), (fun c2 => ⟨(fun c3 => (fm_w_66 _ (fr_rfl _ _) ((h.2 c2).1 c3) (fun r6 s5 gs5 h4 => ⟨(fun c5 => (fm_w_67 _ (fr_rfl _ _) (h4.1 c5) (fun r8 s7 gs7 h6 => (Exists.elim h6 (fun v9 e7 => ⟨v9, ⟨e7.1, (fm_w_18 _ _ _ _ _ _ (fr_rfl _ _) e7.2 (fun s10 gs10 h8 => (Exists.elim h8 (fun f14 e9 => ⟨f14, ⟨e9.1, (fm_w_301 _ _ _ (fr_rfl _ _) e9.2 (fun r13 s12 gs12 h10 => (fm_w_82 _ _ (fr_rfl _ _) h10 (fun r16 s15 gs15 h11 => ⟨(fun c12 => (ih _ _ _ (fr_tr fsb_26_32 (fr_tr fsb_20_32 (fr_tr fsb_20_32 (fr_sD (fr_tr fsb_25_32 (fr_tr fsb_30_32 f gs5) gs7)) gs10) gs12) gs15) (h11.1 c12))), (fun c13 => (hX51 _ _ (fr_tr fsb_26_32 (fr_tr fsb_20_32 (fr_tr fsb_20_32 (fr_sD (fr_tr fsb_25_32 (fr_tr fsb_30_32 f gs5) gs7)) gs10) gs12) gs15) (h11.2 c13)))⟩))))⟩⟩))))⟩⟩))))), (fun c14 => (Exists.elim (h4.2 c14) (fun v17 e15 => ⟨v17, ⟨e15.1, (fm_w_18 _ _ _ _ _ _ (fr_rfl _ _) e15.2 (fun s18 gs18 h16 => (Exists.elim h16 (fun f22 e17 => ⟨f22, ⟨e17.1, (fm_w_301 _ _ _ (fr_rfl _ _) e17.2 (fun r21 s20 gs20 h18 => (fm_w_82 _ _ (fr_rfl _ _) h18 (fun r24 s23 gs23 h19 => ⟨(fun c20 => (ih _ _ _ (fr_tr fsb_26_32 (fr_tr fsb_20_32 (fr_tr fsb_20_32 (fr_sD (fr_tr fsb_30_32 f gs5)) gs18) gs20) gs23) (h19.1 c20))), (fun c21 => (hX51 _ _ (fr_tr fsb_26_32 (fr_tr fsb_20_32 (fr_tr fsb_20_32 (fr_sD (fr_tr fsb_30_32 f gs5)) gs18) gs20) gs23) (h19.2 c21)))⟩))))⟩⟩))))⟩⟩)))⟩))), (fun c22 => (fm_w_81 _ (fr_rfl _ _) ((h.2 c2).2 c22) (fun r26 s25 gs25 h23 => ⟨(fun c24 => (fm_w_66 _ (fr_rfl _ _) (h23.1 c24) (fun r28 s27 gs27 h25 => ⟨(fun c26 => (fm_w_67 _ (fr_rfl _ _) (h25.1 c26) (fun r30 s29 gs29 h27 => (Exists.elim h27 (fun v31 e28 => ⟨v31, ⟨e28.1, (fm_w_18 _ _ _ _ _ _ (fr_rfl _ _) e28.2 (fun s32 gs32 h29 => (Exists.elim h29 (fun f36 e30 => ⟨f36, ⟨e30.1, (fm_w_301 _ _ _ (fr_rfl _ _) e30.2 (fun r35 s34 gs34 h31 => (fm_w_82 _ _ (fr_rfl _ _) h31 (fun r38 s37 gs37 h32 => ⟨(fun c33 => (ih _ _ _ (fr_tr fsb_26_32 (fr_tr fsb_20_32 (fr_tr fsb_20_32 (fr_sD (fr_tr fsb_25_32 (fr_tr fsb_30_32 (fr_tr fsb_0_32 f gs25) gs27) gs29)) gs32) gs34) gs37) (h32.1 c33))), (fun c34 => (hX51 _ _ (fr_tr fsb_26_32 (fr_tr fsb_20_32 (fr_tr fsb_20_32 (fr_sD (fr_tr fsb_25_32 (fr_tr fsb_30_32 (fr_tr fsb_0_32 f gs25) gs27) gs29)) gs32) gs34) gs37) (h32.2 c34)))⟩))))⟩⟩))))⟩⟩))))), (fun c35 => (Exists.elim (h25.2 c35) (fun v39 e36 => ⟨v39, ⟨e36.1, (fm_w_18 _ _ _ _ _ _ (fr_rfl _ _) e36.2 (fun s40 gs40 h37 => (Exists.elim h37 (fun f44 e38 => ⟨f44, ⟨e38.1, (fm_w_301 _ _ _ (fr_rfl _ _) e38.2 (fun r43 s42 gs42 h39 => (fm_w_82 _ _ (fr_rfl _ _) h39 (fun r46 s45 gs45 h40 => ⟨(fun c41 => (ih _ _ _ (fr_tr fsb_26_32 (fr_tr fsb_20_32 (fr_tr fsb_20_32 (fr_sD (fr_tr fsb_30_32 (fr_tr fsb_0_32 f gs25) gs27)) gs40) gs42) gs45) (h40.1 c41))), (fun c42 => (hX51 _ _ (fr_tr fsb_26_32 (fr_tr fsb_20_32 (fr_tr fsb_20_32 (fr_sD (fr_tr fsb_30_32 (fr_tr fsb_0_32 f gs25) gs27)) gs40) gs42) gs45) (h40.2 c42)))⟩))))⟩⟩))))⟩⟩)))⟩))), (fun c43 => (fm_w_85 _ _ _ (fr_rfl _ _) (h23.2 c43) (fun s47 gs47 h44 => (fm_w_66 _ (fr_rfl _ _) h44 (fun r50 s49 gs49 h45 => ⟨(fun c46 => (fm_w_67 _ (fr_rfl _ _) (h45.1 c46) (fun r52 s51 gs51 h47 => (Exists.elim h47 (fun v53 e48 => ⟨v53, ⟨e48.1, (fm_w_18 _ _ _ _ _ _ (fr_rfl _ _) e48.2 (fun s54 gs54 h49 => (Exists.elim h49 (fun f58 e50 => ⟨f58, ⟨e50.1, (fm_w_301 _ _ _ (fr_rfl _ _) e50.2 (fun r57 s56 gs56 h51 => (fm_w_82 _ _ (fr_rfl _ _) h51 (fun r60 s59 gs59 h52 => ⟨(fun c53 => (ih _ _ _ (fr_tr fsb_26_32 (fr_tr fsb_20_32 (fr_tr fsb_20_32 (fr_sD (fr_tr fsb_25_32 (fr_tr fsb_30_32 (fr_tr fsb_24_32 (fr_tr fsb_0_32 f gs25) gs47) gs49) gs51)) gs54) gs56) gs59) (h52.1 c53))), (fun c54 => (hX51 _ _ (fr_tr fsb_26_32 (fr_tr fsb_20_32 (fr_tr fsb_20_32 (fr_sD (fr_tr fsb_25_32 (fr_tr fsb_30_32 (fr_tr fsb_24_32 (fr_tr fsb_0_32 f gs25) gs47) gs49) gs51)) gs54) gs56) gs59) (h52.2 c54)))⟩))))⟩⟩))))⟩⟩))))), (fun c55 => (Exists.elim (h45.2 c55) (fun v61 e56 => ⟨v61, ⟨e56.1, (fm_w_18 _ _ _ _ _ _ (fr_rfl _ _) e56.2 (fun s62 gs62 h57 => (Exists.elim h57 (fun f66 e58 => ⟨f66, ⟨e58.1, (fm_w_301 _ _ _ (fr_rfl _ _) e58.2 (fun r65 s64 gs64 h59 => (fm_w_82 _ _ (fr_rfl _ _) h59 (fun r68 s67 gs67 h60 => ⟨(fun c61 => (ih _ _ _ (fr_tr fsb_26_32 (fr_tr fsb_20_32 (fr_tr fsb_20_32 (fr_sD (fr_tr fsb_30_32 (fr_tr fsb_24_32 (fr_tr fsb_0_32 f gs25) gs47) gs49)) gs62) gs64) gs67) (h60.1 c61))), (fun c62 => (hX51 _ _ (fr_tr fsb_26_32 (fr_tr fsb_20_32 (fr_tr fsb_20_32 (fr_sD (fr_tr fsb_30_32 (fr_tr fsb_24_32 (fr_tr fsb_0_32 f gs25) gs47) gs49)) gs62) gs64) gs67) (h60.2 c62)))⟩))))⟩⟩))))⟩⟩)))⟩)))))⟩)))⟩)⟩
theorem fm_w_63 {s0 : ST} {K K' : Nat → ST → Prop} (p1 : Int32) (s : ST) (f : Fr fs32 s0 s) (h : w_63 p1 s K) (hK : ∀ (v0 : Nat) (s1 : ST), Fr fs32 s0 s1 → K v0 s1 → K' v0 s1) : w_63 p1 s K' := by
  unfold w_63 at h ⊢
  exact (fm_w_59 _ _ (fr_rfl _ _) h (fun s1 gs1 h1 => (fm_w_107 _ _ _ _ (fr_rfl _ _) h1 (fun s3 gs3 h2 => (Exists.elim h2 (fun m e3 => ⟨m, (fm_w_63_L11 (fun y2 s69 gs69 h4 => (fm_w_84 _ (fr_rfl _ _) h4 (fun s70 gs70 h5 => (hK _ _ (fr_tr fsb_24_32 gs69 gs70) h5)))) (fun y2 s72 gs72 h6 => (fm_w_84 _ (fr_rfl _ _) h6 (fun s73 gs73 h7 => (hK _ _ (fr_tr fsb_24_32 gs72 gs73) h7)))) hK m _ _ _ (fr_tr fsb_20_32 (fr_sD (fr_tr fsb_23_32 f gs1)) gs3) e3)⟩))))))
theorem fm_w_89 {s0 : ST} {K K' : Int32 → ST → Prop} (p1 : Int32) (p2 : Int32) (p3 : Int32) (s : ST) (f : Fr fs33 s0 s) (h : w_89 p1 p2 p3 s K) (hK : ∀ (v0 : Int32) (s1 : ST), Fr fs33 s0 s1 → K v0 s1 → K' v0 s1) : w_89 p1 p2 p3 s K' := by
  unfold w_89 at h ⊢
  exact ⟨(fun c1 => ⟨(h.1 c1).1, ⟨(h.1 c1).2.1, ⟨(h.1 c1).2.2.1, (hK _ _ (fr_sA 26 (fr_sA 25 (fr_sA 24 (fr_sI 2300 f)))) (h.1 c1).2.2.2)⟩⟩⟩), (fun c2 => (hK _ _ f (h.2 c2)))⟩
theorem fm_w_90 {s0 : ST} {K K' : Int32 → ST → Prop} (s : ST) (f : Fr fs0 s0 s) (h : w_90  s K) (hK : ∀ (v0 : Int32) (s1 : ST), Fr fs0 s0 s1 → K v0 s1 → K' v0 s1) : w_90  s K' := by
  unfold w_90 at h ⊢
  exact (hK _ _ f h)
theorem fm_w_91_L2 {s0 : ST} {X26 X26' : ST → Prop} {X22 X22' : ST → Prop} {K K' : Int32 → ST → Prop} (hX26 : ∀ (s1 : ST), Fr fs0 s0 s1 → X26 s1 → X26' s1) (hX22 : ∀ (s1 : ST), Fr fs0 s0 s1 → X22 s1 → X22' s1) (hK : ∀ (v0 : Int32) (s1 : ST), Fr fs0 s0 s1 → K v0 s1 → K' v0 s1) : ∀ (n : Nat) (x1 : Int32) (x2 : Int32) (s : ST), Fr fs0 s0 s → w_91_L2 n x1 x2 s X26 X22 K → w_91_L2 n x1 x2 s X26' X22' K' := by
  intro n
  induction n with
  | zero => intro x1 x2 s f h; exact h.elim
  | succ n ih =>
    intro x1 x2 s f h
    rw [w_91_L2] at h
    rw [w_91_L2]
    exact ⟨(fun c1 => (hX26 _ f (h.1 c1))), (fun c2 => (fm_w_184 _ _ _ (fr_rfl _ _) (h.2 c2) (fun r2 s1 gs1 h3 => ⟨(fun c4 => (ih _ _ _ (fr_tr fsb_0_0 f gs1) (h3.1 c4))), (fun c5 => ⟨(h3.2 c5).1, ⟨(fun c6 => (ih _ _ _ (fr_tr fsb_0_0 f gs1) ((h3.2 c5).2.1 c6))), (fun c7 => ⟨((h3.2 c5).2.2 c7).1, (fm_w_184 _ _ _ (fr_rfl _ _) ((h3.2 c5).2.2 c7).2 (fun r4 s3 gs3 h8 => ⟨(fun c9 => (ih _ _ _ (fr_tr fsb_0_0 (fr_tr fsb_0_0 f gs1) gs3) (h8.1 c9))), (fun c10 => (hX22 _ (fr_tr fsb_0_0 (fr_tr fsb_0_0 f gs1) gs3) (h8.2 c10)))⟩))⟩)⟩⟩)⟩)))⟩
theorem fm_w_91 {s0 : ST} {K K' : Int32 → ST → Prop} (p1 : Int32) (s : ST) (f : Fr fs0 s0 s) (h : w_91 p1 s K) (hK : ∀ (v0 : Int32) (s1 : ST), Fr fs0 s0 s1 → K v0 s1 → K' v0 s1) : w_91 p1 s K' := by
  unfold w_91 at h ⊢
  exact (Exists.elim h (fun m e1 => ⟨m, (fm_w_91_L2 (fun s5 gs5 h2 => (hK _ _ gs5 h2)) (fun s6 gs6 h3 => (hK _ _ gs6 h3)) hK m _ _ _ f e1)⟩))
theorem fm_w_93_R25_L4 {s0 : ST} {X22 X22' : Int32 → ST → Prop} {K K' : Int32 → ST → Prop} (hX22 : ∀ (v0 : Int32) (s1 : ST), Fr fs0 s0 s1 → X22 v0 s1 → X22' v0 s1) (hK : ∀ (v0 : Int32) (s1 : ST), Fr fs0 s0 s1 → K v0 s1 → K' v0 s1) : ∀ (n : Nat) (x1 : Int32) (x2 : Int32) (x3 : Int32) (s : ST), Fr fs0 s0 s → w_93_R25_L4 n x1 x2 x3 s X22 K → w_93_R25_L4 n x1 x2 x3 s X22' K' := by
  intro n
  induction n with
  | zero => intro x1 x2 x3 s f h; exact h.elim
  | succ n ih =>
    intro x1 x2 x3 s f h
    rw [w_93_R25_L4] at h
    rw [w_93_R25_L4]
    exact ⟨(fun c1 => (hX22 _ _ f (h.1 c1))), (fun c2 => (fm_w_184 _ _ _ (fr_rfl _ _) (h.2 c2) (fun r2 s1 gs1 h3 => ⟨(fun c4 => (ih _ _ _ _ (fr_tr fsb_0_0 f gs1) (h3.1 c4))), (fun c5 => ⟨(h3.2 c5).1, (ih _ _ _ _ (fr_tr fsb_0_0 f gs1) (h3.2 c5).2)⟩)⟩)))⟩
theorem fm_w_93_R25 {s0 : ST} {K K' : Int32 → ST → Prop} (p1 : Int32) (s : ST) (f : Fr fs0 s0 s) (h : w_93_R25 p1 s K) (hK : ∀ (v0 : Int32) (s1 : ST), Fr fs0 s0 s1 → K v0 s1 → K' v0 s1) : w_93_R25 p1 s K' := by
  unfold w_93_R25 at h ⊢
  exact (Exists.elim h (fun m e1 => ⟨m, (fm_w_93_R25_L4 (fun y2 s3 gs3 h2 => (hK _ _ gs3 h2)) hK m _ _ _ _ f e1)⟩))
theorem fm_w_92 {s0 : ST} {K K' : Int32 → ST → Prop} (p1 : Int32) (s : ST) (f : Fr fs0 s0 s) (h : w_92 p1 s K) (hK : ∀ (v0 : Int32) (s1 : ST), Fr fs0 s0 s1 → K v0 s1 → K' v0 s1) : w_92 p1 s K' := by
  unfold w_92 at h ⊢
  exact (fm_w_93_R25 _ _ (fr_rfl _ _) h (fun r2 s1 gs1 h1 => (hK _ _ (fr_tr fsb_0_0 f gs1) h1)))
theorem fm_w_93_R24_L4 {s0 : ST} {X22 X22' : Int32 → ST → Prop} {K K' : Int32 → ST → Prop} (hX22 : ∀ (v0 : Int32) (s1 : ST), Fr fs0 s0 s1 → X22 v0 s1 → X22' v0 s1) (hK : ∀ (v0 : Int32) (s1 : ST), Fr fs0 s0 s1 → K v0 s1 → K' v0 s1) : ∀ (n : Nat) (x1 : Int32) (x2 : Int32) (x3 : Int32) (s : ST), Fr fs0 s0 s → w_93_R24_L4 n x1 x2 x3 s X22 K → w_93_R24_L4 n x1 x2 x3 s X22' K' := by
  intro n
  induction n with
  | zero => intro x1 x2 x3 s f h; exact h.elim
  | succ n ih =>
    intro x1 x2 x3 s f h
    rw [w_93_R24_L4] at h
    rw [w_93_R24_L4]
    exact ⟨(fun c1 => (hX22 _ _ f (h.1 c1))), (fun c2 => (fm_w_184 _ _ _ (fr_rfl _ _) (h.2 c2) (fun r2 s1 gs1 h3 => ⟨(fun c4 => (ih _ _ _ _ (fr_tr fsb_0_0 f gs1) (h3.1 c4))), (fun c5 => ⟨(h3.2 c5).1, (ih _ _ _ _ (fr_tr fsb_0_0 f gs1) (h3.2 c5).2)⟩)⟩)))⟩
theorem fm_w_93_R24 {s0 : ST} {K K' : Int32 → ST → Prop} (p1 : Int32) (s : ST) (f : Fr fs0 s0 s) (h : w_93_R24 p1 s K) (hK : ∀ (v0 : Int32) (s1 : ST), Fr fs0 s0 s1 → K v0 s1 → K' v0 s1) : w_93_R24 p1 s K' := by
  unfold w_93_R24 at h ⊢
  exact (Exists.elim h (fun m e1 => ⟨m, (fm_w_93_R24_L4 (fun y2 s3 gs3 h2 => (hK _ _ gs3 h2)) hK m _ _ _ _ f e1)⟩))
theorem fm_w_95 {s0 : ST} {K K' : Int32 → ST → Prop} (p1 : Int32) (p2 : Int32) (s : ST) (f : Fr fs0 s0 s) (h : w_95 p1 p2 s K) (hK : ∀ (v0 : Int32) (s1 : ST), Fr fs0 s0 s1 → K v0 s1 → K' v0 s1) : w_95 p1 p2 s K' := by
  unfold w_95 at h ⊢
  exact (fm_w_92 _ _ (fr_rfl _ _) h (fun r2 s1 gs1 h1 => (fm_w_92 _ _ (fr_rfl _ _) h1 (fun r4 s3 gs3 h2 => ⟨(fun c3 => (hK _ _ (fr_tr fsb_0_0 (fr_tr fsb_0_0 f gs1) gs3) (h2.1 c3))), (fun c4 => ⟨(fun c5 => (hK _ _ (fr_tr fsb_0_0 (fr_tr fsb_0_0 f gs1) gs3) ((h2.2 c4).1 c5))), (fun c6 => (fm_w_93_R24 _ _ (fr_rfl _ _) ((h2.2 c4).2 c6) (fun r6 s5 gs5 h7 => (fm_w_93_R24 _ _ (fr_rfl _ _) h7 (fun r8 s7 gs7 h8 => ⟨(fun c9 => (hK _ _ (fr_tr fsb_0_0 (fr_tr fsb_0_0 (fr_tr fsb_0_0 (fr_tr fsb_0_0 f gs1) gs3) gs5) gs7) (h8.1 c9))), (fun c10 => (hK _ _ (fr_tr fsb_0_0 (fr_tr fsb_0_0 (fr_tr fsb_0_0 (fr_tr fsb_0_0 f gs1) gs3) gs5) gs7) (h8.2 c10)))⟩)))))⟩)⟩))))
theorem fm_w_94_L4 {s0 : ST} {X27 X27' : Int32 → ST → Prop} {K K' : Int32 → ST → Prop} (hX27 : ∀ (v0 : Int32) (s1 : ST), Fr fs0 s0 s1 → X27 v0 s1 → X27' v0 s1) (hK : ∀ (v0 : Int32) (s1 : ST), Fr fs0 s0 s1 → K v0 s1 → K' v0 s1) : ∀ (n : Nat) (x1 : Int32) (x2 : Int32) (x3 : Int32) (s : ST), Fr fs0 s0 s → w_94_L4 n x1 x2 x3 s X27 K → w_94_L4 n x1 x2 x3 s X27' K' := by
  intro n
  induction n with
  | zero => intro x1 x2 x3 s f h; exact h.elim
  | succ n ih =>
    intro x1 x2 x3 s f h
    rw [w_94_L4] at h
    rw [w_94_L4]
    exact (fm_w_90 _ (fr_rfl _ _) h (fun r2 s1 gs1 h1 => ⟨(fun c2 => (hX27 _ _ (fr_tr fsb_0_0 f gs1) (h1.1 c2))), (fun c3 => (fm_w_93_R24 _ _ (fr_rfl _ _) (h1.2 c3) (fun r4 s3 gs3 h4 => ⟨(fun c5 => (ih _ _ _ _ (fr_tr fsb_0_0 (fr_tr fsb_0_0 f gs1) gs3) (h4.1 c5))), (fun c6 => (fm_w_91 _ _ (fr_rfl _ _) (h4.2 c6) (fun r6 s5 gs5 h7 => ⟨(fun c8 => (ih _ _ _ _ (fr_tr fsb_0_0 (fr_tr fsb_0_0 (fr_tr fsb_0_0 f gs1) gs3) gs5) (h7.1 c8))), (fun c9 => (fm_w_95 _ _ _ (fr_rfl _ _) (h7.2 c9) (fun r8 s7 gs7 h10 => ⟨(fun c11 => (ih _ _ _ _ (fr_tr fsb_0_0 (fr_tr fsb_0_0 (fr_tr fsb_0_0 (fr_tr fsb_0_0 f gs1) gs3) gs5) gs7) (h10.1 c11))), (fun c12 => (ih _ _ _ _ (fr_tr fsb_0_0 (fr_tr fsb_0_0 (fr_tr fsb_0_0 (fr_tr fsb_0_0 f gs1) gs3) gs5) gs7) (h10.2 c12)))⟩)))⟩)))⟩)))⟩))
theorem fm_w_94 {s0 : ST} {K K' : Int32 → ST → Prop} (p1 : Int32) (s : ST) (f : Fr fs0 s0 s) (h : w_94 p1 s K) (hK : ∀ (v0 : Int32) (s1 : ST), Fr fs0 s0 s1 → K v0 s1 → K' v0 s1) : w_94 p1 s K' := by
  unfold w_94 at h ⊢
  exact (Exists.elim h (fun m e1 => ⟨m, (fm_w_94_L4 (fun y2 s9 gs9 h2 => (hK _ _ gs9 h2)) hK m _ _ _ _ f e1)⟩))
theorem fm_w_98 {s0 : ST} {K K' : Int32 → ST → Prop} (p1 : Int32) (s : ST) (f : Fr fs0 s0 s) (h : w_98 p1 s K) (hK : ∀ (v0 : Int32) (s1 : ST), Fr fs0 s0 s1 → K v0 s1 → K' v0 s1) : w_98 p1 s K' := by
  unfold w_98 at h ⊢
  exact (fm_w_9 _ _ _ (fr_rfl _ _) h (fun r2 s1 gs1 h1 => ⟨(fun c2 => (hK _ _ (fr_tr fsb_0_0 f gs1) (h1.1 c2))), (fun c3 => (hK _ _ (fr_tr fsb_0_0 f gs1) (h1.2 c3)))⟩))
theorem fm_w_100 {s0 : ST} {K K' : Int32 → ST → Prop} (p0 : Int32) (p1 : Int32) (s : ST) (f : Fr fs0 s0 s) (h : w_100 p0 p1 s K) (hK : ∀ (v0 : Int32) (s1 : ST), Fr fs0 s0 s1 → K v0 s1 → K' v0 s1) : w_100 p0 p1 s K' := by
  unfold w_100 at h ⊢
  exact ⟨(fun c1 => ⟨(fun c2 => (hK _ _ f ((h.1 c1).1 c2))), (fun c3 => (hK _ _ f ((h.1 c1).2 c3)))⟩), (fun c4 => (hK _ _ f (h.2 c4)))⟩
