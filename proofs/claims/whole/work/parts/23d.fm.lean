/-! ===== frames, printed by wip/whole/genfm.py ===== -/
theorem fm_w_102 {s0 : ST} {K K' : Int32 → ST → Prop} (p1 : Int32) (p2 : Int32) (s : ST) (f : Fr fs0 s0 s) (h : w_102 p1 p2 s K) (hK : ∀ (v0 : Int32) (s1 : ST), Fr fs0 s0 s1 → K v0 s1 → K' v0 s1) : w_102 p1 p2 s K' := by
  unfold w_102 at h ⊢
  exact (fm_w_181 _ _ _ _ (fr_rfl _ _) h (fun r2 s1 gs1 h1 => ⟨(fun c2 => (hK _ _ (fr_tr fsb_0_0 f gs1) (h1.1 c2))), (fun c3 => ⟨(h1.2 c3).1, (hK _ _ (fr_tr fsb_0_0 f gs1) (h1.2 c3).2)⟩)⟩))
theorem fm_w_104 {s0 : ST} {K K' : Int32 → ST → Prop} (p0 : Int32) (p1 : Int32) (s : ST) (f : Fr fs0 s0 s) (h : w_104 p0 p1 s K) (hK : ∀ (v0 : Int32) (s1 : ST), Fr fs0 s0 s1 → K v0 s1 → K' v0 s1) : w_104 p0 p1 s K' := by
  unfold w_104 at h ⊢
  exact (hK _ _ f h)
theorem fm_w_106_L7 {s0 : ST} {X36 X36' : Int32 → ST → Prop} {K K' : ST → Prop} (hX36 : ∀ (v0 : Int32) (s1 : ST), Fr fs34 s0 s1 → X36 v0 s1 → X36' v0 s1) (hK : ∀ (s1 : ST), Fr fs34 s0 s1 → K s1 → K' s1) : ∀ (n : Nat) (x1 : Int32) (x2 : Int32) (s : ST), Fr fs34 s0 s → w_106_L7 n x1 x2 s X36 K → w_106_L7 n x1 x2 s X36' K' := by
  intro n
  induction n with
  | zero => intro x1 x2 s f h; exact h.elim
  | succ n ih =>
    intro x1 x2 s f h
    rw [w_106_L7] at h
    rw [w_106_L7]
    exact ⟨h.1, ⟨(fun c1 => (hX36 _ _ f (h.2.1 c1))), (fun c2 => (fm_w_102 _ _ _ (fr_rfl _ _) (h.2.2 c2) (fun r2 s1 gs1 h3 => (fm_w_104 _ _ _ (fr_rfl _ _) h3 (fun r4 s3 gs3 h4 => (fm_w_181 _ _ _ _ (fr_rfl _ _) h4 (fun r6 s5 gs5 h5 => ⟨(fun c6 => (ih _ _ _ (fr_tr fsb_0_34 (fr_tr fsb_0_34 (fr_tr fsb_0_34 f gs1) gs3) gs5) (h5.1 c6))), (fun c7 => ⟨(h5.2 c7).1, (ih _ _ _ (fr_sA 47 (fr_tr fsb_0_34 (fr_tr fsb_0_34 (fr_tr fsb_0_34 f gs1) gs3) gs5)) (h5.2 c7).2)⟩)⟩)))))))⟩⟩
theorem fm_w_106_L2 {s0 : ST} {X43 X43' : ST → Prop} {K K' : ST → Prop} (hX43 : ∀ (s1 : ST), Fr fs34 s0 s1 → X43 s1 → X43' s1) (hK : ∀ (s1 : ST), Fr fs34 s0 s1 → K s1 → K' s1) : ∀ (n : Nat) (x1 : Int32) (s : ST), Fr fs34 s0 s → w_106_L2 n x1 s X43 K → w_106_L2 n x1 s X43' K' := by
  intro n
  induction n with
  | zero => intro x1 s f h; exact h.elim
  | succ n ih =>
    intro x1 s f h
    rw [w_106_L2] at h
    rw [w_106_L2]
    exact ⟨(fun c1 => (hX43 _ f (h.1 c1))), (fun c2 => (Exists.elim (h.2 c2) (fun m e3 => ⟨m, (fm_w_106_L7 (fun y1 s1 gs1 h4 => ⟨h4.1, (ih _ _ (fr_sA 49 gs1) h4.2)⟩) hK m _ _ _ f e3)⟩)))⟩
theorem fm_w_106 {s0 : ST} {K K' : ST → Prop} (s : ST) (f : Fr fs34 s0 s) (h : w_106  s K) (hK : ∀ (s1 : ST), Fr fs34 s0 s1 → K s1 → K' s1) : w_106  s K' := by
  unfold w_106 at h ⊢
  exact (Exists.elim h (fun m e1 => ⟨m, (fm_w_106_L2 (fun s2 gs2 h2 => (hK _ gs2 h2)) hK m _ _ f e1)⟩))
theorem fm_w_105 {s0 : ST} {K K' : ST → Prop} (p1 : Int32) (p2 : Int32) (p3 : Int32) (s : ST) (f : Fr fs35 s0 s) (h : w_105 p1 p2 p3 s K) (hK : ∀ (s1 : ST), Fr fs35 s0 s1 → K s1 → K' s1) : w_105 p1 p2 p3 s K' := by
  unfold w_105 at h ⊢
  exact (fm_w_104 _ _ _ (fr_rfl _ _) h (fun r2 s1 gs1 h1 => (fm_w_181 _ _ _ _ (fr_rfl _ _) h1 (fun r4 s3 gs3 h2 => ⟨(fun c3 => (hK _ (fr_tr fsb_0_35 (fr_tr fsb_0_35 f gs1) gs3) (h2.1 c3))), (fun c4 => (fm_w_181 _ _ _ _ (fr_rfl _ _) (h2.2 c4) (fun r6 s5 gs5 h5 => ⟨(fun c6 => ⟨(h5.1 c6).1, ⟨(fun c7 => ⟨((h5.1 c6).2.1 c7).1, ⟨((h5.1 c6).2.1 c7).2.1, (hK _ (fr_sA 47 (fr_tr fsb_0_35 (fr_tr fsb_0_35 (fr_tr fsb_0_35 f gs1) gs3) gs5)) ((h5.1 c6).2.1 c7).2.2)⟩⟩), (fun c8 => ⟨((h5.1 c6).2.2 c8).1, ⟨(fun c9 => ⟨(((h5.1 c6).2.2 c8).2.1 c9).1, ⟨(((h5.1 c6).2.2 c8).2.1 c9).2.1, (hK _ (fr_sA 47 (fr_tr fsb_0_35 (fr_tr fsb_0_35 (fr_tr fsb_0_35 f gs1) gs3) gs5)) (((h5.1 c6).2.2 c8).2.1 c9).2.2)⟩⟩), (fun c10 => ⟨(((h5.1 c6).2.2 c8).2.2 c10).1, ⟨(((h5.1 c6).2.2 c8).2.2 c10).2.1, ⟨(((h5.1 c6).2.2 c8).2.2 c10).2.2.1, ⟨(((h5.1 c6).2.2 c8).2.2 c10).2.2.2.1, ⟨(((h5.1 c6).2.2 c8).2.2 c10).2.2.2.2.1, ⟨(((h5.1 c6).2.2 c8).2.2 c10).2.2.2.2.2.1, (hK _ (fr_sA 47 (fr_sA 49 (fr_sA 48 (fr_tr fsb_0_35 (fr_tr fsb_0_35 (fr_tr fsb_0_35 f gs1) gs3) gs5)))) (((h5.1 c6).2.2 c8).2.2 c10).2.2.2.2.2.2)⟩⟩⟩⟩⟩⟩)⟩⟩)⟩⟩), (fun c11 => (hK _ (fr_tr fsb_0_35 (fr_tr fsb_0_35 (fr_tr fsb_0_35 f gs1) gs3) gs5) (h5.2 c11)))⟩)))⟩))))
theorem fm_w_283 {s0 : ST} {K K' : Int32 → ST → Prop} (p0 : Int32) (s : ST) (f : Fr fs0 s0 s) (h : w_283 p0 s K) (hK : ∀ (v0 : Int32) (s1 : ST), Fr fs0 s0 s1 → K v0 s1 → K' v0 s1) : w_283 p0 s K' := by
  unfold w_283 at h ⊢
  exact (hK _ _ f h)
theorem fm_w_103 {s0 : ST} {K K' : Int32 → ST → Prop} (p1 : Int32) (p2 : Int32) (s : ST) (f : Fr fs0 s0 s) (h : w_103 p1 p2 s K) (hK : ∀ (v0 : Int32) (s1 : ST), Fr fs0 s0 s1 → K v0 s1 → K' v0 s1) : w_103 p1 p2 s K' := by
  unfold w_103 at h ⊢
  exact (fm_w_104 _ _ _ (fr_rfl _ _) h (fun r2 s1 gs1 h1 => (fm_w_181 _ _ _ _ (fr_rfl _ _) h1 (fun r4 s3 gs3 h2 => ⟨(fun c3 => (hK _ _ (fr_tr fsb_0_0 (fr_tr fsb_0_0 f gs1) gs3) (h2.1 c3))), (fun c4 => ⟨(h2.2 c4).1, (hK _ _ (fr_tr fsb_0_0 (fr_tr fsb_0_0 f gs1) gs3) (h2.2 c4).2)⟩)⟩))))
theorem fm_w_101_L16 {s0 : ST} {X59 X59' : Int32 → ST → Prop} {K K' : Int32 → ST → Prop} (hX59 : ∀ (v0 : Int32) (s1 : ST), Fr fs35 s0 s1 → X59 v0 s1 → X59' v0 s1) (hK : ∀ (v0 : Int32) (s1 : ST), Fr fs35 s0 s1 → K v0 s1 → K' v0 s1) : ∀ (n : Nat) (x1 : Int32) (x2 : Int32) (x3 : Int32) (x4 : Int32) (x5 : Int32) (s : ST), Fr fs35 s0 s → w_101_L16 n x1 x2 x3 x4 x5 s X59 K → w_101_L16 n x1 x2 x3 x4 x5 s X59' K' := by
  intro n
  induction n with
  | zero => intro x1 x2 x3 x4 x5 s f h; exact h.elim
  | succ n ih =>
    intro x1 x2 x3 x4 x5 s f h
    rw [w_101_L16] at h
    rw [w_101_L16]
    exact ⟨(fun c1 => (hX59 _ _ f (h.1 c1))), (fun c2 => (fm_w_102 _ _ _ (fr_rfl _ _) (h.2 c2) (fun r4 s3 gs3 h3 => ⟨(fun c4 => (fm_w_184 _ _ _ (fr_rfl _ _) (h3.1 c4) (fun r6 s5 gs5 h5 => ⟨(fun c6 => (ih _ _ _ _ _ _ (fr_tr fsb_0_35 (fr_tr fsb_0_35 f gs3) gs5) (h5.1 c6))), (fun c7 => (fm_w_283 _ _ (fr_rfl _ _) (h5.2 c7) (fun r8 s7 gs7 h8 => ⟨(fun c9 => (ih _ _ _ _ _ _ (fr_tr fsb_0_35 (fr_tr fsb_0_35 (fr_tr fsb_0_35 f gs3) gs5) gs7) (h8.1 c9))), (fun c10 => (fm_w_103 _ _ _ (fr_rfl _ _) (h8.2 c10) (fun r10 s9 gs9 h11 => (fm_w_105 _ _ _ _ (fr_rfl _ _) h11 (fun s11 gs11 h12 => (ih _ _ _ _ _ _ (fr_tr fsb_35_35 (fr_tr fsb_0_35 (fr_tr fsb_0_35 (fr_tr fsb_0_35 (fr_tr fsb_0_35 f gs3) gs5) gs7) gs9) gs11) h12))))))⟩)))⟩))), (fun c13 => (fm_w_103 _ _ _ (fr_rfl _ _) (h3.2 c13) (fun r14 s13 gs13 h14 => (ih _ _ _ _ _ _ (fr_tr fsb_0_35 (fr_tr fsb_0_35 f gs3) gs13) h14))))⟩)))⟩
theorem fm_w_101 {s0 : ST} {K K' : Int32 → ST → Prop} (p1 : Int32) (p2 : Int32) (s : ST) (f : Fr fs35 s0 s) (h : w_101 p1 p2 s K) (hK : ∀ (v0 : Int32) (s1 : ST), Fr fs35 s0 s1 → K v0 s1 → K' v0 s1) : w_101 p1 p2 s K' := by
  unfold w_101 at h ⊢
  exact (fm_w_181 _ _ _ _ (fr_rfl _ _) h (fun r2 s1 gs1 h1 => ⟨(fun c2 => (Exists.elim (h1.1 c2) (fun m e3 => ⟨m, (fm_w_101_L16 (fun y3 s15 gs15 h4 => (hK _ _ gs15 h4)) hK m _ _ _ _ _ _ (fr_tr fsb_0_35 f gs1) e3)⟩))), (fun c5 => ⟨(h1.2 c5).1, (Exists.elim (h1.2 c5).2 (fun m e6 => ⟨m, (fm_w_101_L16 (fun y3 s16 gs16 h7 => (hK _ _ gs16 h7)) hK m _ _ _ _ _ _ (fr_tr fsb_0_35 f gs1) e6)⟩))⟩)⟩))
theorem fm_w_99_L52 {s0 : ST} {X110 X110' : Int32 → ST → Prop} {X72 X72' : Int32 → ST → Prop} {K K' : Int32 → ST → Prop} (hX110 : ∀ (v0 : Int32) (s1 : ST), Fr fs35 s0 s1 → X110 v0 s1 → X110' v0 s1) (hX72 : ∀ (v0 : Int32) (s1 : ST), Fr fs35 s0 s1 → X72 v0 s1 → X72' v0 s1) (hK : ∀ (v0 : Int32) (s1 : ST), Fr fs35 s0 s1 → K v0 s1 → K' v0 s1) : ∀ (n : Nat) (x5 : Int32) (x6 : Int32) (x7 : Int32) (x8 : Int32) (x10 : Int32) (x11 : Int32) (s : ST), Fr fs35 s0 s → w_99_L52 n x5 x6 x7 x8 x10 x11 s X110 X72 K → w_99_L52 n x5 x6 x7 x8 x10 x11 s X110' X72' K' := by
  intro n
  induction n with
  | zero => intro x5 x6 x7 x8 x10 x11 s f h; exact h.elim
  | succ n ih =>
    intro x5 x6 x7 x8 x10 x11 s f h
    rw [w_99_L52] at h
    rw [w_99_L52]
    exact ⟨(fun c1 => (hX110 _ _ f (h.1 c1))), (fun c2 => ⟨(fun c3 => (hX110 _ _ f ((h.2 c2).1 c3))), (fun c4 => (fm_w_123 _ _ (fr_rfl _ _) ((h.2 c2).2 c4) (fun r18 s17 gs17 h5 => (fm_w_9 _ _ _ (fr_rfl _ _) h5 (fun r20 s19 gs19 h6 => ⟨(fun c7 => (fm_w_98 _ _ (fr_rfl _ _) (h6.1 c7) (fun r22 s21 gs21 h8 => ⟨(fun c9 => (ih _ _ _ _ _ _ _ (fr_tr fsb_0_35 (fr_tr fsb_0_35 (fr_tr fsb_0_35 f gs17) gs19) gs21) (h8.1 c9))), (fun c10 => (fm_w_119 _ _ (fr_rfl _ _) (h8.2 c10) (fun r24 s23 gs23 h11 => ⟨(fun c12 => (ih _ _ _ _ _ _ _ (fr_tr fsb_0_35 (fr_tr fsb_0_35 (fr_tr fsb_0_35 (fr_tr fsb_0_35 f gs17) gs19) gs21) gs23) (h11.1 c12))), (fun c13 => (fm_w_9 _ _ _ (fr_rfl _ _) (h11.2 c13) (fun r26 s25 gs25 h14 => (fm_w_100 _ _ _ (fr_rfl _ _) h14 (fun r28 s27 gs27 h15 => (fm_w_16 _ _ (fr_rfl _ _) h15 (fun r30 s29 gs29 h16 => (fm_w_100 _ _ _ (fr_rfl _ _) h16 (fun r32 s31 gs31 h17 => (fm_w_101 _ _ _ (fr_rfl _ _) h17 (fun r34 s33 gs33 h18 => (ih _ _ _ _ _ _ _ (fr_tr fsb_35_35 (fr_tr fsb_0_35 (fr_tr fsb_0_35 (fr_tr fsb_0_35 (fr_tr fsb_0_35 (fr_tr fsb_0_35 (fr_tr fsb_0_35 (fr_tr fsb_0_35 (fr_tr fsb_0_35 f gs17) gs19) gs21) gs23) gs25) gs27) gs29) gs31) gs33) h18))))))))))))⟩)))⟩))), (fun c19 => (hX72 _ _ (fr_tr fsb_0_35 (fr_tr fsb_0_35 f gs17) gs19) (h6.2 c19)))⟩)))))⟩)⟩
theorem fm_w_99 {s0 : ST} {K K' : Int32 → ST → Prop} (p1 : Int32) (p2 : Int32) (p3 : Int32) (s : ST) (f : Fr fs35 s0 s) (h : w_99 p1 p2 p3 s K) (hK : ∀ (v0 : Int32) (s1 : ST), Fr fs35 s0 s1 → K v0 s1 → K' v0 s1) : w_99 p1 p2 p3 s K' := by
  unfold w_99 at h ⊢
  exact (fm_w_123 _ _ (fr_rfl _ _) h (fun r2 s1 gs1 h1 => (fm_w_9 _ _ _ (fr_rfl _ _) h1 (fun r4 s3 gs3 h2 => (fm_w_119 _ _ (fr_rfl _ _) h2 (fun r6 s5 gs5 h3 => ⟨h3.1, (fm_w_9 _ _ _ (fr_rfl _ _) h3.2 (fun r8 s7 gs7 h4 => (fm_w_16 _ _ (fr_rfl _ _) h4 (fun r10 s9 gs9 h5 => (fm_w_100 _ _ _ (fr_rfl _ _) h5 (fun r12 s11 gs11 h6 => (fm_w_106 _ (fr_rfl _ _) h6 (fun s13 gs13 h7 => (fm_w_105 _ _ _ _ (fr_rfl _ _) h7 (fun s15 gs15 h8 => (Exists.elim h8 (fun m e9 => ⟨m, (fm_w_99_L52 (fun y10 s35 gs35 h10 => (hK _ _ gs35 h10)) (fun y10 s36 gs36 h11 => (hK _ _ gs36 h11)) hK m _ _ _ _ _ _ _ (fr_tr fsb_35_35 (fr_tr fsb_34_35 (fr_tr fsb_0_35 (fr_tr fsb_0_35 (fr_tr fsb_0_35 (fr_tr fsb_0_35 (fr_tr fsb_0_35 (fr_tr fsb_0_35 f gs1) gs3) gs5) gs7) gs9) gs11) gs13) gs15) e9)⟩))))))))))))⟩))))))
theorem fm_w_97_L4 {s0 : ST} {X31 X31' : Int32 → ST → Prop} {K K' : Int32 → ST → Prop} (hX31 : ∀ (v0 : Int32) (s1 : ST), Fr fs35 s0 s1 → X31 v0 s1 → X31' v0 s1) (hK : ∀ (v0 : Int32) (s1 : ST), Fr fs35 s0 s1 → K v0 s1 → K' v0 s1) : ∀ (n : Nat) (x1 : Int32) (x2 : Int32) (x3 : Int32) (x4 : Int32) (s : ST), Fr fs35 s0 s → w_97_L4 n x1 x2 x3 x4 s X31 K → w_97_L4 n x1 x2 x3 x4 s X31' K' := by
  intro n
  induction n with
  | zero => intro x1 x2 x3 x4 s f h; exact h.elim
  | succ n ih =>
    intro x1 x2 x3 x4 s f h
    rw [w_97_L4] at h
    rw [w_97_L4]
    exact ⟨(fun c1 => (hX31 _ _ f (h.1 c1))), (fun c2 => ⟨(fun c3 => (hX31 _ _ f ((h.2 c2).1 c3))), (fun c4 => (fm_w_123 _ _ (fr_rfl _ _) ((h.2 c2).2 c4) (fun r2 s1 gs1 h5 => (fm_w_98 _ _ (fr_rfl _ _) h5 (fun r4 s3 gs3 h6 => ⟨(fun c7 => (ih _ _ _ _ _ (fr_tr fsb_0_35 (fr_tr fsb_0_35 f gs1) gs3) (h6.1 c7))), (fun c8 => (fm_w_99 _ _ _ _ (fr_rfl _ _) (h6.2 c8) (fun r6 s5 gs5 h9 => (ih _ _ _ _ _ (fr_tr fsb_35_35 (fr_tr fsb_0_35 (fr_tr fsb_0_35 f gs1) gs3) gs5) h9))))⟩)))))⟩)⟩
theorem fm_w_97 {s0 : ST} {K K' : Int32 → ST → Prop} (p1 : Int32) (p2 : Int32) (s : ST) (f : Fr fs35 s0 s) (h : w_97 p1 p2 s K) (hK : ∀ (v0 : Int32) (s1 : ST), Fr fs35 s0 s1 → K v0 s1 → K' v0 s1) : w_97 p1 p2 s K' := by
  unfold w_97 at h ⊢
  exact (Exists.elim h (fun m e1 => ⟨m, (fm_w_97_L4 (fun y3 s7 gs7 h2 => (hK _ _ gs7 h2)) hK m _ _ _ _ _ f e1)⟩))
theorem fm_w_112_L2 {s0 : ST} {X28 X28' : ST → Prop} {K K' : ST → Prop} (hX28 : ∀ (s1 : ST), Fr fs36 s0 s1 → X28 s1 → X28' s1) (hK : ∀ (s1 : ST), Fr fs36 s0 s1 → K s1 → K' s1) : ∀ (n : Nat) (x1 : Int32) (s : ST), Fr fs36 s0 s → w_112_L2 n x1 s X28 K → w_112_L2 n x1 s X28' K' := by
  intro n
  induction n with
  | zero => intro x1 s f h; exact h.elim
  | succ n ih =>
    intro x1 s f h
    rw [w_112_L2] at h
    rw [w_112_L2]
    exact ⟨(fun c1 => (hX28 _ f (h.1 c1))), (fun c2 => (fm_w_9 _ _ _ (fr_rfl _ _) (h.2 c2) (fun r2 s1 gs1 h3 => ⟨(fun c4 => ⟨(h3.1 c4).1, (ih _ _ (fr_sA 9 (fr_tr fsb_0_36 f gs1)) (h3.1 c4).2)⟩), (fun c5 => (fm_w_9 _ _ _ (fr_rfl _ _) (h3.2 c5) (fun r4 s3 gs3 h6 => ⟨h6.1, (ih _ _ (fr_sA 9 (fr_tr fsb_0_36 (fr_tr fsb_0_36 f gs1) gs3)) h6.2)⟩)))⟩)))⟩
theorem fm_w_112_L30 {s0 : ST} {X62 X62' : ST → Prop} {K K' : ST → Prop} (hX62 : ∀ (s1 : ST), Fr fs36 s0 s1 → X62 s1 → X62' s1) (hK : ∀ (s1 : ST), Fr fs36 s0 s1 → K s1 → K' s1) : ∀ (n : Nat) (x1 : Int32) (s : ST), Fr fs36 s0 s → w_112_L30 n x1 s X62 K → w_112_L30 n x1 s X62' K' := by
  intro n
  induction n with
  | zero => intro x1 s f h; exact h.elim
  | succ n ih =>
    intro x1 s f h
    rw [w_112_L30] at h
    rw [w_112_L30]
    exact ⟨(fun c1 => (hX62 _ f (h.1 c1))), (fun c2 => (fm_w_14 _ _ (fr_rfl _ _) (h.2 c2) (fun r7 s6 gs6 h3 => ⟨(fun c4 => (hX62 _ (fr_tr fsb_0_36 f gs6) (h3.1 c4))), (fun c5 => (fm_w_12 _ _ (fr_rfl _ _) (h3.2 c5) (fun r9 s8 gs8 h6 => (fm_w_2 _ _ (fr_rfl _ _) h6 (fun r11 s10 gs10 h7 => ⟨(fun c8 => (ih _ _ (fr_tr fsb_0_36 (fr_tr fsb_0_36 (fr_tr fsb_0_36 f gs6) gs8) gs10) (h7.1 c8))), (fun c9 => (fm_w_13 _ _ (fr_rfl _ _) (h7.2 c9) (fun r13 s12 gs12 h10 => ⟨h10.1, (ih _ _ (fr_sA 9 (fr_tr fsb_0_36 (fr_tr fsb_0_36 (fr_tr fsb_0_36 (fr_tr fsb_0_36 f gs6) gs8) gs10) gs12)) h10.2)⟩)))⟩)))))⟩)))⟩
theorem fm_w_112 {s0 : ST} {K K' : ST → Prop} (s : ST) (f : Fr fs36 s0 s) (h : w_112  s K) (hK : ∀ (s1 : ST), Fr fs36 s0 s1 → K s1 → K' s1) : w_112  s K' := by
  unfold w_112 at h ⊢
  exact (Exists.elim h (fun m e1 => ⟨m, (fm_w_112_L2 (fun s5 gs5 h2 => (Exists.elim h2 (fun m e3 => ⟨m, (fm_w_112_L30 (fun s14 gs14 h4 => (hK _ gs14 h4)) hK m _ _ gs5 e3)⟩))) hK m _ _ f e1)⟩))
theorem fm_w_113 {s0 : ST} {K K' : ST → Prop} (p1 : Int32) (s : ST) (f : Fr fs37 s0 s) (h : w_113 p1 s K) (hK : ∀ (s1 : ST), Fr fs37 s0 s1 → K s1 → K' s1) : w_113 p1 s K' := by
  unfold w_113 at h ⊢
  exact (fm_w_118 _ _ (fr_rfl _ _) h (fun r2 s1 gs1 h1 => ⟨(fun c2 => (hK _ (fr_tr fsb_0_37 f gs1) (h1.1 c2))), (fun c3 => ⟨(fun c4 => (hK _ (fr_tr fsb_0_37 f gs1) ((h1.2 c3).1 c4))), (fun c5 => ⟨((h1.2 c3).2 c5).1, ⟨((h1.2 c3).2 c5).2.1, (hK _ (fr_sA 10 (fr_sA 11 (fr_sI 801 (fr_tr fsb_0_37 f gs1)))) ((h1.2 c3).2 c5).2.2)⟩⟩)⟩)⟩))
theorem fm_w_117 {s0 : ST} {K K' : Int32 → ST → Prop} (p1 : Int32) (s : ST) (f : Fr fs0 s0 s) (h : w_117 p1 s K) (hK : ∀ (v0 : Int32) (s1 : ST), Fr fs0 s0 s1 → K v0 s1 → K' v0 s1) : w_117 p1 s K' := by
  unfold w_117 at h ⊢
  exact (fm_w_9 _ _ _ (fr_rfl _ _) h (fun r2 s1 gs1 h1 => ⟨(fun c2 => (fm_w_9 _ _ _ (fr_rfl _ _) (h1.1 c2) (fun r4 s3 gs3 h3 => (hK _ _ (fr_tr fsb_0_0 (fr_tr fsb_0_0 f gs1) gs3) h3)))), (fun c4 => ⟨(fun c5 => (hK _ _ (fr_tr fsb_0_0 f gs1) ((h1.2 c4).1 c5))), (fun c6 => (fm_w_9 _ _ _ (fr_rfl _ _) ((h1.2 c4).2 c6) (fun r6 s5 gs5 h7 => (hK _ _ (fr_tr fsb_0_0 (fr_tr fsb_0_0 f gs1) gs5) h7))))⟩)⟩))
theorem fm_w_116 {s0 : ST} {K K' : ST → Prop} (p1 : Int32) (p2 : Int32) (s : ST) (f : Fr fs38 s0 s) (h : w_116 p1 p2 s K) (hK : ∀ (s1 : ST), Fr fs38 s0 s1 → K s1 → K' s1) : w_116 p1 p2 s K' := by
  unfold w_116 at h ⊢
  exact (fm_w_9 _ _ _ (fr_rfl _ _) h (fun r2 s1 gs1 h1 => (fm_w_181 _ _ _ _ (fr_rfl _ _) h1 (fun r4 s3 gs3 h2 => ⟨(fun c3 => (fm_w_117 _ _ (fr_rfl _ _) (h2.1 c3) (fun r6 s5 gs5 h4 => (fm_w_181 _ _ _ _ (fr_rfl _ _) h4 (fun r8 s7 gs7 h5 => ⟨(fun c6 => (hK _ (fr_tr fsb_0_38 (fr_tr fsb_0_38 (fr_tr fsb_0_38 (fr_tr fsb_0_38 f gs1) gs3) gs5) gs7) (h5.1 c6))), (fun c7 => ⟨(h5.2 c7).1, (fm_w_119 _ _ (fr_rfl _ _) (h5.2 c7).2 (fun r10 s9 gs9 h8 => ⟨h8.1, (hK _ (fr_sA 15 (fr_tr fsb_0_38 (fr_tr fsb_0_38 (fr_tr fsb_0_38 (fr_tr fsb_0_38 (fr_tr fsb_0_38 f gs1) gs3) gs5) gs7) gs9)) h8.2)⟩))⟩)⟩))))), (fun c9 => ⟨(h2.2 c9).1, ⟨(h2.2 c9).2.1, (fm_w_117 _ _ (fr_rfl _ _) (h2.2 c9).2.2 (fun r12 s11 gs11 h10 => (fm_w_181 _ _ _ _ (fr_rfl _ _) h10 (fun r14 s13 gs13 h11 => ⟨(fun c12 => (hK _ (fr_tr fsb_0_38 (fr_tr fsb_0_38 (fr_sA 14 (fr_tr fsb_0_38 (fr_tr fsb_0_38 f gs1) gs3)) gs11) gs13) (h11.1 c12))), (fun c13 => ⟨(h11.2 c13).1, (fm_w_119 _ _ (fr_rfl _ _) (h11.2 c13).2 (fun r16 s15 gs15 h14 => ⟨h14.1, (hK _ (fr_sA 15 (fr_tr fsb_0_38 (fr_tr fsb_0_38 (fr_tr fsb_0_38 (fr_sA 14 (fr_tr fsb_0_38 (fr_tr fsb_0_38 f gs1) gs3)) gs11) gs13) gs15)) h14.2)⟩))⟩)⟩))))⟩⟩)⟩))))
theorem fm_w_115_L2 {s0 : ST} {X13 X13' : Int32 → Int32 → ST → Prop} {K K' : ST → Prop} (hX13 : ∀ (v0 : Int32) (v1 : Int32) (s1 : ST), Fr fs39 s0 s1 → X13 v0 v1 s1 → X13' v0 v1 s1) (hK : ∀ (s1 : ST), Fr fs39 s0 s1 → K s1 → K' s1) : ∀ (n : Nat) (x1 : Int32) (x2 : Int32) (x3 : Int32) (s : ST), Fr fs39 s0 s → w_115_L2 n x1 x2 x3 s X13 K → w_115_L2 n x1 x2 x3 s X13' K' := by
  intro n
  induction n with
  | zero => intro x1 x2 x3 s f h; exact h.elim
  | succ n ih =>
    intro x1 x2 x3 s f h
    rw [w_115_L2] at h
    rw [w_115_L2]
    exact ⟨(fun c1 => (hX13 _ _ _ f (h.1 c1))), (fun c2 => (fm_w_123 _ _ (fr_rfl _ _) (h.2 c2) (fun r2 s1 gs1 h3 => (fm_w_116 _ _ _ (fr_rfl _ _) h3 (fun s3 gs3 h4 => (ih _ _ _ _ (fr_tr fsb_38_39 (fr_tr fsb_0_39 f gs1) gs3) h4))))))⟩
theorem fm_w_115_L15 {s0 : ST} {X72 X72' : Int32 → Int32 → ST → Prop} {K K' : ST → Prop} (hX72 : ∀ (v0 : Int32) (v1 : Int32) (s1 : ST), Fr fs39 s0 s1 → X72 v0 v1 s1 → X72' v0 v1 s1) (hK : ∀ (s1 : ST), Fr fs39 s0 s1 → K s1 → K' s1) : ∀ (n : Nat) (x1 : Int32) (x2 : Int32) (x3 : Int32) (s : ST), Fr fs39 s0 s → w_115_L15 n x1 x2 x3 s X72 K → w_115_L15 n x1 x2 x3 s X72' K' := by
  intro n
  induction n with
  | zero => intro x1 x2 x3 s f h; exact h.elim
  | succ n ih =>
    intro x1 x2 x3 s f h
    rw [w_115_L15] at h
    rw [w_115_L15]
    exact ⟨(fun c1 => (hX72 _ _ _ f (h.1 c1))), (fun c2 => (fm_w_123 _ _ (fr_rfl _ _) (h.2 c2) (fun r7 s6 gs6 h3 => (fm_w_9 _ _ _ (fr_rfl _ _) h3 (fun r9 s8 gs8 h4 => (fm_w_117 _ _ (fr_rfl _ _) h4 (fun r11 s10 gs10 h5 => (fm_w_118 _ _ (fr_rfl _ _) h5 (fun r13 s12 gs12 h6 => ⟨(fun c7 => (ih _ _ _ _ (fr_tr fsb_0_39 (fr_tr fsb_0_39 (fr_tr fsb_0_39 (fr_tr fsb_0_39 f gs6) gs8) gs10) gs12) (h6.1 c7))), (fun c8 => (fm_w_181 _ _ _ _ (fr_rfl _ _) (h6.2 c8) (fun r15 s14 gs14 h9 => ⟨(fun c10 => ⟨(h9.1 c10).1, (fm_w_181 _ _ _ _ (fr_rfl _ _) (h9.1 c10).2 (fun r17 s16 gs16 h11 => ⟨(fun c12 => ⟨(h11.1 c12).1, (ih _ _ _ _ (fr_sA 13 (fr_tr fsb_0_39 (fr_sA 12 (fr_tr fsb_0_39 (fr_tr fsb_0_39 (fr_tr fsb_0_39 (fr_tr fsb_0_39 (fr_tr fsb_0_39 f gs6) gs8) gs10) gs12) gs14)) gs16)) (h11.1 c12).2)⟩), (fun c13 => ⟨(h11.2 c13).1, ⟨(h11.2 c13).2.1, (ih _ _ _ _ (fr_sA 13 (fr_tr fsb_0_39 (fr_sA 12 (fr_tr fsb_0_39 (fr_tr fsb_0_39 (fr_tr fsb_0_39 (fr_tr fsb_0_39 (fr_tr fsb_0_39 f gs6) gs8) gs10) gs12) gs14)) gs16)) (h11.2 c13).2.2)⟩⟩)⟩))⟩), (fun c14 => ⟨(h9.2 c14).1, ⟨(h9.2 c14).2.1, (fm_w_181 _ _ _ _ (fr_rfl _ _) (h9.2 c14).2.2 (fun r19 s18 gs18 h15 => ⟨(fun c16 => ⟨(h15.1 c16).1, (ih _ _ _ _ (fr_sA 13 (fr_tr fsb_0_39 (fr_sA 12 (fr_tr fsb_0_39 (fr_tr fsb_0_39 (fr_tr fsb_0_39 (fr_tr fsb_0_39 (fr_tr fsb_0_39 f gs6) gs8) gs10) gs12) gs14)) gs18)) (h15.1 c16).2)⟩), (fun c17 => ⟨(h15.2 c17).1, ⟨(h15.2 c17).2.1, (ih _ _ _ _ (fr_sA 13 (fr_tr fsb_0_39 (fr_sA 12 (fr_tr fsb_0_39 (fr_tr fsb_0_39 (fr_tr fsb_0_39 (fr_tr fsb_0_39 (fr_tr fsb_0_39 f gs6) gs8) gs10) gs12) gs14)) gs18)) (h15.2 c17).2.2)⟩⟩)⟩))⟩⟩)⟩)))⟩)))))))))⟩
theorem fm_w_115_L74 {s0 : ST} {X85 X85' : ST → Prop} {K K' : ST → Prop} (hX85 : ∀ (s1 : ST), Fr fs39 s0 s1 → X85 s1 → X85' s1) (hK : ∀ (s1 : ST), Fr fs39 s0 s1 → K s1 → K' s1) : ∀ (n : Nat) (x2 : Int32) (x3 : Int32) (s : ST), Fr fs39 s0 s → w_115_L74 n x2 x3 s X85 K → w_115_L74 n x2 x3 s X85' K' := by
  intro n
  induction n with
  | zero => intro x2 x3 s f h; exact h.elim
  | succ n ih =>
    intro x2 x3 s f h
    rw [w_115_L74] at h
    rw [w_115_L74]
    exact ⟨(fun c1 => (hX85 _ f (h.1 c1))), (fun c2 => (fm_w_123 _ _ (fr_rfl _ _) (h.2 c2) (fun r22 s21 gs21 h3 => (fm_w_116 _ _ _ (fr_rfl _ _) h3 (fun s23 gs23 h4 => (ih _ _ _ (fr_tr fsb_38_39 (fr_tr fsb_0_39 f gs21) gs23) h4))))))⟩
theorem fm_w_115 {s0 : ST} {K K' : ST → Prop} (p1 : Int32) (p2 : Int32) (s : ST) (f : Fr fs39 s0 s) (h : w_115 p1 p2 s K) (hK : ∀ (s1 : ST), Fr fs39 s0 s1 → K s1 → K' s1) : w_115 p1 p2 s K' := by
  unfold w_115 at h ⊢
  exact (Exists.elim h (fun m e1 => ⟨m, (fm_w_115_L2 (fun y1 y2 s5 gs5 h2 => (Exists.elim h2 (fun m e3 => ⟨m, (fm_w_115_L15 (fun y1 y2 s20 gs20 h4 => (Exists.elim h4 (fun m e5 => ⟨m, (fm_w_115_L74 (fun s25 gs25 h6 => (hK _ gs25 h6)) hK m _ _ _ gs20 e5)⟩))) hK m _ _ _ _ gs5 e3)⟩))) hK m _ _ _ _ f e1)⟩))
theorem fm_w_114 {s0 : ST} {K K' : Int32 → ST → Prop} (p1 : Int32) (s : ST) (f : Fr fs0 s0 s) (h : w_114 p1 s K) (hK : ∀ (v0 : Int32) (s1 : ST), Fr fs0 s0 s1 → K v0 s1 → K' v0 s1) : w_114 p1 s K' := by
  unfold w_114 at h ⊢
  exact (fm_w_123 _ _ (fr_rfl _ _) h (fun r2 s1 gs1 h1 => (fm_w_9 _ _ _ (fr_rfl _ _) h1 (fun r4 s3 gs3 h2 => (hK _ _ (fr_tr fsb_0_0 (fr_tr fsb_0_0 f gs1) gs3) h2)))))
theorem fm_w_111_L10 {s0 : ST} {X23 X23' : ST → Prop} {K K' : ST → Prop} (hX23 : ∀ (s1 : ST), Fr fs40 s0 s1 → X23 s1 → X23' s1) (hK : ∀ (s1 : ST), Fr fs40 s0 s1 → K s1 → K' s1) : ∀ (n : Nat) (x2 : Int32) (s : ST), Fr fs40 s0 s → w_111_L10 n x2 s X23 K → w_111_L10 n x2 s X23' K' := by
  intro n
  induction n with
  | zero => intro x2 s f h; exact h.elim
  | succ n ih =>
    intro x2 s f h
    rw [w_111_L10] at h
    rw [w_111_L10]
    exact ⟨(fun c1 => (hX23 _ f (h.1 c1))), (fun c2 => (fm_w_8 _ _ (fr_rfl _ _) (h.2 c2) (fun r4 s3 gs3 h3 => (fm_w_113 _ _ (fr_rfl _ _) h3 (fun s5 gs5 h4 => (ih _ _ (fr_tr fsb_37_40 (fr_tr fsb_0_40 f gs3) gs5) h4))))))⟩
theorem fm_w_111_L27 {s0 : ST} {X50 X50' : ST → Prop} {K K' : ST → Prop} (hX50 : ∀ (s1 : ST), Fr fs40 s0 s1 → X50 s1 → X50' s1) (hK : ∀ (s1 : ST), Fr fs40 s0 s1 → K s1 → K' s1) : ∀ (n : Nat) (x2 : Int32) (x3 : Int32) (s : ST), Fr fs40 s0 s → w_111_L27 n x2 x3 s X50 K → w_111_L27 n x2 x3 s X50' K' := by
  intro n
  induction n with
  | zero => intro x2 x3 s f h; exact h.elim
  | succ n ih =>
    intro x2 x3 s f h
    rw [w_111_L27] at h
    rw [w_111_L27]
    exact ⟨(fun c1 => (hX50 _ f (h.1 c1))), (fun c2 => ⟨(fun c3 => (fm_w_115 _ _ _ (fr_rfl _ _) ((h.2 c2).1 c3) (fun s8 gs8 h4 => (ih _ _ _ (fr_tr fsb_39_40 f gs8) h4)))), (fun c5 => (fm_w_114 _ _ (fr_rfl _ _) ((h.2 c2).2 c5) (fun r11 s10 gs10 h6 => (fm_w_114 _ _ (fr_rfl _ _) h6 (fun r13 s12 gs12 h7 => ⟨(fun c8 => (ih _ _ _ (fr_tr fsb_0_40 (fr_tr fsb_0_40 f gs10) gs12) (h7.1 c8))), (fun c9 => (fm_w_115 _ _ _ (fr_rfl _ _) (h7.2 c9) (fun s14 gs14 h10 => (ih _ _ _ (fr_tr fsb_39_40 (fr_tr fsb_0_40 (fr_tr fsb_0_40 f gs10) gs12) gs14) h10))))⟩)))))⟩)⟩
theorem fm_w_111 {s0 : ST} {K K' : ST → Prop} (p1 : Int32) (s : ST) (f : Fr fs40 s0 s) (h : w_111 p1 s K) (hK : ∀ (s1 : ST), Fr fs40 s0 s1 → K s1 → K' s1) : w_111 p1 s K' := by
  unfold w_111 at h ⊢
  exact (fm_w_112 _ (fr_rfl _ _) h (fun s1 gs1 h1 => (Exists.elim h1 (fun m e2 => ⟨m, (fm_w_111_L10 (fun s7 gs7 h3 => (Exists.elim h3 (fun m e4 => ⟨m, (fm_w_111_L27 (fun s16 gs16 h5 => (hK _ gs16 h5)) hK m _ _ _ gs7 e4)⟩))) hK m _ _ (fr_sI 801 (fr_tr fsb_36_40 (fr_sI 800 f) gs1)) e2)⟩))))
theorem fm_w_124_L4 {s0 : ST} {X18 X18' : Int32 → ST → Prop} {K K' : Int32 → ST → Prop} (hX18 : ∀ (v0 : Int32) (s1 : ST), Fr fs0 s0 s1 → X18 v0 s1 → X18' v0 s1) (hK : ∀ (v0 : Int32) (s1 : ST), Fr fs0 s0 s1 → K v0 s1 → K' v0 s1) : ∀ (n : Nat) (x1 : Int32) (x2 : Int32) (s : ST), Fr fs0 s0 s → w_124_L4 n x1 x2 s X18 K → w_124_L4 n x1 x2 s X18' K' := by
  intro n
  induction n with
  | zero => intro x1 x2 s f h; exact h.elim
  | succ n ih =>
    intro x1 x2 s f h
    rw [w_124_L4] at h
    rw [w_124_L4]
    exact ⟨(fun c1 => (hX18 _ _ f (h.1 c1))), (fun c2 => (fm_w_123 _ _ (fr_rfl _ _) (h.2 c2) (fun r2 s1 gs1 h3 => (fm_w_119 _ _ (fr_rfl _ _) h3 (fun r4 s3 gs3 h4 => (ih _ _ _ (fr_tr fsb_0_0 (fr_tr fsb_0_0 f gs1) gs3) h4))))))⟩
theorem fm_w_124 {s0 : ST} {K K' : Int32 → ST → Prop} (s : ST) (f : Fr fs0 s0 s) (h : w_124  s K) (hK : ∀ (v0 : Int32) (s1 : ST), Fr fs0 s0 s1 → K v0 s1 → K' v0 s1) : w_124  s K' := by
  unfold w_124 at h ⊢
  exact (Exists.elim h (fun m e1 => ⟨m, (fm_w_124_L4 (fun y1 s5 gs5 h2 => (hK _ _ gs5 h2)) hK m _ _ _ f e1)⟩))
theorem fm_w_125_L4 {s0 : ST} {X27 X27' : Int64 → Int64 → ST → Prop} {X21 X21' : Int64 → Int64 → Int32 → ST → Prop} {K K' : Int32 → ST → Prop} (hX27 : ∀ (v0 : Int64) (v1 : Int64) (s1 : ST), Fr fs0 s0 s1 → X27 v0 v1 s1 → X27' v0 v1 s1) (hX21 : ∀ (v0 : Int64) (v1 : Int64) (v2 : Int32) (s1 : ST), Fr fs0 s0 s1 → X21 v0 v1 v2 s1 → X21' v0 v1 v2 s1) (hK : ∀ (v0 : Int32) (s1 : ST), Fr fs0 s0 s1 → K v0 s1 → K' v0 s1) : ∀ (n : Nat) (x1 : Int64) (x3 : Int64) (x5 : Int32) (s : ST), Fr fs0 s0 s → w_125_L4 n x1 x3 x5 s X27 X21 K → w_125_L4 n x1 x3 x5 s X27' X21' K' := by
  intro n
  induction n with
  | zero => intro x1 x3 x5 s f h; exact h.elim
  | succ n ih =>
    intro x1 x3 x5 s f h
    rw [w_125_L4] at h
    rw [w_125_L4]
    exact ⟨(fun c1 => (hX27 _ _ _ f (h.1 c1))), (fun c2 => (fm_w_123 _ _ (fr_rfl _ _) (h.2 c2) (fun r2 s1 gs1 h3 => (fm_w_119 _ _ (fr_rfl _ _) h3 (fun r4 s3 gs3 h4 => ⟨(fun c5 => (ih _ _ _ _ (fr_tr fsb_0_0 (fr_tr fsb_0_0 f gs1) gs3) (h4.1 c5))), (fun c6 => (hX21 _ _ _ _ (fr_tr fsb_0_0 (fr_tr fsb_0_0 f gs1) gs3) (h4.2 c6)))⟩)))))⟩
theorem fm_w_125 {s0 : ST} {K K' : Int32 → ST → Prop} (p1 : Int64) (s : ST) (f : Fr fs0 s0 s) (h : w_125 p1 s K) (hK : ∀ (v0 : Int32) (s1 : ST), Fr fs0 s0 s1 → K v0 s1 → K' v0 s1) : w_125 p1 s K' := by
  unfold w_125 at h ⊢
  exact (Exists.elim h (fun m e1 => ⟨m, (fm_w_125_L4 (fun y1 y3 s5 gs5 h2 => (hK _ _ gs5 h2)) (fun y1 y3 y5 s6 gs6 h3 => (fm_w_123 _ _ (fr_rfl _ _) h3 (fun r8 s7 gs7 h4 => (hK _ _ (fr_tr fsb_0_0 gs6 gs7) h4)))) hK m _ _ _ _ f e1)⟩))
theorem fm_w_127 {s0 : ST} {K K' : Int32 → ST → Prop} (p1 : Int32) (s : ST) (f : Fr fs41 s0 s) (h : w_127 p1 s K) (hK : ∀ (v0 : Int32) (s1 : ST), Fr fs41 s0 s1 → K v0 s1 → K' v0 s1) : w_127 p1 s K' := by
  unfold w_127 at h ⊢
  exact (fm_w_181 _ _ _ _ (fr_rfl _ _) h (fun r2 s1 gs1 h1 => ⟨(fun c2 => (hK _ _ (fr_sI 100 (fr_tr fsb_0_41 f gs1)) (h1.1 c2))), (fun c3 => (hK _ _ (fr_tr fsb_0_41 f gs1) (h1.2 c3)))⟩))
theorem fm_w_128 {s0 : ST} {K K' : Int32 → ST → Prop} (p1 : Int32) (s : ST) (f : Fr fs1 s0 s) (h : w_128 p1 s K) (hK : ∀ (v0 : Int32) (s1 : ST), Fr fs1 s0 s1 → K v0 s1 → K' v0 s1) : w_128 p1 s K' := by
  unfold w_128 at h ⊢
  exact (fm_w_181 _ _ _ _ (fr_rfl _ _) h (fun r2 s1 gs1 h1 => ⟨(fun c2 => (hK _ _ (fr_tr fsb_0_1 f gs1) (h1.1 c2))), (fun c3 => ⟨(fun c4 => (fm_w_3 _ _ (fr_rfl _ _) ((h1.2 c3).1 c4) (fun r4 s3 gs3 h5 => (hK _ _ (fr_tr fsb_1_1 (fr_tr fsb_0_1 f gs1) gs3) h5)))), (fun c6 => (hK _ _ (fr_tr fsb_0_1 f gs1) ((h1.2 c3).2 c6)))⟩)⟩))
theorem fm_w_130 {s0 : ST} {K K' : Int32 → ST → Prop} (p1 : Int32) (p2 : Int32) (p3 : Int32) (s : ST) (f : Fr fs0 s0 s) (h : w_130 p1 p2 p3 s K) (hK : ∀ (v0 : Int32) (s1 : ST), Fr fs0 s0 s1 → K v0 s1 → K' v0 s1) : w_130 p1 p2 p3 s K' := by
  unfold w_130 at h ⊢
  exact ⟨(fun c1 => ⟨(fun c2 => (fm_w_181 _ _ _ _ (fr_rfl _ _) ((h.1 c1).1 c2) (fun r2 s1 gs1 h3 => (hK _ _ (fr_tr fsb_0_0 f gs1) h3)))), (fun c4 => (fm_w_1 _ _ (fr_rfl _ _) ((h.1 c1).2 c4) (fun r4 s3 gs3 h5 => ⟨(fun c6 => (hK _ _ (fr_tr fsb_0_0 f gs3) (h5.1 c6))), (fun c7 => ⟨(fun c8 => (hK _ _ (fr_tr fsb_0_0 f gs3) ((h5.2 c7).1 c8))), (fun c9 => (hK _ _ (fr_tr fsb_0_0 f gs3) ((h5.2 c7).2 c9)))⟩)⟩)))⟩), (fun c10 => ⟨(fun c11 => (hK _ _ f ((h.2 c10).1 c11))), (fun c12 => (hK _ _ f ((h.2 c10).2 c12)))⟩)⟩
theorem fm_w_183 {s0 : ST} {K K' : Int32 → ST → Prop} (p0 : Int32) (s : ST) (f : Fr fs0 s0 s) (h : w_183 p0 s K) (hK : ∀ (v0 : Int32) (s1 : ST), Fr fs0 s0 s1 → K v0 s1 → K' v0 s1) : w_183 p0 s K' := by
  unfold w_183 at h ⊢
  exact (fm_w_181 _ _ _ _ (fr_rfl _ _) h (fun r2 s1 gs1 h1 => (hK _ _ (fr_tr fsb_0_0 f gs1) h1)))
theorem fm_w_129 {s0 : ST} {K K' : Int32 → ST → Prop} (p1 : Int32) (p2 : Int32) (p3 : Int32) (p4 : Int32) (p5 : Int32) (p6 : Int32) (p7 : Int32) (p8 : Int32) (p9 : Int32) (s : ST) (f : Fr fs42 s0 s) (h : w_129 p1 p2 p3 p4 p5 p6 p7 p8 p9 s K) (hK : ∀ (v0 : Int32) (s1 : ST), Fr fs42 s0 s1 → K v0 s1 → K' v0 s1) : w_129 p1 p2 p3 p4 p5 p6 p7 p8 p9 s K' := by
  unfold w_129 at h ⊢
  exact (fm_w_181 _ _ _ _ (fr_rfl _ _) h (fun r2 s1 gs1 h1 => ⟨(fun c2 => (hK _ _ (fr_tr fsb_0_42 f gs1) (h1.1 c2))), (fun c3 => (fm_w_1 _ _ (fr_rfl _ _) (h1.2 c3) (fun r4 s3 gs3 h4 => ⟨(fun c5 => (hK _ _ (fr_tr fsb_0_42 (fr_tr fsb_0_42 f gs1) gs3) (h4.1 c5))), (fun c6 => (fm_w_130 _ _ _ _ (fr_rfl _ _) (h4.2 c6) (fun r6 s5 gs5 h7 => ⟨(fun c8 => (hK _ _ (fr_tr fsb_0_42 (fr_tr fsb_0_42 (fr_tr fsb_0_42 f gs1) gs3) gs5) (h7.1 c8))), (fun c9 => (fm_w_181 _ _ _ _ (fr_rfl _ _) (h7.2 c9) (fun r8 s7 gs7 h10 => ⟨(fun c11 => (hK _ _ (fr_tr fsb_0_42 (fr_tr fsb_0_42 (fr_tr fsb_0_42 (fr_tr fsb_0_42 f gs1) gs3) gs5) gs7) (h10.1 c11))), (fun c12 => (fm_w_181 _ _ _ _ (fr_rfl _ _) (h10.2 c12) (fun r10 s9 gs9 h13 => ⟨(fun c14 => (hK _ _ (fr_tr fsb_0_42 (fr_tr fsb_0_42 (fr_tr fsb_0_42 (fr_tr fsb_0_42 (fr_tr fsb_0_42 f gs1) gs3) gs5) gs7) gs9) (h13.1 c14))), (fun c15 => (fm_w_181 _ _ _ _ (fr_rfl _ _) (h13.2 c15) (fun r12 s11 gs11 h16 => ⟨(fun c17 => (hK _ _ (fr_tr fsb_0_42 (fr_tr fsb_0_42 (fr_tr fsb_0_42 (fr_tr fsb_0_42 (fr_tr fsb_0_42 (fr_tr fsb_0_42 f gs1) gs3) gs5) gs7) gs9) gs11) (h16.1 c17))), (fun c18 => (fm_w_183 _ _ (fr_rfl _ _) (h16.2 c18) (fun r14 s13 gs13 h19 => ⟨(fun c20 => (hK _ _ (fr_tr fsb_0_42 (fr_tr fsb_0_42 (fr_tr fsb_0_42 (fr_tr fsb_0_42 (fr_tr fsb_0_42 (fr_tr fsb_0_42 (fr_tr fsb_0_42 f gs1) gs3) gs5) gs7) gs9) gs11) gs13) (h19.1 c20))), (fun c21 => (fm_w_181 _ _ _ _ (fr_rfl _ _) (h19.2 c21) (fun r16 s15 gs15 h22 => ⟨(fun c23 => (hK _ _ (fr_tr fsb_0_42 (fr_tr fsb_0_42 (fr_tr fsb_0_42 (fr_tr fsb_0_42 (fr_tr fsb_0_42 (fr_tr fsb_0_42 (fr_tr fsb_0_42 (fr_tr fsb_0_42 f gs1) gs3) gs5) gs7) gs9) gs11) gs13) gs15) (h22.1 c23))), (fun c24 => ⟨(fun c25 => (hK _ _ (fr_tr fsb_0_42 (fr_tr fsb_0_42 (fr_tr fsb_0_42 (fr_tr fsb_0_42 (fr_tr fsb_0_42 (fr_tr fsb_0_42 (fr_tr fsb_0_42 (fr_tr fsb_0_42 f gs1) gs3) gs5) gs7) gs9) gs11) gs13) gs15) ((h22.2 c24).1 c25))), (fun c26 => (fm_w_181 _ _ _ _ (fr_rfl _ _) ((h22.2 c24).2 c26) (fun r18 s17 gs17 h27 => ⟨(fun c28 => (hK _ _ (fr_tr fsb_0_42 (fr_tr fsb_0_42 (fr_tr fsb_0_42 (fr_tr fsb_0_42 (fr_tr fsb_0_42 (fr_tr fsb_0_42 (fr_tr fsb_0_42 (fr_tr fsb_0_42 (fr_tr fsb_0_42 f gs1) gs3) gs5) gs7) gs9) gs11) gs13) gs15) gs17) (h27.1 c28))), (fun c29 => ⟨(fun c30 => ⟨((h27.2 c29).1 c30).1, ((h27.2 c29).1 c30).2.1, ⟨((h27.2 c29).1 c30).2.2.1, ⟨((h27.2 c29).1 c30).2.2.2.1, ⟨((h27.2 c29).1 c30).2.2.2.2.1, ⟨((h27.2 c29).1 c30).2.2.2.2.2.1, ⟨((h27.2 c29).1 c30).2.2.2.2.2.2.1, ⟨((h27.2 c29).1 c30).2.2.2.2.2.2.2.1, ⟨((h27.2 c29).1 c30).2.2.2.2.2.2.2.2.1, ⟨((h27.2 c29).1 c30).2.2.2.2.2.2.2.2.2.1, ⟨((h27.2 c29).1 c30).2.2.2.2.2.2.2.2.2.2.1, ⟨((h27.2 c29).1 c30).2.2.2.2.2.2.2.2.2.2.2.1, ⟨((h27.2 c29).1 c30).2.2.2.2.2.2.2.2.2.2.2.2.1, (fm_w_5 _ _ (fr_rfl _ _) ((h27.2 c29).1 c30).2.2.2.2.2.2.2.2.2.2.2.2.2 (fun r42 s41 gs41 h31 => (hK _ _ (fr_tr fsb_3_42 (fr_sD (fr_tr fsb_0_42 (fr_tr fsb_0_42 (fr_tr fsb_0_42 (fr_tr fsb_0_42 (fr_tr fsb_0_42 (fr_tr fsb_0_42 (fr_tr fsb_0_42 (fr_tr fsb_0_42 (fr_tr fsb_0_42 f gs1) gs3) gs5) gs7) gs9) gs11) gs13) gs15) gs17)) gs41) h31)))⟩⟩⟩⟩⟩⟩⟩⟩⟩⟩⟩⟩), (fun c32 => (hK _ _ (fr_tr fsb_0_42 (fr_tr fsb_0_42 (fr_tr fsb_0_42 (fr_tr fsb_0_42 (fr_tr fsb_0_42 (fr_tr fsb_0_42 (fr_tr fsb_0_42 (fr_tr fsb_0_42 (fr_tr fsb_0_42 f gs1) gs3) gs5) gs7) gs9) gs11) gs13) gs15) gs17) ((h27.2 c29).2 c32)))⟩)⟩)))⟩)⟩)))⟩)))⟩)))⟩)))⟩)))⟩)))⟩)))⟩))
theorem fm_w_131 {s0 : ST} {K K' : Int32 → ST → Prop} (p1 : Int32) (p2 : Int32) (s : ST) (f : Fr fs43 s0 s) (h : w_131 p1 p2 s K) (hK : ∀ (v0 : Int32) (s1 : ST), Fr fs43 s0 s1 → K v0 s1 → K' v0 s1) : w_131 p1 p2 s K' := by
  unfold w_131 at h ⊢
  exact (fm_w_2 _ _ (fr_rfl _ _) h (fun r2 s1 gs1 h1 => ⟨(fun c2 => (hK _ _ (fr_tr fsb_0_43 f gs1) (h1.1 c2))), (fun c3 => (fm_w_181 _ _ _ _ (fr_rfl _ _) (h1.2 c3) (fun r4 s3 gs3 h4 => ⟨(fun c5 => (hK _ _ (fr_tr fsb_0_43 (fr_tr fsb_0_43 f gs1) gs3) (h4.1 c5))), (fun c6 => ⟨(fun c7 => (fm_w_111 _ _ (fr_rfl _ _) ((h4.2 c6).1 c7) (fun s5 gs5 h8 => (fm_w_118 _ _ (fr_rfl _ _) h8 (fun r8 s7 gs7 h9 => ⟨(fun c10 => (fm_w_11 _ _ _ (fr_rfl _ _) (h9.1 c10) (fun s9 gs9 h11 => (hK _ _ (fr_tr fsb_5_43 (fr_tr fsb_0_43 (fr_tr fsb_40_43 (fr_tr fsb_0_43 (fr_tr fsb_0_43 f gs1) gs3) gs5) gs7) gs9) h11)))), (fun c12 => (hK _ _ (fr_tr fsb_0_43 (fr_tr fsb_40_43 (fr_tr fsb_0_43 (fr_tr fsb_0_43 f gs1) gs3) gs5) gs7) (h9.2 c12)))⟩))))), (fun c13 => (hK _ _ (fr_tr fsb_0_43 (fr_tr fsb_0_43 f gs1) gs3) ((h4.2 c6).2 c13)))⟩)⟩)))⟩))
theorem fm_w_182 {s0 : ST} {K K' : Int32 → ST → Prop} (p0 : Int32) (s : ST) (f : Fr fs0 s0 s) (h : w_182 p0 s K) (hK : ∀ (v0 : Int32) (s1 : ST), Fr fs0 s0 s1 → K v0 s1 → K' v0 s1) : w_182 p0 s K' := by
  unfold w_182 at h ⊢
  exact (fm_w_181 _ _ _ _ (fr_rfl _ _) h (fun r2 s1 gs1 h1 => (hK _ _ (fr_tr fsb_0_0 f gs1) h1)))
theorem fm_w_132 {s0 : ST} {K K' : Int32 → ST → Prop} (p1 : Int32) (p2 : Int32) (p3 : Int32) (s : ST) (f : Fr fs40 s0 s) (h : w_132 p1 p2 p3 s K) (hK : ∀ (v0 : Int32) (s1 : ST), Fr fs40 s0 s1 → K v0 s1 → K' v0 s1) : w_132 p1 p2 p3 s K' := by
  unfold w_132 at h ⊢
  exact (fm_w_182 _ _ (fr_rfl _ _) h (fun r2 s1 gs1 h1 => ⟨(fun c2 => (hK _ _ (fr_tr fsb_0_40 f gs1) (h1.1 c2))), (fun c3 => (fm_w_181 _ _ _ _ (fr_rfl _ _) (h1.2 c3) (fun r4 s3 gs3 h4 => ⟨(fun c5 => (fm_w_111 _ _ (fr_rfl _ _) (h4.1 c5) (fun s5 gs5 h6 => (fm_w_118 _ _ (fr_rfl _ _) h6 (fun r8 s7 gs7 h7 => ⟨(fun c8 => ⟨(fun c9 => (fm_w_120 _ _ (fr_rfl _ _) ((h7.1 c8).1 c9) (fun r10 s9 gs9 h10 => (hK _ _ (fr_tr fsb_0_40 (fr_tr fsb_0_40 (fr_tr fsb_40_40 (fr_tr fsb_0_40 (fr_tr fsb_0_40 f gs1) gs3) gs5) gs7) gs9) h10)))), (fun c11 => (fm_w_119 _ _ (fr_rfl _ _) ((h7.1 c8).2 c11) (fun r12 s11 gs11 h12 => (hK _ _ (fr_tr fsb_0_40 (fr_tr fsb_0_40 (fr_tr fsb_40_40 (fr_tr fsb_0_40 (fr_tr fsb_0_40 f gs1) gs3) gs5) gs7) gs11) h12))))⟩), (fun c13 => (hK _ _ (fr_tr fsb_0_40 (fr_tr fsb_40_40 (fr_tr fsb_0_40 (fr_tr fsb_0_40 f gs1) gs3) gs5) gs7) (h7.2 c13)))⟩))))), (fun c14 => (hK _ _ (fr_tr fsb_0_40 (fr_tr fsb_0_40 f gs1) gs3) (h4.2 c14)))⟩)))⟩))
theorem fm_w_133_L24 {s0 : ST} {X57 X57' : Int32 → ST → Prop} {X41 X41' : Int32 → ST → Prop} {K K' : Int32 → ST → Prop} (hX57 : ∀ (v0 : Int32) (s1 : ST), Fr fs40 s0 s1 → X57 v0 s1 → X57' v0 s1) (hX41 : ∀ (v0 : Int32) (s1 : ST), Fr fs40 s0 s1 → X41 v0 s1 → X41' v0 s1) (hK : ∀ (v0 : Int32) (s1 : ST), Fr fs40 s0 s1 → K v0 s1 → K' v0 s1) : ∀ (n : Nat) (x1 : Int32) (x2 : Int32) (x4 : Int32) (x5 : Int32) (s : ST), Fr fs40 s0 s → w_133_L24 n x1 x2 x4 x5 s X57 X41 K → w_133_L24 n x1 x2 x4 x5 s X57' X41' K' := by
  intro n
  induction n with
  | zero => intro x1 x2 x4 x5 s f h; exact h.elim
  | succ n ih =>
    intro x1 x2 x4 x5 s f h
    rw [w_133_L24] at h
    rw [w_133_L24]
    exact ⟨(fun c1 => (hX57 _ _ f (h.1 c1))), (fun c2 => (fm_w_123 _ _ (fr_rfl _ _) (h.2 c2) (fun r12 s11 gs11 h3 => (fm_w_9 _ _ _ (fr_rfl _ _) h3 (fun r14 s13 gs13 h4 => ⟨(fun c5 => (fm_w_119 _ _ (fr_rfl _ _) (h4.1 c5) (fun r16 s15 gs15 h6 => (fm_w_17 _ _ _ (fr_rfl _ _) h6 (fun r18 s17 gs17 h7 => (ih _ _ _ _ _ (fr_tr fsb_0_40 (fr_tr fsb_0_40 (fr_tr fsb_0_40 (fr_tr fsb_0_40 f gs11) gs13) gs15) gs17) h7)))))), (fun c8 => (hX41 _ _ (fr_tr fsb_0_40 (fr_tr fsb_0_40 f gs11) gs13) (h4.2 c8)))⟩)))))⟩
theorem fm_w_133 {s0 : ST} {K K' : Int32 → ST → Prop} (p1 : Int32) (p2 : Int32) (p3 : Int32) (s : ST) (f : Fr fs40 s0 s) (h : w_133 p1 p2 p3 s K) (hK : ∀ (v0 : Int32) (s1 : ST), Fr fs40 s0 s1 → K v0 s1 → K' v0 s1) : w_133 p1 p2 p3 s K' := by
  unfold w_133 at h ⊢
  exact (fm_w_1 _ _ (fr_rfl _ _) h (fun r2 s1 gs1 h1 => ⟨(fun c2 => (hK _ _ (fr_tr fsb_0_40 f gs1) (h1.1 c2))), (fun c3 => (fm_w_182 _ _ (fr_rfl _ _) (h1.2 c3) (fun r4 s3 gs3 h4 => ⟨(fun c5 => (hK _ _ (fr_tr fsb_0_40 (fr_tr fsb_0_40 f gs1) gs3) (h4.1 c5))), (fun c6 => (fm_w_182 _ _ (fr_rfl _ _) (h4.2 c6) (fun r6 s5 gs5 h7 => ⟨(fun c8 => (fm_w_111 _ _ (fr_rfl _ _) (h7.1 c8) (fun s7 gs7 h9 => (fm_w_4 _ _ (fr_rfl _ _) h9 (fun r10 s9 gs9 h10 => (Exists.elim h10 (fun m e11 => ⟨m, (fm_w_133_L24 (fun y4 s19 gs19 h12 => (hK _ _ gs19 h12)) (fun y4 s20 gs20 h13 => (hK _ _ gs20 h13)) hK m _ _ _ _ _ (fr_tr fsb_0_40 (fr_tr fsb_40_40 (fr_tr fsb_0_40 (fr_tr fsb_0_40 (fr_tr fsb_0_40 f gs1) gs3) gs5) gs7) gs9) e11)⟩))))))), (fun c14 => (hK _ _ (fr_tr fsb_0_40 (fr_tr fsb_0_40 (fr_tr fsb_0_40 f gs1) gs3) gs5) (h7.2 c14)))⟩)))⟩)))⟩))
theorem fm_w_135_L2 {s0 : ST} {X26 X26' : ST → Prop} {K K' : ST → Prop} (hX26 : ∀ (s1 : ST), Fr fs44 s0 s1 → X26 s1 → X26' s1) (hK : ∀ (s1 : ST), Fr fs44 s0 s1 → K s1 → K' s1) : ∀ (n : Nat) (x1 : Int32) (x2 : Int32) (s : ST), Fr fs44 s0 s → w_135_L2 n x1 x2 s X26 K → w_135_L2 n x1 x2 s X26' K' := by
  intro n
  induction n with
  | zero => intro x1 x2 s f h; exact h.elim
  | succ n ih =>
    intro x1 x2 s f h
    rw [w_135_L2] at h
    rw [w_135_L2]
    exact ⟨(fun c1 => (hX26 _ f (h.1 c1))), (fun c2 => ⟨(fun c3 => (hX26 _ f ((h.2 c2).1 c3))), (fun c4 => ⟨((h.2 c2).2 c4).1, (ih _ _ _ (fr_sA 27 (fr_sI 7 f)) ((h.2 c2).2 c4).2)⟩)⟩)⟩
theorem fm_w_135 {s0 : ST} {K K' : ST → Prop} (p1 : Int32) (s : ST) (f : Fr fs44 s0 s) (h : w_135 p1 s K) (hK : ∀ (s1 : ST), Fr fs44 s0 s1 → K s1 → K' s1) : w_135 p1 s K' := by
  unfold w_135 at h ⊢
  exact (Exists.elim h (fun m e1 => ⟨m, (fm_w_135_L2 (fun s1 gs1 h2 => (hK _ gs1 h2)) hK m _ _ _ f e1)⟩))
theorem fm_w_134 {s0 : ST} {K K' : Int32 → ST → Prop} (p1 : Int32) (p2 : Int32) (p3 : Int32) (p4 : Int32) (p5 : Int32) (s : ST) (f : Fr fs44 s0 s) (h : w_134 p1 p2 p3 p4 p5 s K) (hK : ∀ (v0 : Int32) (s1 : ST), Fr fs44 s0 s1 → K v0 s1 → K' v0 s1) : w_134 p1 p2 p3 p4 p5 s K' := by
  unfold w_134 at h ⊢
  exact ⟨(fun c1 => (fm_w_135 _ _ (fr_rfl _ _) (h.1 c1) (fun s1 gs1 h2 => (fm_w_135 _ _ (fr_rfl _ _) h2 (fun s3 gs3 h3 => (fm_w_135 _ _ (fr_rfl _ _) h3 (fun s5 gs5 h4 => (fm_w_135 _ _ (fr_rfl _ _) h4 (fun s7 gs7 h5 => (fm_w_135 _ _ (fr_rfl _ _) h5 (fun s9 gs9 h6 => (hK _ _ (fr_tr fsb_44_44 (fr_tr fsb_44_44 (fr_tr fsb_44_44 (fr_tr fsb_44_44 (fr_tr fsb_44_44 f gs1) gs3) gs5) gs7) gs9) h6)))))))))))), (fun c7 => (hK _ _ f (h.2 c7)))⟩
theorem fm_w_136 {s0 : ST} {K K' : Int32 → ST → Prop} (p1 : Int32) (p2 : Int32) (s : ST) (f : Fr fs0 s0 s) (h : w_136 p1 p2 s K) (hK : ∀ (v0 : Int32) (s1 : ST), Fr fs0 s0 s1 → K v0 s1 → K' v0 s1) : w_136 p1 p2 s K' := by
  unfold w_136 at h ⊢
  exact (fm_w_181 _ _ _ _ (fr_rfl _ _) h (fun r2 s1 gs1 h1 => ⟨(fun c2 => (hK _ _ (fr_tr fsb_0_0 f gs1) (h1.1 c2))), (fun c3 => ⟨(fun c4 => (hK _ _ (fr_tr fsb_0_0 f gs1) ((h1.2 c3).1 c4))), (fun c5 => (hK _ _ (fr_tr fsb_0_0 f gs1) ((h1.2 c3).2 c5)))⟩)⟩))
theorem fm_w_295_R20 {s0 : ST} {K K' : Nat → ST → Prop} (p1 : Int32) (s : ST) (f : Fr fs45 s0 s) (h : w_295_R20 p1 s K) (hK : ∀ (v0 : Nat) (s1 : ST), Fr fs45 s0 s1 → K v0 s1 → K' v0 s1) : w_295_R20 p1 s K' := by
  unfold w_295_R20 at h ⊢
  exact (Or.imp (fun h1 => ⟨h1.1, (Or.imp (fun h3 => ⟨h3.1, ⟨h3.2.1, h3.2.2.1, (hK _ _ (fr_sD (fr_sR 20 f)) h3.2.2.2)⟩⟩) (fun h4 => (Exists.elim h4 (fun b2 e5 => ⟨b2, ⟨e5.1, (fm_w_307 _ _ _ _ (fr_rfl _ _) e5.2 (fun r4 s3 gs3 h6 => (Or.imp (fun h7 => ⟨h7.1, (fm_w_303_F1 _ _ (fr_rfl _ _) h7.2 (fun r7 s6 gs6 h9 => (hK _ _ (fr_sR 20 (fr_tr fsb_0_45 (fr_tr fsb_0_45 f gs3) gs6)) h9)))⟩) (fun h8 => (Exists.elim h8 (fun b5 e10 => ⟨b5, ⟨e10.1, (fm_w_303 _ _ _ (fr_rfl _ _) e10.2 (fun r9 s8 gs8 h11 => (hK _ _ (fr_sR 20 (fr_tr fsb_20_45 (fr_tr fsb_0_45 f gs3) gs8)) h11)))⟩⟩))) h6)))⟩⟩))) h1.2)⟩) (fun h2 => (Exists.elim h2 (fun b1 e12 => ⟨b1, ⟨e12.1, (Exists.elim e12.2 (fun n10 e13 => (Exists.elim e13 (fun f11 e14 => ⟨n10, f11, ⟨e14.1, ⟨(fun c15 => (fm_w_307 _ _ _ _ (fr_rfl _ _) (e14.2.1 c15) (fun r13 s12 gs12 h16 => (Or.imp (fun h17 => ⟨h17.1, (fm_w_303_F1 _ _ (fr_rfl _ _) h17.2 (fun r16 s15 gs15 h19 => (hK _ _ (fr_sR 20 (fr_tr fsb_0_45 (fr_tr fsb_0_45 f gs12) gs15)) h19)))⟩) (fun h18 => (Exists.elim h18 (fun b14 e20 => ⟨b14, ⟨e20.1, (fm_w_303 _ _ _ (fr_rfl _ _) e20.2 (fun r18 s17 gs17 h21 => (hK _ _ (fr_sR 20 (fr_tr fsb_20_45 (fr_tr fsb_0_45 f gs12) gs17)) h21)))⟩⟩))) h16)))), (fun c22 => (Or.imp (fun h23 => ⟨h23.1, ⟨h23.2.1, h23.2.2.1, (hK _ _ (fr_sD (fr_sR 20 f)) h23.2.2.2)⟩⟩) (fun h24 => (Exists.elim h24 (fun b19 e25 => ⟨b19, ⟨e25.1, (fm_w_307 _ _ _ _ (fr_rfl _ _) e25.2 (fun r21 s20 gs20 h26 => (Or.imp (fun h27 => ⟨h27.1, (fm_w_303_F1 _ _ (fr_rfl _ _) h27.2 (fun r24 s23 gs23 h29 => (hK _ _ (fr_sR 20 (fr_tr fsb_0_45 (fr_tr fsb_0_45 f gs20) gs23)) h29)))⟩) (fun h28 => (Exists.elim h28 (fun b22 e30 => ⟨b22, ⟨e30.1, (fm_w_303 _ _ _ (fr_rfl _ _) e30.2 (fun r26 s25 gs25 h31 => (hK _ _ (fr_sR 20 (fr_tr fsb_20_45 (fr_tr fsb_0_45 f gs20) gs25)) h31)))⟩⟩))) h26)))⟩⟩))) (e14.2.2 c22)))⟩⟩⟩))))⟩⟩))) h)
theorem fm_w_296_R20 {s0 : ST} {K K' : Nat → ST → Prop} (s : ST) (f : Fr fs45 s0 s) (h : w_296_R20  s K) (hK : ∀ (v0 : Nat) (s1 : ST), Fr fs45 s0 s1 → K v0 s1 → K' v0 s1) : w_296_R20  s K' := by
  unfold w_296_R20 at h ⊢
  exact (fm_w_295_R20 _ _ (fr_rfl _ _) h (fun r2 s1 gs1 h1 => (hK _ _ (fr_tr fsb_45_45 f gs1) h1)))
theorem fm_w_300_R20_F1 {s0 : ST} {K K' : ST → Prop} (p1 : Nat) (p3 : Int32) (s : ST) (f : Fr fs46 s0 s) (h : w_300_R20_F1 p1 p3 s K) (hK : ∀ (s1 : ST), Fr fs46 s0 s1 → K s1 → K' s1) : w_300_R20_F1 p1 p3 s K' := by
  unfold w_300_R20_F1 at h ⊢
  exact ⟨(fun c1 => (h.1 c1)), (fun c2 => (fm_w_296_R20 _ (fr_rfl _ _) (h.2 c2) (fun r2 s1 gs1 h3 => (Exists.elim h3 (fun n3 e4 => (Exists.elim e4 (fun f4 e5 => (Exists.elim e5 (fun o5 e6 => ⟨n3, f4, o5, ⟨e6.1, e6.2.1, e6.2.2.1, (hK _ (fr_sD (fr_sI 2002 (fr_tr fsb_45_46 f gs1))) e6.2.2.2)⟩⟩)))))))))⟩
theorem fm_w_300_R20 {s0 : ST} {K K' : ST → Prop} (p1 : Nat) (p2 : Nat) (p3 : Int32) (s : ST) (f : Fr fs46 s0 s) (h : w_300_R20 p1 p2 p3 s K) (hK : ∀ (s1 : ST), Fr fs46 s0 s1 → K s1 → K' s1) : w_300_R20 p1 p2 p3 s K' := by
  unfold w_300_R20 at h ⊢
  exact (Exists.elim h (fun n1 e1 => (Exists.elim e1 (fun f2 e2 => ⟨n1, f2, ⟨e2.1, ⟨(fun c3 => (Exists.elim (e2.2.1 c3) (fun n3 e4 => (Exists.elim e4 (fun f4 e5 => (Exists.elim e5 (fun o5 e6 => ⟨n3, f4, o5, ⟨e6.1, e6.2.1, e6.2.2.1, (hK _ (fr_sD (fr_sI 2002 f)) e6.2.2.2)⟩⟩))))))), (fun c7 => (fm_w_296_R20 _ (fr_rfl _ _) (e2.2.2 c7) (fun r7 s6 gs6 h8 => (Exists.elim h8 (fun n8 e9 => (Exists.elim e9 (fun f9 e10 => (Exists.elim e10 (fun o10 e11 => ⟨n8, f9, o10, ⟨e11.1, e11.2.1, e11.2.2.1, (hK _ (fr_sD (fr_sI 2002 (fr_tr fsb_45_46 f gs6))) e11.2.2.2)⟩⟩)))))))))⟩⟩⟩))))
theorem fm_w_301_R20 {s0 : ST} {K K' : Int32 → ST → Prop} (p1 : Nat) (s : ST) (f : Fr fs47 s0 s) (h : w_301_R20 p1 s K) (hK : ∀ (v0 : Int32) (s1 : ST), Fr fs47 s0 s1 → K v0 s1 → K' v0 s1) : w_301_R20 p1 s K' := by
  unfold w_301_R20 at h ⊢
  exact (Or.imp (fun h1 => ⟨h1.1, (fm_w_300_R20_F1 _ _ _ (fr_rfl _ _) h1.2 (fun s2 gs2 h3 => (hK _ _ (fr_tr fsb_46_47 (fr_sI 2000 f) gs2) h3)))⟩) (fun h2 => (Exists.elim h2 (fun b1 e4 => ⟨b1, ⟨e4.1, (fm_w_300_R20 _ _ _ _ (fr_rfl _ _) e4.2 (fun s4 gs4 h5 => (hK _ _ (fr_tr fsb_46_47 (fr_sI 2000 f) gs4) h5)))⟩⟩))) h)
theorem fm_w_138_R20 {s0 : ST} {K K' : Int32 → ST → Prop} (p0 : Nat) (s : ST) (f : Fr fs47 s0 s) (h : w_138_R20 p0 s K) (hK : ∀ (v0 : Int32) (s1 : ST), Fr fs47 s0 s1 → K v0 s1 → K' v0 s1) : w_138_R20 p0 s K' := by
  unfold w_138_R20 at h ⊢
  exact (fm_w_301_R20 _ _ (fr_rfl _ _) h (fun r2 s1 gs1 h1 => (fm_w_297_R20 _ (fr_rfl _ _) h1 (fun r4 s3 gs3 h2 => (hK _ _ (fr_tr fsb_0_47 (fr_tr fsb_47_47 f gs1) gs3) h2)))))
theorem fm_w_137 {s0 : ST} {K K' : Int32 → ST → Prop} (p1 : Int32) (p2 : Int32) (p3 : Int32) (s : ST) (f : Fr fs48 s0 s) (h : w_137 p1 p2 p3 s K) (hK : ∀ (v0 : Int32) (s1 : ST), Fr fs48 s0 s1 → K v0 s1 → K' v0 s1) : w_137 p1 p2 p3 s K' := by
  unfold w_137 at h ⊢
  exact (fm_w_182 _ _ (fr_rfl _ _) h (fun r2 s1 gs1 h1 => ⟨(fun c2 => (hK _ _ (fr_tr fsb_0_48 f gs1) (h1.1 c2))), (fun c3 => (fm_w_182 _ _ (fr_rfl _ _) (h1.2 c3) (fun r4 s3 gs3 h4 => ⟨(fun c5 => (hK _ _ (fr_tr fsb_0_48 (fr_tr fsb_0_48 f gs1) gs3) (h4.1 c5))), (fun c6 => ⟨(fun c7 => (hK _ _ (fr_tr fsb_0_48 (fr_tr fsb_0_48 f gs1) gs3) ((h4.2 c6).1 c7))), (fun c8 => (fm_w_136 _ _ _ (fr_rfl _ _) ((h4.2 c6).2 c8) (fun r6 s5 gs5 h9 => ⟨(fun c10 => (hK _ _ (fr_tr fsb_0_48 (fr_tr fsb_0_48 (fr_tr fsb_0_48 f gs1) gs3) gs5) (h9.1 c10))), (fun c11 => (fm_w_297_R20 _ (fr_rfl _ _) (h9.2 c11) (fun r8 s7 gs7 h12 => ⟨(fun c13 => (fm_w_62 _ _ _ _ (fr_rfl _ _) (h12.1 c13) (fun r10 s9 gs9 h14 => (fm_w_60 _ (fr_rfl _ _) h14 (fun r12 s11 gs11 h15 => ⟨(fun c16 => (fm_w_138_R20 _ _ (fr_rfl _ _) (h15.1 c16) (fun r14 s13 gs13 h17 => (hK _ _ (fr_tr fsb_47_48 (fr_tr fsb_0_48 (fr_tr fsb_32_48 (fr_sI 7 (fr_tr fsb_0_48 (fr_tr fsb_0_48 (fr_tr fsb_0_48 (fr_tr fsb_0_48 f gs1) gs3) gs5) gs7)) gs9) gs11) gs13) h17)))), (fun c18 => (fm_w_61 _ (fr_rfl _ _) (h15.2 c18) (fun r16 s15 gs15 h19 => (hK _ _ (fr_tr fsb_0_48 (fr_tr fsb_0_48 (fr_tr fsb_32_48 (fr_sI 7 (fr_tr fsb_0_48 (fr_tr fsb_0_48 (fr_tr fsb_0_48 (fr_tr fsb_0_48 f gs1) gs3) gs5) gs7)) gs9) gs11) gs15) h19))))⟩))))), (fun c20 => (hK _ _ (fr_tr fsb_0_48 (fr_tr fsb_0_48 (fr_tr fsb_0_48 (fr_tr fsb_0_48 f gs1) gs3) gs5) gs7) (h12.2 c20)))⟩)))⟩)))⟩)⟩)))⟩))
theorem fm_w_139 {s0 : ST} {K K' : Int32 → ST → Prop} (p1 : Int32) (p2 : Int32) (s : ST) (f : Fr fs49 s0 s) (h : w_139 p1 p2 s K) (hK : ∀ (v0 : Int32) (s1 : ST), Fr fs49 s0 s1 → K v0 s1 → K' v0 s1) : w_139 p1 p2 s K' := by
  unfold w_139 at h ⊢
  exact (fm_w_182 _ _ (fr_rfl _ _) h (fun r2 s1 gs1 h1 => ⟨(fun c2 => (fm_w_111 _ _ (fr_rfl _ _) (h1.1 c2) (fun s3 gs3 h3 => (fm_w_118 _ _ (fr_rfl _ _) h3 (fun r6 s5 gs5 h4 => ⟨(fun c5 => (hK _ _ (fr_tr fsb_0_49 (fr_tr fsb_40_49 (fr_tr fsb_0_49 f gs1) gs3) gs5) (h4.1 c5))), (fun c6 => (fm_w_53 _ _ (fr_rfl _ _) (h4.2 c6) (fun r8 s7 gs7 h7 => (hK _ _ (fr_tr fsb_22_49 (fr_tr fsb_0_49 (fr_tr fsb_40_49 (fr_tr fsb_0_49 f gs1) gs3) gs5) gs7) h7))))⟩))))), (fun c8 => (hK _ _ (fr_tr fsb_0_49 f gs1) (h1.2 c8)))⟩))
theorem fm_w_140 {s0 : ST} {K K' : Int32 → ST → Prop} (p1 : Int32) (p2 : Int32) (s : ST) (f : Fr fs4 s0 s) (h : w_140 p1 p2 s K) (hK : ∀ (v0 : Int32) (s1 : ST), Fr fs4 s0 s1 → K v0 s1 → K' v0 s1) : w_140 p1 p2 s K' := by
  unfold w_140 at h ⊢
  exact (fm_w_2 _ _ (fr_rfl _ _) h (fun r2 s1 gs1 h1 => ⟨(fun c2 => (hK _ _ (fr_tr fsb_0_4 f gs1) (h1.1 c2))), (fun c3 => (fm_w_183 _ _ (fr_rfl _ _) (h1.2 c3) (fun r4 s3 gs3 h4 => ⟨(fun c5 => (hK _ _ (fr_tr fsb_0_4 (fr_tr fsb_0_4 f gs1) gs3) (h4.1 c5))), (fun c6 => (fm_w_9 _ _ _ (fr_rfl _ _) (h4.2 c6) (fun r6 s5 gs5 h7 => ⟨(fun c8 => (fm_w_10 _ _ (fr_rfl _ _) (h7.1 c8) (fun s7 gs7 h9 => (hK _ _ (fr_tr fsb_4_4 (fr_tr fsb_0_4 (fr_tr fsb_0_4 (fr_tr fsb_0_4 f gs1) gs3) gs5) gs7) h9)))), (fun c10 => (hK _ _ (fr_tr fsb_0_4 (fr_tr fsb_0_4 (fr_tr fsb_0_4 f gs1) gs3) gs5) (h7.2 c10)))⟩)))⟩)))⟩))
theorem fm_w_141 {s0 : ST} {K K' : Int32 → ST → Prop} (p1 : Int32) (s : ST) (f : Fr fs49 s0 s) (h : w_141 p1 s K) (hK : ∀ (v0 : Int32) (s1 : ST), Fr fs49 s0 s1 → K v0 s1 → K' v0 s1) : w_141 p1 s K' := by
  unfold w_141 at h ⊢
  exact (fm_w_182 _ _ (fr_rfl _ _) h (fun r2 s1 gs1 h1 => ⟨(fun c2 => (fm_w_111 _ _ (fr_rfl _ _) (h1.1 c2) (fun s3 gs3 h3 => (fm_w_57 _ (fr_rfl _ _) h3 (fun r6 s5 gs5 h4 => (hK _ _ (fr_tr fsb_22_49 (fr_tr fsb_40_49 (fr_tr fsb_0_49 f gs1) gs3) gs5) h4)))))), (fun c5 => (hK _ _ (fr_tr fsb_0_49 f gs1) (h1.2 c5)))⟩))
theorem fm_w_142_L15 {s0 : ST} {X38 X38' : ST → Prop} {X33 X33' : Int32 → ST → Prop} {K K' : Int32 → ST → Prop} (hX38 : ∀ (s1 : ST), Fr fs49 s0 s1 → X38 s1 → X38' s1) (hX33 : ∀ (v0 : Int32) (s1 : ST), Fr fs49 s0 s1 → X33 v0 s1 → X33' v0 s1) (hK : ∀ (v0 : Int32) (s1 : ST), Fr fs49 s0 s1 → K v0 s1 → K' v0 s1) : ∀ (n : Nat) (x2 : Int32) (x3 : Int32) (x4 : Int32) (s : ST), Fr fs49 s0 s → w_142_L15 n x2 x3 x4 s X38 X33 K → w_142_L15 n x2 x3 x4 s X38' X33' K' := by
  intro n
  induction n with
  | zero => intro x2 x3 x4 s f h; exact h.elim
  | succ n ih =>
    intro x2 x3 x4 s f h
    rw [w_142_L15] at h
    rw [w_142_L15]
    exact ⟨(fun c1 => (hX38 _ f (h.1 c1))), (fun c2 => (fm_w_123 _ _ (fr_rfl _ _) (h.2 c2) (fun r6 s5 gs5 h3 => (fm_w_56 _ _ (fr_rfl _ _) h3 (fun r8 s7 gs7 h4 => ⟨(fun c5 => (ih _ _ _ _ (fr_tr fsb_22_49 (fr_tr fsb_0_49 f gs5) gs7) (h4.1 c5))), (fun c6 => ⟨(fun c7 => (ih _ _ _ _ (fr_tr fsb_22_49 (fr_tr fsb_0_49 f gs5) gs7) ((h4.2 c6).1 c7))), (fun c8 => (hX33 _ _ (fr_tr fsb_22_49 (fr_tr fsb_0_49 f gs5) gs7) ((h4.2 c6).2 c8)))⟩)⟩)))))⟩
theorem fm_w_142 {s0 : ST} {K K' : Int32 → ST → Prop} (p1 : Int32) (p2 : Int32) (s : ST) (f : Fr fs49 s0 s) (h : w_142 p1 p2 s K) (hK : ∀ (v0 : Int32) (s1 : ST), Fr fs49 s0 s1 → K v0 s1 → K' v0 s1) : w_142 p1 p2 s K' := by
  unfold w_142 at h ⊢
  exact (fm_w_182 _ _ (fr_rfl _ _) h (fun r2 s1 gs1 h1 => ⟨(fun c2 => (hK _ _ (fr_tr fsb_0_49 f gs1) (h1.1 c2))), (fun c3 => ⟨(fun c4 => (fm_w_111 _ _ (fr_rfl _ _) ((h1.2 c3).1 c4) (fun s3 gs3 h5 => (Exists.elim h5 (fun m e6 => ⟨m, (fm_w_142_L15 (fun s9 gs9 h7 => (hK _ _ gs9 h7)) (fun y5 s10 gs10 h8 => (hK _ _ gs10 h8)) hK m _ _ _ _ (fr_tr fsb_40_49 (fr_tr fsb_0_49 f gs1) gs3) e6)⟩))))), (fun c9 => (hK _ _ (fr_tr fsb_0_49 f gs1) ((h1.2 c3).2 c9)))⟩)⟩))
theorem fm_w_144_L2 {s0 : ST} {X21 X21' : ST → Prop} {X17 X17' : ST → Prop} {K K' : Int32 → ST → Prop} (hX21 : ∀ (s1 : ST), Fr fs0 s0 s1 → X21 s1 → X21' s1) (hX17 : ∀ (s1 : ST), Fr fs0 s0 s1 → X17 s1 → X17' s1) (hK : ∀ (v0 : Int32) (s1 : ST), Fr fs0 s0 s1 → K v0 s1 → K' v0 s1) : ∀ (n : Nat) (x1 : Int32) (x2 : Int32) (s : ST), Fr fs0 s0 s → w_144_L2 n x1 x2 s X21 X17 K → w_144_L2 n x1 x2 s X21' X17' K' := by
  intro n
  induction n with
  | zero => intro x1 x2 s f h; exact h.elim
  | succ n ih =>
    intro x1 x2 s f h
    rw [w_144_L2] at h
    rw [w_144_L2]
    exact ⟨(fun c1 => (hX21 _ f (h.1 c1))), (fun c2 => ⟨(fun c3 => (hX21 _ f ((h.2 c2).1 c3))), (fun c4 => ⟨((h.2 c2).2 c4).1, ⟨((h.2 c2).2 c4).2.1, ⟨(fun c5 => (ih _ _ _ f (((h.2 c2).2 c4).2.2.1 c5))), (fun c6 => (hX17 _ f (((h.2 c2).2 c4).2.2.2 c6)))⟩⟩⟩)⟩)⟩
theorem fm_w_144 {s0 : ST} {K K' : Int32 → ST → Prop} (p1 : Int32) (s : ST) (f : Fr fs0 s0 s) (h : w_144 p1 s K) (hK : ∀ (v0 : Int32) (s1 : ST), Fr fs0 s0 s1 → K v0 s1 → K' v0 s1) : w_144 p1 s K' := by
  unfold w_144 at h ⊢
  exact (Exists.elim h (fun m e1 => ⟨m, (fm_w_144_L2 (fun s1 gs1 h2 => (hK _ _ gs1 h2)) (fun s2 gs2 h3 => (hK _ _ gs2 h3)) hK m _ _ _ f e1)⟩))
theorem fm_w_146_L4 {s0 : ST} {X26 X26' : Int32 → ST → Prop} {K K' : Int32 → ST → Prop} (hX26 : ∀ (v0 : Int32) (s1 : ST), Fr fs0 s0 s1 → X26 v0 s1 → X26' v0 s1) (hK : ∀ (v0 : Int32) (s1 : ST), Fr fs0 s0 s1 → K v0 s1 → K' v0 s1) : ∀ (n : Nat) (x1 : Int32) (x2 : Int32) (x3 : Int32) (x4 : Int32) (s : ST), Fr fs0 s0 s → w_146_L4 n x1 x2 x3 x4 s X26 K → w_146_L4 n x1 x2 x3 x4 s X26' K' := by
  intro n
  induction n with
  | zero => intro x1 x2 x3 x4 s f h; exact h.elim
  | succ n ih =>
    intro x1 x2 x3 x4 s f h
    rw [w_146_L4] at h
    rw [w_146_L4]
    exact ⟨(fun c1 => (hX26 _ _ f (h.1 c1))), (fun c2 => ⟨(fun c3 => (hX26 _ _ f ((h.2 c2).1 c3))), (fun c4 => (fm_w_184 _ _ _ (fr_rfl _ _) ((h.2 c2).2 c4) (fun r2 s1 gs1 h5 => ⟨(fun c6 => (ih _ _ _ _ _ (fr_tr fsb_0_0 f gs1) (h5.1 c6))), (fun c7 => ⟨(h5.2 c7).1, (fm_w_119 _ _ (fr_rfl _ _) (h5.2 c7).2 (fun r4 s3 gs3 h8 => (ih _ _ _ _ _ (fr_tr fsb_0_0 (fr_tr fsb_0_0 f gs1) gs3) h8)))⟩)⟩)))⟩)⟩
theorem fm_w_146 {s0 : ST} {K K' : Int32 → ST → Prop} (p1 : Int32) (p2 : Int32) (s : ST) (f : Fr fs0 s0 s) (h : w_146 p1 p2 s K) (hK : ∀ (v0 : Int32) (s1 : ST), Fr fs0 s0 s1 → K v0 s1 → K' v0 s1) : w_146 p1 p2 s K' := by
  unfold w_146 at h ⊢
  exact (Exists.elim h (fun m e1 => ⟨m, (fm_w_146_L4 (fun y3 s5 gs5 h2 => (hK _ _ gs5 h2)) hK m _ _ _ _ _ f e1)⟩))
theorem fm_w_145_L8 {s0 : ST} {X30 X30' : Int32 → ST → Prop} {K K' : Int32 → ST → Prop} (hX30 : ∀ (v0 : Int32) (s1 : ST), Fr fs0 s0 s1 → X30 v0 s1 → X30' v0 s1) (hK : ∀ (v0 : Int32) (s1 : ST), Fr fs0 s0 s1 → K v0 s1 → K' v0 s1) : ∀ (n : Nat) (x1 : Int32) (x2 : Int32) (x3 : Int32) (x4 : Int32) (x5 : Int32) (s : ST), Fr fs0 s0 s → w_145_L8 n x1 x2 x3 x4 x5 s X30 K → w_145_L8 n x1 x2 x3 x4 x5 s X30' K' := by
  intro n
  induction n with
  | zero => intro x1 x2 x3 x4 x5 s f h; exact h.elim
  | succ n ih =>
    intro x1 x2 x3 x4 x5 s f h
    rw [w_145_L8] at h
    rw [w_145_L8]
    exact ⟨(fun c1 => (hX30 _ _ f (h.1 c1))), (fun c2 => (fm_w_283 _ _ (fr_rfl _ _) (h.2 c2) (fun r2 s1 gs1 h3 => ⟨(fun c4 => (ih _ _ _ _ _ _ (fr_tr fsb_0_0 f gs1) (h3.1 c4))), (fun c5 => (fm_w_146 _ _ _ (fr_rfl _ _) (h3.2 c5) (fun r4 s3 gs3 h6 => ⟨(fun c7 => (ih _ _ _ _ _ _ (fr_tr fsb_0_0 (fr_tr fsb_0_0 f gs1) gs3) (h6.1 c7))), (fun c8 => (fm_w_283 _ _ (fr_rfl _ _) (h6.2 c8) (fun r6 s5 gs5 h9 => (ih _ _ _ _ _ _ (fr_tr fsb_0_0 (fr_tr fsb_0_0 (fr_tr fsb_0_0 f gs1) gs3) gs5) h9))))⟩)))⟩)))⟩
theorem fm_w_145 {s0 : ST} {K K' : Int32 → ST → Prop} (p1 : Int32) (p2 : Int32) (s : ST) (f : Fr fs0 s0 s) (h : w_145 p1 p2 s K) (hK : ∀ (v0 : Int32) (s1 : ST), Fr fs0 s0 s1 → K v0 s1 → K' v0 s1) : w_145 p1 p2 s K' := by
  unfold w_145 at h ⊢
  exact (Exists.elim h (fun m e1 => ⟨m, (fm_w_145_L8 (fun y3 s7 gs7 h2 => (hK _ _ gs7 h2)) hK m _ _ _ _ _ _ f e1)⟩))
theorem fm_w_143_L25 {s0 : ST} {X57 X57' : Int32 → Int32 → Int32 → ST → Prop} {X43 X43' : ST → Prop} {K K' : Int32 → ST → Prop} (hX57 : ∀ (v0 : Int32) (v1 : Int32) (v2 : Int32) (s1 : ST), Fr fs50 s0 s1 → X57 v0 v1 v2 s1 → X57' v0 v1 v2 s1) (hX43 : ∀ (s1 : ST), Fr fs50 s0 s1 → X43 s1 → X43' s1) (hK : ∀ (v0 : Int32) (s1 : ST), Fr fs50 s0 s1 → K v0 s1 → K' v0 s1) : ∀ (n : Nat) (x1 : Int32) (x2 : Int32) (x3 : Int32) (x4 : Int32) (s : ST), Fr fs50 s0 s → w_143_L25 n x1 x2 x3 x4 s X57 X43 K → w_143_L25 n x1 x2 x3 x4 s X57' X43' K' := by
  intro n
  induction n with
  | zero => intro x1 x2 x3 x4 s f h; exact h.elim
  | succ n ih =>
    intro x1 x2 x3 x4 s f h
    rw [w_143_L25] at h
    rw [w_143_L25]
    exact ⟨(fun c1 => (hX57 _ _ _ _ f (h.1 c1))), (fun c2 => ⟨(fun c3 => (hX57 _ _ _ _ f ((h.2 c2).1 c3))), (fun c4 => ⟨((h.2 c2).2 c4).1, (fm_w_118 _ _ (fr_rfl _ _) ((h.2 c2).2 c4).2 (fun r8 s7 gs7 h5 => ⟨(fun c6 => (hX43 _ (fr_tr fsb_0_50 f gs7) (h5.1 c6))), (fun c7 => (fm_w_144 _ _ (fr_rfl _ _) (h5.2 c7) (fun r10 s9 gs9 h8 => ⟨(fun c9 => ⟨(h8.1 c9).1, (fm_w_119 _ _ (fr_rfl _ _) (h8.1 c9).2 (fun r12 s11 gs11 h10 => (ih _ _ _ _ _ (fr_tr fsb_0_50 (fr_tr fsb_0_50 (fr_tr fsb_0_50 f gs7) gs9) gs11) h10)))⟩), (fun c11 => (hX43 _ (fr_tr fsb_0_50 (fr_tr fsb_0_50 f gs7) gs9) (h8.2 c11)))⟩)))⟩))⟩)⟩)⟩
theorem fm_w_143 {s0 : ST} {K K' : Int32 → ST → Prop} (p1 : Int32) (p2 : Int32) (s : ST) (f : Fr fs50 s0 s) (h : w_143 p1 p2 s K) (hK : ∀ (v0 : Int32) (s1 : ST), Fr fs50 s0 s1 → K v0 s1 → K' v0 s1) : w_143 p1 p2 s K' := by
  unfold w_143 at h ⊢
  exact (fm_w_181 _ _ _ _ (fr_rfl _ _) h (fun r2 s1 gs1 h1 => ⟨(fun c2 => (hK _ _ (fr_tr fsb_0_50 f gs1) (h1.1 c2))), (fun c3 => (fm_w_136 _ _ _ (fr_rfl _ _) (h1.2 c3) (fun r4 s3 gs3 h4 => ⟨(fun c5 => (fm_w_111 _ _ (fr_rfl _ _) (h4.1 c5) (fun s5 gs5 h6 => (Exists.elim h6 (fun m e7 => ⟨m, (fm_w_143_L25 (fun y1 y2 y3 s13 gs13 h8 => ⟨(fun c9 => (fm_w_145 _ _ _ (fr_rfl _ _) (h8.1 c9) (fun r15 s14 gs14 h10 => (hK _ _ (fr_tr fsb_0_50 gs13 gs14) h10)))), (fun c11 => (hK _ _ gs13 (h8.2 c11)))⟩) (fun s16 gs16 h12 => (hK _ _ gs16 h12)) hK m _ _ _ _ _ (fr_tr fsb_40_50 (fr_sI 7 (fr_tr fsb_0_50 (fr_tr fsb_0_50 f gs1) gs3)) gs5) e7)⟩))))), (fun c13 => (hK _ _ (fr_tr fsb_0_50 (fr_tr fsb_0_50 f gs1) gs3) (h4.2 c13)))⟩)))⟩))
theorem fm_w_147 {s0 : ST} {K K' : Int32 → ST → Prop} (p1 : Int32) (p2 : Int32) (p3 : Int32) (s : ST) (f : Fr fs51 s0 s) (h : w_147 p1 p2 p3 s K) (hK : ∀ (v0 : Int32) (s1 : ST), Fr fs51 s0 s1 → K v0 s1 → K' v0 s1) : w_147 p1 p2 p3 s K' := by
  unfold w_147 at h ⊢
  exact (fm_w_1 _ _ (fr_rfl _ _) h (fun r2 s1 gs1 h1 => ⟨(fun c2 => (hK _ _ (fr_tr fsb_0_51 f gs1) (h1.1 c2))), (fun c3 => (fm_w_1 _ _ (fr_rfl _ _) (h1.2 c3) (fun r4 s3 gs3 h4 => ⟨(fun c5 => (fm_w_111 _ _ (fr_rfl _ _) (h4.1 c5) (fun s5 gs5 h6 => (fm_w_40 _ _ _ _ (fr_rfl _ _) h6 (fun r8 s7 gs7 h7 => (hK _ _ (fr_tr fsb_19_51 (fr_tr fsb_40_51 (fr_tr fsb_0_51 (fr_tr fsb_0_51 f gs1) gs3) gs5) gs7) h7)))))), (fun c8 => (hK _ _ (fr_tr fsb_0_51 (fr_tr fsb_0_51 f gs1) gs3) (h4.2 c8)))⟩)))⟩))
theorem fm_w_148 {s0 : ST} {K K' : Int32 → ST → Prop} (p1 : Int32) (p2 : Int32) (s : ST) (f : Fr fs52 s0 s) (h : w_148 p1 p2 s K) (hK : ∀ (v0 : Int32) (s1 : ST), Fr fs52 s0 s1 → K v0 s1 → K' v0 s1) : w_148 p1 p2 s K' := by
  unfold w_148 at h ⊢
  exact (fm_w_182 _ _ (fr_rfl _ _) h (fun r2 s1 gs1 h1 => ⟨(fun c2 => (hK _ _ (fr_tr fsb_0_52 f gs1) (h1.1 c2))), (fun c3 => (fm_w_181 _ _ _ _ (fr_rfl _ _) (h1.2 c3) (fun r4 s3 gs3 h4 => ⟨(fun c5 => (fm_w_111 _ _ (fr_rfl _ _) (h4.1 c5) (fun s5 gs5 h6 => (fm_w_97 _ _ _ (fr_rfl _ _) h6 (fun r8 s7 gs7 h7 => (hK _ _ (fr_tr fsb_35_52 (fr_tr fsb_40_52 (fr_tr fsb_0_52 (fr_tr fsb_0_52 f gs1) gs3) gs5) gs7) h7)))))), (fun c8 => (hK _ _ (fr_tr fsb_0_52 (fr_tr fsb_0_52 f gs1) gs3) (h4.2 c8)))⟩)))⟩))
theorem fm_w_297_R22 {s0 : ST} {K K' : Int32 → ST → Prop} (s : ST) (f : Fr fs0 s0 s) (h : w_297_R22  s K) (hK : ∀ (v0 : Int32) (s1 : ST), Fr fs0 s0 s1 → K v0 s1 → K' v0 s1) : w_297_R22  s K' := by
  unfold w_297_R22 at h ⊢
  exact (hK _ _ f h)
theorem fm_w_295_R22 {s0 : ST} {K K' : Nat → ST → Prop} (p1 : Int32) (s : ST) (f : Fr fs53 s0 s) (h : w_295_R22 p1 s K) (hK : ∀ (v0 : Nat) (s1 : ST), Fr fs53 s0 s1 → K v0 s1 → K' v0 s1) : w_295_R22 p1 s K' := by
  unfold w_295_R22 at h ⊢
  exact (Or.imp (fun h1 => ⟨h1.1, (Or.imp (fun h3 => ⟨h3.1, ⟨h3.2.1, h3.2.2.1, (hK _ _ (fr_sD (fr_sR 22 f)) h3.2.2.2)⟩⟩) (fun h4 => (Exists.elim h4 (fun b2 e5 => ⟨b2, ⟨e5.1, (fm_w_307 _ _ _ _ (fr_rfl _ _) e5.2 (fun r4 s3 gs3 h6 => (Or.imp (fun h7 => ⟨h7.1, (fm_w_303_F1 _ _ (fr_rfl _ _) h7.2 (fun r7 s6 gs6 h9 => (hK _ _ (fr_sR 22 (fr_tr fsb_0_53 (fr_tr fsb_0_53 f gs3) gs6)) h9)))⟩) (fun h8 => (Exists.elim h8 (fun b5 e10 => ⟨b5, ⟨e10.1, (fm_w_303 _ _ _ (fr_rfl _ _) e10.2 (fun r9 s8 gs8 h11 => (hK _ _ (fr_sR 22 (fr_tr fsb_20_53 (fr_tr fsb_0_53 f gs3) gs8)) h11)))⟩⟩))) h6)))⟩⟩))) h1.2)⟩) (fun h2 => (Exists.elim h2 (fun b1 e12 => ⟨b1, ⟨e12.1, (Exists.elim e12.2 (fun n10 e13 => (Exists.elim e13 (fun f11 e14 => ⟨n10, f11, ⟨e14.1, ⟨(fun c15 => (fm_w_307 _ _ _ _ (fr_rfl _ _) (e14.2.1 c15) (fun r13 s12 gs12 h16 => (Or.imp (fun h17 => ⟨h17.1, (fm_w_303_F1 _ _ (fr_rfl _ _) h17.2 (fun r16 s15 gs15 h19 => (hK _ _ (fr_sR 22 (fr_tr fsb_0_53 (fr_tr fsb_0_53 f gs12) gs15)) h19)))⟩) (fun h18 => (Exists.elim h18 (fun b14 e20 => ⟨b14, ⟨e20.1, (fm_w_303 _ _ _ (fr_rfl _ _) e20.2 (fun r18 s17 gs17 h21 => (hK _ _ (fr_sR 22 (fr_tr fsb_20_53 (fr_tr fsb_0_53 f gs12) gs17)) h21)))⟩⟩))) h16)))), (fun c22 => (Or.imp (fun h23 => ⟨h23.1, ⟨h23.2.1, h23.2.2.1, (hK _ _ (fr_sD (fr_sR 22 f)) h23.2.2.2)⟩⟩) (fun h24 => (Exists.elim h24 (fun b19 e25 => ⟨b19, ⟨e25.1, (fm_w_307 _ _ _ _ (fr_rfl _ _) e25.2 (fun r21 s20 gs20 h26 => (Or.imp (fun h27 => ⟨h27.1, (fm_w_303_F1 _ _ (fr_rfl _ _) h27.2 (fun r24 s23 gs23 h29 => (hK _ _ (fr_sR 22 (fr_tr fsb_0_53 (fr_tr fsb_0_53 f gs20) gs23)) h29)))⟩) (fun h28 => (Exists.elim h28 (fun b22 e30 => ⟨b22, ⟨e30.1, (fm_w_303 _ _ _ (fr_rfl _ _) e30.2 (fun r26 s25 gs25 h31 => (hK _ _ (fr_sR 22 (fr_tr fsb_20_53 (fr_tr fsb_0_53 f gs20) gs25)) h31)))⟩⟩))) h26)))⟩⟩))) (e14.2.2 c22)))⟩⟩⟩))))⟩⟩))) h)
theorem fm_w_296_R22 {s0 : ST} {K K' : Nat → ST → Prop} (s : ST) (f : Fr fs53 s0 s) (h : w_296_R22  s K) (hK : ∀ (v0 : Nat) (s1 : ST), Fr fs53 s0 s1 → K v0 s1 → K' v0 s1) : w_296_R22  s K' := by
  unfold w_296_R22 at h ⊢
  exact (fm_w_295_R22 _ _ (fr_rfl _ _) h (fun r2 s1 gs1 h1 => (hK _ _ (fr_tr fsb_53_53 f gs1) h1)))
theorem fm_w_300_R22_F1 {s0 : ST} {K K' : ST → Prop} (p1 : Nat) (p3 : Int32) (s : ST) (f : Fr fs54 s0 s) (h : w_300_R22_F1 p1 p3 s K) (hK : ∀ (s1 : ST), Fr fs54 s0 s1 → K s1 → K' s1) : w_300_R22_F1 p1 p3 s K' := by
  unfold w_300_R22_F1 at h ⊢
  exact ⟨(fun c1 => (h.1 c1)), (fun c2 => (fm_w_296_R22 _ (fr_rfl _ _) (h.2 c2) (fun r2 s1 gs1 h3 => (Exists.elim h3 (fun n3 e4 => (Exists.elim e4 (fun f4 e5 => (Exists.elim e5 (fun o5 e6 => ⟨n3, f4, o5, ⟨e6.1, e6.2.1, e6.2.2.1, (hK _ (fr_sD (fr_sI 2202 (fr_tr fsb_53_54 f gs1))) e6.2.2.2)⟩⟩)))))))))⟩
theorem fm_w_300_R22 {s0 : ST} {K K' : ST → Prop} (p1 : Nat) (p2 : Nat) (p3 : Int32) (s : ST) (f : Fr fs54 s0 s) (h : w_300_R22 p1 p2 p3 s K) (hK : ∀ (s1 : ST), Fr fs54 s0 s1 → K s1 → K' s1) : w_300_R22 p1 p2 p3 s K' := by
  unfold w_300_R22 at h ⊢
  exact (Exists.elim h (fun n1 e1 => (Exists.elim e1 (fun f2 e2 => ⟨n1, f2, ⟨e2.1, ⟨(fun c3 => (Exists.elim (e2.2.1 c3) (fun n3 e4 => (Exists.elim e4 (fun f4 e5 => (Exists.elim e5 (fun o5 e6 => ⟨n3, f4, o5, ⟨e6.1, e6.2.1, e6.2.2.1, (hK _ (fr_sD (fr_sI 2202 f)) e6.2.2.2)⟩⟩))))))), (fun c7 => (fm_w_296_R22 _ (fr_rfl _ _) (e2.2.2 c7) (fun r7 s6 gs6 h8 => (Exists.elim h8 (fun n8 e9 => (Exists.elim e9 (fun f9 e10 => (Exists.elim e10 (fun o10 e11 => ⟨n8, f9, o10, ⟨e11.1, e11.2.1, e11.2.2.1, (hK _ (fr_sD (fr_sI 2202 (fr_tr fsb_53_54 f gs6))) e11.2.2.2)⟩⟩)))))))))⟩⟩⟩))))
theorem fm_w_301_R22 {s0 : ST} {K K' : Int32 → ST → Prop} (p1 : Nat) (s : ST) (f : Fr fs55 s0 s) (h : w_301_R22 p1 s K) (hK : ∀ (v0 : Int32) (s1 : ST), Fr fs55 s0 s1 → K v0 s1 → K' v0 s1) : w_301_R22 p1 s K' := by
  unfold w_301_R22 at h ⊢
  exact (Or.imp (fun h1 => ⟨h1.1, (fm_w_300_R22_F1 _ _ _ (fr_rfl _ _) h1.2 (fun s2 gs2 h3 => (hK _ _ (fr_tr fsb_54_55 (fr_sI 2200 f) gs2) h3)))⟩) (fun h2 => (Exists.elim h2 (fun b1 e4 => ⟨b1, ⟨e4.1, (fm_w_300_R22 _ _ _ _ (fr_rfl _ _) e4.2 (fun s4 gs4 h5 => (hK _ _ (fr_tr fsb_54_55 (fr_sI 2200 f) gs4) h5)))⟩⟩))) h)
theorem fm_w_138_R22 {s0 : ST} {K K' : Int32 → ST → Prop} (p0 : Nat) (s : ST) (f : Fr fs55 s0 s) (h : w_138_R22 p0 s K) (hK : ∀ (v0 : Int32) (s1 : ST), Fr fs55 s0 s1 → K v0 s1 → K' v0 s1) : w_138_R22 p0 s K' := by
  unfold w_138_R22 at h ⊢
  exact (fm_w_301_R22 _ _ (fr_rfl _ _) h (fun r2 s1 gs1 h1 => (fm_w_297_R22 _ (fr_rfl _ _) h1 (fun r4 s3 gs3 h2 => (hK _ _ (fr_tr fsb_0_55 (fr_tr fsb_55_55 f gs1) gs3) h2)))))
theorem fm_w_149 {s0 : ST} {K K' : Int32 → ST → Prop} (p1 : Int32) (s : ST) (f : Fr fs56 s0 s) (h : w_149 p1 s K) (hK : ∀ (v0 : Int32) (s1 : ST), Fr fs56 s0 s1 → K v0 s1 → K' v0 s1) : w_149 p1 s K' := by
  unfold w_149 at h ⊢
  exact (fm_w_136 _ _ _ (fr_rfl _ _) h (fun r2 s1 gs1 h1 => ⟨(fun c2 => (hK _ _ (fr_tr fsb_0_56 f gs1) (h1.1 c2))), (fun c3 => (fm_w_297_R22 _ (fr_rfl _ _) (h1.2 c3) (fun r4 s3 gs3 h4 => ⟨(fun c5 => (fm_w_63 _ _ (fr_rfl _ _) (h4.1 c5) (fun r6 s5 gs5 h6 => (fm_w_60 _ (fr_rfl _ _) h6 (fun r8 s7 gs7 h7 => ⟨(fun c8 => (fm_w_138_R22 _ _ (fr_rfl _ _) (h7.1 c8) (fun r10 s9 gs9 h9 => (hK _ _ (fr_tr fsb_55_56 (fr_tr fsb_0_56 (fr_tr fsb_32_56 (fr_sI 7 (fr_tr fsb_0_56 (fr_tr fsb_0_56 f gs1) gs3)) gs5) gs7) gs9) h9)))), (fun c10 => (fm_w_61 _ (fr_rfl _ _) (h7.2 c10) (fun r12 s11 gs11 h11 => (hK _ _ (fr_tr fsb_0_56 (fr_tr fsb_0_56 (fr_tr fsb_32_56 (fr_sI 7 (fr_tr fsb_0_56 (fr_tr fsb_0_56 f gs1) gs3)) gs5) gs7) gs11) h11))))⟩))))), (fun c12 => (hK _ _ (fr_tr fsb_0_56 (fr_tr fsb_0_56 f gs1) gs3) (h4.2 c12)))⟩)))⟩))
theorem fm_w_298_R22 {s0 : ST} {K K' : Nat → ST → Prop} (p1 : Int32) (s : ST) (f : Fr fs0 s0 s) (h : w_298_R22 p1 s K) (hK : ∀ (v0 : Nat) (s1 : ST), Fr fs0 s0 s1 → K v0 s1 → K' v0 s1) : w_298_R22 p1 s K' := by
  unfold w_298_R22 at h ⊢
  exact (Or.imp (fun h1 => ⟨h1.1, h1.2⟩) (fun h2 => (Exists.elim h2 (fun b1 e3 => ⟨b1, ⟨e3.1, (Exists.elim e3.2 (fun n2 e4 => (Exists.elim e4 (fun f3 e5 => (Exists.elim e5 (fun y4 e6 => ⟨n2, f3, y4, ⟨e6.1, e6.2.1, e6.2.2.1, (hK _ _ f e6.2.2.2)⟩⟩))))))⟩⟩))) h)
theorem fm_w_299_R22 {s0 : ST} {K K' : Nat → ST → Prop} (p1 : Int32) (s : ST) (f : Fr fs0 s0 s) (h : w_299_R22 p1 s K) (hK : ∀ (v0 : Nat) (s1 : ST), Fr fs0 s0 s1 → K v0 s1 → K' v0 s1) : w_299_R22 p1 s K' := by
  unfold w_299_R22 at h ⊢
  exact (fm_w_306 _ _ _ (fr_rfl _ _) h (fun r2 s1 gs1 h1 => (fm_w_298_R22 _ _ (fr_rfl _ _) h1 (fun r4 s3 gs3 h2 => (hK _ _ (fr_tr fsb_0_0 (fr_tr fsb_0_0 f gs1) gs3) h2)))))
theorem fm_w_152 {s0 : ST} {K K' : Bool → ST → Prop} (p1 : Int32) (p2 : Int32) (p3 : Int32) (s : ST) (f : Fr fs57 s0 s) (h : w_152 p1 p2 p3 s K) (hK : ∀ (v0 : Bool) (s1 : ST), Fr fs57 s0 s1 → K v0 s1 → K' v0 s1) : w_152 p1 p2 p3 s K' := by
  unfold w_152 at h ⊢
  exact (fm_w_297_R22 _ (fr_rfl _ _) h (fun r2 s1 gs1 h1 => (fm_w_181 _ _ _ _ (fr_rfl _ _) h1 (fun r4 s3 gs3 h2 => ⟨(fun c3 => (hK _ _ (fr_tr fsb_0_57 (fr_tr fsb_0_57 f gs1) gs3) (h2.1 c3))), (fun c4 => (fm_w_182 _ _ (fr_rfl _ _) (h2.2 c4) (fun r6 s5 gs5 h5 => ⟨(fun c6 => (hK _ _ (fr_tr fsb_0_57 (fr_tr fsb_0_57 (fr_tr fsb_0_57 f gs1) gs3) gs5) (h5.1 c6))), (fun c7 => (fm_w_181 _ _ _ _ (fr_rfl _ _) (h5.2 c7) (fun r8 s7 gs7 h8 => ⟨(fun c9 => (fm_w_111 _ _ (fr_rfl _ _) (h8.1 c9) (fun s9 gs9 h10 => (fm_w_299_R22 _ _ (fr_rfl _ _) h10 (fun r12 s11 gs11 h11 => (Exists.elim h11 (fun f13 e12 => ⟨f13, ⟨e12.1, (fm_w_26 _ _ _ (fr_rfl _ _) e12.2 (fun s14 gs14 h13 => (hK _ _ (fr_tr fsb_9_57 (fr_tr fsb_0_57 (fr_tr fsb_40_57 (fr_tr fsb_0_57 (fr_tr fsb_0_57 (fr_tr fsb_0_57 (fr_tr fsb_0_57 f gs1) gs3) gs5) gs7) gs9) gs11) gs14) h13)))⟩⟩))))))), (fun c14 => (hK _ _ (fr_tr fsb_0_57 (fr_tr fsb_0_57 (fr_tr fsb_0_57 (fr_tr fsb_0_57 f gs1) gs3) gs5) gs7) (h8.2 c14)))⟩)))⟩)))⟩))))
theorem fm_w_150 {s0 : ST} {K K' : Int32 → ST → Prop} (p1 : Int32) (p2 : Int32) (p3 : Int32) (s : ST) (f : Fr fs58 s0 s) (h : w_150 p1 p2 p3 s K) (hK : ∀ (v0 : Int32) (s1 : ST), Fr fs58 s0 s1 → K v0 s1 → K' v0 s1) : w_150 p1 p2 p3 s K' := by
  unfold w_150 at h ⊢
  exact (fm_w_152 _ _ _ _ (fr_rfl _ _) h (fun r2 s1 gs1 h1 => ⟨(fun c2 => (fm_w_27 _ _ (fr_rfl _ _) (h1.1 c2) (fun r4 s3 gs3 h3 => (hK _ _ (fr_tr fsb_11_58 (fr_tr fsb_57_58 f gs1) gs3) h3)))), (fun c4 => (hK _ _ (fr_tr fsb_57_58 f gs1) (h1.2 c4)))⟩))
theorem fm_w_151 {s0 : ST} {K K' : Int32 → ST → Prop} (p1 : Int32) (p2 : Int32) (p3 : Int32) (p4 : Int32) (s : ST) (f : Fr fs58 s0 s) (h : w_151 p1 p2 p3 p4 s K) (hK : ∀ (v0 : Int32) (s1 : ST), Fr fs58 s0 s1 → K v0 s1 → K' v0 s1) : w_151 p1 p2 p3 p4 s K' := by
  unfold w_151 at h ⊢
  exact (fm_w_152 _ _ _ _ (fr_rfl _ _) h (fun r2 s1 gs1 h1 => ⟨(fun c2 => (fm_w_29 _ _ _ (fr_rfl _ _) (h1.1 c2) (fun r4 s3 gs3 h3 => (hK _ _ (fr_tr fsb_11_58 (fr_tr fsb_57_58 f gs1) gs3) h3)))), (fun c4 => (hK _ _ (fr_tr fsb_57_58 f gs1) (h1.2 c4)))⟩))
theorem fm_w_109_L2 {s0 : ST} {X23 X23' : ST → Prop} {X15 X15' : Nat → Int32 → ST → Prop} {K K' : Option Nat → ST → Prop} (hX23 : ∀ (s1 : ST), Fr fs0 s0 s1 → X23 s1 → X23' s1) (hX15 : ∀ (v0 : Nat) (v1 : Int32) (s1 : ST), Fr fs0 s0 s1 → X15 v0 v1 s1 → X15' v0 v1 s1) (hK : ∀ (v0 : Option Nat) (s1 : ST), Fr fs0 s0 s1 → K v0 s1 → K' v0 s1) : ∀ (n : Nat) (x0 : Nat) (x1 : Int32) (s : ST), Fr fs0 s0 s → w_109_L2 n x0 x1 s X23 X15 K → w_109_L2 n x0 x1 s X23' X15' K' := by
  intro n
  induction n with
  | zero => intro x0 x1 s f h; exact h.elim
  | succ n ih =>
    intro x0 x1 s f h
    rw [w_109_L2] at h
    rw [w_109_L2]
    exact (Exists.elim h (fun v1 e1 => ⟨v1, ⟨e1.1, (Exists.elim e1.2 (fun f4 e2 => ⟨f4, ⟨e2.1, (fm_w_297 _ _ (fr_rfl _ _) e2.2 (fun r3 s2 gs2 h3 => ⟨(fun c4 => (hX23 _ (fr_tr fsb_0_0 f gs2) (h3.1 c4))), (fun c5 => (Exists.elim (h3.2 c5) (fun v5 e6 => ⟨v5, ⟨e6.1, (Exists.elim e6.2 (fun f8 e7 => ⟨f8, ⟨e7.1, (fm_w_299 _ _ _ (fr_rfl _ _) e7.2 (fun r7 s6 gs6 h8 => (Exists.elim h8 (fun f9 e9 => ⟨f9, ⟨e9.1, (Exists.elim e9.2 (fun v10 e10 => ⟨v10, ⟨e10.1, ⟨(fun c11 => (ih _ _ _ (fr_tr fsb_0_0 (fr_tr fsb_0_0 f gs2) gs6) (e10.2.1 c11))), (fun c12 => (hX15 _ _ _ (fr_tr fsb_0_0 (fr_tr fsb_0_0 f gs2) gs6) (e10.2.2 c12)))⟩⟩⟩))⟩⟩))))⟩⟩))⟩⟩)))⟩))⟩⟩))⟩⟩))
theorem fm_w_109 {s0 : ST} {K K' : Option Nat → ST → Prop} (p0 : Nat) (s : ST) (f : Fr fs0 s0 s) (h : w_109 p0 s K) (hK : ∀ (v0 : Option Nat) (s1 : ST), Fr fs0 s0 s1 → K v0 s1 → K' v0 s1) : w_109 p0 s K' := by
  unfold w_109 at h ⊢
  exact (Exists.elim h (fun m e1 => ⟨m, (fm_w_109_L2 (fun s11 gs11 h2 => (hK _ _ gs11 h2)) (fun y0 y1 s12 gs12 h3 => (Exists.elim h3 (fun v13 e4 => ⟨v13, ⟨e4.1, (Exists.elim e4.2 (fun f16 e5 => ⟨f16, ⟨e5.1, (fm_w_299 _ _ _ (fr_rfl _ _) e5.2 (fun r15 s14 gs14 h6 => (Exists.elim h6 (fun f17 e7 => ⟨f17, ⟨e7.1, (hK _ _ (fr_tr fsb_0_0 gs12 gs14) e7.2)⟩⟩))))⟩⟩))⟩⟩))) hK m _ _ _ f e1)⟩))
theorem fm_w_302_R34_L5 {s0 : ST} {X14 X14' : ST → Prop} {K K' : ST → Prop} (hX14 : ∀ (s1 : ST), Fr fs59 s0 s1 → X14 s1 → X14' s1) (hK : ∀ (s1 : ST), Fr fs59 s0 s1 → K s1 → K' s1) : ∀ (n : Nat) (x1 : Int32) (x2 : Int32) (x3 : Int32) (s : ST), Fr fs59 s0 s → w_302_R34_L5 n x1 x2 x3 s X14 K → w_302_R34_L5 n x1 x2 x3 s X14' K' := by
  intro n
  induction n with
  | zero => intro x1 x2 x3 s f h; exact h.elim
  | succ n ih =>
    intro x1 x2 x3 s f h
    rw [w_302_R34_L5] at h
    rw [w_302_R34_L5]
    exact ⟨(fun c1 => (hX14 _ f (h.1 c1))), (fun c2 => ⟨(h.2 c2).1, (ih _ _ _ _ (fr_sA 34 f) (h.2 c2).2)⟩)⟩
theorem fm_w_302_R34 {s0 : ST} {K K' : ST → Prop} (p1 : Int32) (s : ST) (f : Fr fs59 s0 s) (h : w_302_R34 p1 s K) (hK : ∀ (s1 : ST), Fr fs59 s0 s1 → K s1 → K' s1) : w_302_R34 p1 s K' := by
  unfold w_302_R34 at h ⊢
  exact (Exists.elim h (fun m e1 => ⟨m, (fm_w_302_R34_L5 (fun s1 gs1 h2 => (hK _ gs1 h2)) hK m _ _ _ _ f e1)⟩))
