/-! ===== frames, printed by wip/whole/genfm.py ===== -/
theorem fm_w_1 {s0 : ST} {K K' : Int32 → ST → Prop} (p1 : Int32) (s : ST) (f : Fr fs0 s0 s) (h : w_1 p1 s K) (hK : ∀ (v0 : Int32) (s1 : ST), Fr fs0 s0 s1 → K v0 s1 → K' v0 s1) : w_1 p1 s K' := by
  unfold w_1 at h ⊢
  exact ⟨(fun c1 => (hK _ _ f (h.1 c1))), (fun c2 => ⟨(fun c3 => (hK _ _ f ((h.2 c2).1 c3))), (fun c4 => (hK _ _ f ((h.2 c2).2 c4)))⟩)⟩
theorem fm_w_2 {s0 : ST} {K K' : Int32 → ST → Prop} (p1 : Int32) (s : ST) (f : Fr fs0 s0 s) (h : w_2 p1 s K) (hK : ∀ (v0 : Int32) (s1 : ST), Fr fs0 s0 s1 → K v0 s1 → K' v0 s1) : w_2 p1 s K' := by
  unfold w_2 at h ⊢
  exact ⟨(fun c1 => (hK _ _ f (h.1 c1))), (fun c2 => ⟨(fun c3 => (hK _ _ f ((h.2 c2).1 c3))), (fun c4 => (hK _ _ f ((h.2 c2).2 c4)))⟩)⟩
theorem fm_w_3 {s0 : ST} {K K' : Int32 → ST → Prop} (p1 : Int32) (s : ST) (f : Fr fs1 s0 s) (h : w_3 p1 s K) (hK : ∀ (v0 : Int32) (s1 : ST), Fr fs1 s0 s1 → K v0 s1 → K' v0 s1) : w_3 p1 s K' := by
  unfold w_3 at h ⊢
  exact ⟨(fun c1 => ⟨(h.1 c1).1, (hK _ _ (fr_sA 2 (fr_sI 101 f)) (h.1 c1).2)⟩), (fun c2 => (hK _ _ f (h.2 c2)))⟩
theorem fm_w_4 {s0 : ST} {K K' : Int32 → ST → Prop} (p1 : Int32) (s : ST) (f : Fr fs0 s0 s) (h : w_4 p1 s K) (hK : ∀ (v0 : Int32) (s1 : ST), Fr fs0 s0 s1 → K v0 s1 → K' v0 s1) : w_4 p1 s K' := by
  unfold w_4 at h ⊢
  exact ⟨(fun c1 => (hK _ _ f (h.1 c1))), (fun c2 => ⟨(fun c3 => (hK _ _ f ((h.2 c2).1 c3))), (fun c4 => ⟨((h.2 c2).2 c4).1, (hK _ _ f ((h.2 c2).2 c4).2)⟩)⟩)⟩
theorem fm_w_9 {s0 : ST} {K K' : Int32 → ST → Prop} (p1 : Int32) (p2 : Int32) (s : ST) (f : Fr fs0 s0 s) (h : w_9 p1 p2 s K) (hK : ∀ (v0 : Int32) (s1 : ST), Fr fs0 s0 s1 → K v0 s1 → K' v0 s1) : w_9 p1 p2 s K' := by
  unfold w_9 at h ⊢
  exact ⟨(fun c1 => (hK _ _ f (h.1 c1))), (fun c2 => ⟨(fun c3 => (hK _ _ f ((h.2 c2).1 c3))), (fun c4 => ⟨(fun c5 => (hK _ _ f (((h.2 c2).2 c4).1 c5))), (fun c6 => ⟨(fun c7 => (hK _ _ f ((((h.2 c2).2 c4).2 c6).1 c7))), (fun c8 => ⟨((((h.2 c2).2 c4).2 c6).2 c8).1, (hK _ _ f ((((h.2 c2).2 c4).2 c6).2 c8).2)⟩)⟩)⟩)⟩)⟩
theorem fm_w_7 {s0 : ST} {K K' : Int32 → ST → Prop} (p1 : Int32) (p2 : Int32) (s : ST) (f : Fr fs0 s0 s) (h : w_7 p1 p2 s K) (hK : ∀ (v0 : Int32) (s1 : ST), Fr fs0 s0 s1 → K v0 s1 → K' v0 s1) : w_7 p1 p2 s K' := by
  unfold w_7 at h ⊢
  exact (fm_w_9 _ _ _ (fr_rfl _ _) h (fun r2 s1 gs1 h1 => (fm_w_9 _ _ _ (fr_rfl _ _) h1 (fun r4 s3 gs3 h2 => ⟨(fun c3 => (hK _ _ (fr_tr fsb_0_0 (fr_tr fsb_0_0 f gs1) gs3) (h2.1 c3))), (fun c4 => ⟨(fun c5 => (hK _ _ (fr_tr fsb_0_0 (fr_tr fsb_0_0 f gs1) gs3) ((h2.2 c4).1 c5))), (fun c6 => (fm_w_9 _ _ _ (fr_rfl _ _) ((h2.2 c4).2 c6) (fun r6 s5 gs5 h7 => (fm_w_9 _ _ _ (fr_rfl _ _) h7 (fun r8 s7 gs7 h8 => ⟨(fun c9 => (hK _ _ (fr_tr fsb_0_0 (fr_tr fsb_0_0 (fr_tr fsb_0_0 (fr_tr fsb_0_0 f gs1) gs3) gs5) gs7) (h8.1 c9))), (fun c10 => (hK _ _ (fr_tr fsb_0_0 (fr_tr fsb_0_0 (fr_tr fsb_0_0 (fr_tr fsb_0_0 f gs1) gs3) gs5) gs7) (h8.2 c10)))⟩)))))⟩)⟩))))
theorem fm_w_6_L2 {s0 : ST} {X26 X26' : Int32 → Int32 → ST → Prop} {K K' : ST → Prop} (hX26 : ∀ (v0 : Int32) (v1 : Int32) (s1 : ST), Fr fs2 s0 s1 → X26 v0 v1 s1 → X26' v0 v1 s1) (hK : ∀ (s1 : ST), Fr fs2 s0 s1 → K s1 → K' s1) : ∀ (n : Nat) (x1 : Int32) (x2 : Int32) (s : ST), Fr fs2 s0 s → w_6_L2 n x1 x2 s X26 K → w_6_L2 n x1 x2 s X26' K' := by
  intro n
  induction n with
  | zero => intro x1 x2 s f h; exact h.elim
  | succ n ih =>
    intro x1 x2 s f h
    rw [w_6_L2] at h
    rw [w_6_L2]
    exact ⟨(fun c1 => (hX26 _ _ _ f (h.1 c1))), (fun c2 => ⟨(h.2 c2).1, (fm_w_7 _ _ _ (fr_rfl _ _) (h.2 c2).2 (fun r2 s1 gs1 h3 => ⟨(fun c4 => (hX26 _ _ _ (fr_tr fsb_0_2 f gs1) (h3.1 c4))), (fun c5 => ⟨(h3.2 c5).1, ⟨(h3.2 c5).2.1, (ih _ _ _ (fr_sA 4 (fr_tr fsb_0_2 f gs1)) (h3.2 c5).2.2)⟩⟩)⟩))⟩)⟩
theorem fm_w_6 {s0 : ST} {K K' : ST → Prop} (p1 : Int32) (s : ST) (f : Fr fs2 s0 s) (h : w_6 p1 s K) (hK : ∀ (s1 : ST), Fr fs2 s0 s1 → K s1 → K' s1) : w_6 p1 s K' := by
  unfold w_6 at h ⊢
  exact (Exists.elim h (fun m e1 => ⟨m, (fm_w_6_L2 (fun y1 y2 s3 gs3 h2 => ⟨h2.1, (hK _ (fr_sA 4 gs3) h2.2)⟩) hK m _ _ _ f e1)⟩))
theorem fm_w_5 {s0 : ST} {K K' : Int32 → ST → Prop} (p1 : Nat) (s : ST) (f : Fr fs3 s0 s) (h : w_5 p1 s K) (hK : ∀ (v0 : Int32) (s1 : ST), Fr fs3 s0 s1 → K v0 s1 → K' v0 s1) : w_5 p1 s K' := by
  unfold w_5 at h ⊢
  exact ⟨(fun c1 => (hK _ _ f (h.1 c1))), (fun c2 => (Exists.elim (h.2 c2) (fun n1 e3 => (Exists.elim e3 (fun f2 e4 => ⟨n1, f2, ⟨e4.1, ⟨(fun c5 => (Exists.elim (e4.2.1 c5) (fun n3 e6 => (Exists.elim e6 (fun f4 e7 => ⟨n3, f4, ⟨e7.1, e7.2.1, e7.2.2.1, e7.2.2.2.1, e7.2.2.2.2.1, e7.2.2.2.2.2.1, (fm_w_6 _ _ (fr_rfl _ _) e7.2.2.2.2.2.2 (fun s5 gs5 h8 => (hK _ _ (fr_tr fsb_2_3 (fr_sA 3 (fr_sI 102 f)) gs5) h8)))⟩⟩))))), (fun c9 => (hK _ _ f (e4.2.2 c9)))⟩⟩⟩)))))⟩
theorem fm_w_8 {s0 : ST} {K K' : Int32 → ST → Prop} (p1 : Int32) (s : ST) (f : Fr fs0 s0 s) (h : w_8 p1 s K) (hK : ∀ (v0 : Int32) (s1 : ST), Fr fs0 s0 s1 → K v0 s1 → K' v0 s1) : w_8 p1 s K' := by
  unfold w_8 at h ⊢
  exact ⟨(fun c1 => (hK _ _ f (h.1 c1))), (fun c2 => ⟨(fun c3 => (hK _ _ f ((h.2 c2).1 c3))), (fun c4 => ⟨((h.2 c2).2 c4).1, (hK _ _ f ((h.2 c2).2 c4).2)⟩)⟩)⟩
theorem fm_w_10 {s0 : ST} {K K' : ST → Prop} (p1 : Int32) (s : ST) (f : Fr fs4 s0 s) (h : w_10 p1 s K) (hK : ∀ (s1 : ST), Fr fs4 s0 s1 → K s1 → K' s1) : w_10 p1 s K' := by
  unfold w_10 at h ⊢
  exact (fm_w_2 _ _ (fr_rfl _ _) h (fun r2 s1 gs1 h1 => ⟨(fun c2 => (hK _ (fr_tr fsb_0_4 f gs1) (h1.1 c2))), (fun c3 => ⟨(h1.2 c3).1, (hK _ (fr_sA 3 (fr_tr fsb_0_4 f gs1)) (h1.2 c3).2)⟩)⟩))
theorem fm_w_11 {s0 : ST} {K K' : ST → Prop} (p1 : Int32) (p2 : Int32) (s : ST) (f : Fr fs5 s0 s) (h : w_11 p1 p2 s K) (hK : ∀ (s1 : ST), Fr fs5 s0 s1 → K s1 → K' s1) : w_11 p1 p2 s K' := by
  unfold w_11 at h ⊢
  exact ⟨(fun c1 => (hK _ f (h.1 c1))), (fun c2 => ⟨(h.2 c2).1, ⟨(h.2 c2).2.1, ⟨(h.2 c2).2.2.1, (hK _ (fr_sA 7 (fr_sA 6 (fr_sA 5 (fr_sI 103 f)))) (h.2 c2).2.2.2)⟩⟩⟩)⟩
theorem fm_w_12 {s0 : ST} {K K' : Int32 → ST → Prop} (p1 : Int32) (s : ST) (f : Fr fs0 s0 s) (h : w_12 p1 s K) (hK : ∀ (v0 : Int32) (s1 : ST), Fr fs0 s0 s1 → K v0 s1 → K' v0 s1) : w_12 p1 s K' := by
  unfold w_12 at h ⊢
  exact ⟨(fun c1 => (hK _ _ f (h.1 c1))), (fun c2 => ⟨(fun c3 => (hK _ _ f ((h.2 c2).1 c3))), (fun c4 => ⟨((h.2 c2).2 c4).1, (hK _ _ f ((h.2 c2).2 c4).2)⟩)⟩)⟩
theorem fm_w_13 {s0 : ST} {K K' : Int32 → ST → Prop} (p1 : Int32) (s : ST) (f : Fr fs0 s0 s) (h : w_13 p1 s K) (hK : ∀ (v0 : Int32) (s1 : ST), Fr fs0 s0 s1 → K v0 s1 → K' v0 s1) : w_13 p1 s K' := by
  unfold w_13 at h ⊢
  exact ⟨(fun c1 => (hK _ _ f (h.1 c1))), (fun c2 => ⟨(fun c3 => (hK _ _ f ((h.2 c2).1 c3))), (fun c4 => ⟨((h.2 c2).2 c4).1, (hK _ _ f ((h.2 c2).2 c4).2)⟩)⟩)⟩
theorem fm_w_14 {s0 : ST} {K K' : Int32 → ST → Prop} (p1 : Int32) (s : ST) (f : Fr fs0 s0 s) (h : w_14 p1 s K) (hK : ∀ (v0 : Int32) (s1 : ST), Fr fs0 s0 s1 → K v0 s1 → K' v0 s1) : w_14 p1 s K' := by
  unfold w_14 at h ⊢
  exact ⟨(fun c1 => (hK _ _ f (h.1 c1))), (fun c2 => ⟨(fun c3 => (hK _ _ f ((h.2 c2).1 c3))), (fun c4 => ⟨((h.2 c2).2 c4).1, (hK _ _ f ((h.2 c2).2 c4).2)⟩)⟩)⟩
theorem fm_w_15 {s0 : ST} {K K' : Int32 → ST → Prop} (p1 : Int32) (s : ST) (f : Fr fs0 s0 s) (h : w_15 p1 s K) (hK : ∀ (v0 : Int32) (s1 : ST), Fr fs0 s0 s1 → K v0 s1 → K' v0 s1) : w_15 p1 s K' := by
  unfold w_15 at h ⊢
  exact (fm_w_9 _ _ _ (fr_rfl _ _) h (fun r2 s1 gs1 h1 => ⟨(fun c2 => (fm_w_9 _ _ _ (fr_rfl _ _) (h1.1 c2) (fun r4 s3 gs3 h3 => (hK _ _ (fr_tr fsb_0_0 (fr_tr fsb_0_0 f gs1) gs3) h3)))), (fun c4 => ⟨(fun c5 => (hK _ _ (fr_tr fsb_0_0 f gs1) ((h1.2 c4).1 c5))), (fun c6 => (fm_w_9 _ _ _ (fr_rfl _ _) ((h1.2 c4).2 c6) (fun r6 s5 gs5 h7 => (hK _ _ (fr_tr fsb_0_0 (fr_tr fsb_0_0 f gs1) gs5) h7))))⟩)⟩))
theorem fm_w_16 {s0 : ST} {K K' : Int32 → ST → Prop} (p1 : Int32) (s : ST) (f : Fr fs0 s0 s) (h : w_16 p1 s K) (hK : ∀ (v0 : Int32) (s1 : ST), Fr fs0 s0 s1 → K v0 s1 → K' v0 s1) : w_16 p1 s K' := by
  unfold w_16 at h ⊢
  exact (fm_w_9 _ _ _ (fr_rfl _ _) h (fun r2 s1 gs1 h1 => ⟨(fun c2 => (hK _ _ (fr_tr fsb_0_0 f gs1) (h1.1 c2))), (fun c3 => (fm_w_9 _ _ _ (fr_rfl _ _) (h1.2 c3) (fun r4 s3 gs3 h4 => (hK _ _ (fr_tr fsb_0_0 (fr_tr fsb_0_0 f gs1) gs3) h4))))⟩))
theorem fm_w_17 {s0 : ST} {K K' : Int32 → ST → Prop} (p1 : Int32) (p2 : Int32) (s : ST) (f : Fr fs0 s0 s) (h : w_17 p1 p2 s K) (hK : ∀ (v0 : Int32) (s1 : ST), Fr fs0 s0 s1 → K v0 s1 → K' v0 s1) : w_17 p1 p2 s K' := by
  unfold w_17 at h ⊢
  exact (fm_w_16 _ _ (fr_rfl _ _) h (fun r2 s1 gs1 h1 => ⟨(fun c2 => (fm_w_9 _ _ _ (fr_rfl _ _) (h1.1 c2) (fun r4 s3 gs3 h3 => (fm_w_9 _ _ _ (fr_rfl _ _) h3 (fun r6 s5 gs5 h4 => ⟨(fun c5 => (hK _ _ (fr_tr fsb_0_0 (fr_tr fsb_0_0 (fr_tr fsb_0_0 f gs1) gs3) gs5) (h4.1 c5))), (fun c6 => ⟨(fun c7 => ⟨(fun c8 => (hK _ _ (fr_tr fsb_0_0 (fr_tr fsb_0_0 (fr_tr fsb_0_0 f gs1) gs3) gs5) (((h4.2 c6).1 c7).1 c8))), (fun c9 => (hK _ _ (fr_tr fsb_0_0 (fr_tr fsb_0_0 (fr_tr fsb_0_0 f gs1) gs3) gs5) (((h4.2 c6).1 c7).2 c9)))⟩), (fun c10 => (hK _ _ (fr_tr fsb_0_0 (fr_tr fsb_0_0 (fr_tr fsb_0_0 f gs1) gs3) gs5) ((h4.2 c6).2 c10)))⟩)⟩))))), (fun c11 => (hK _ _ (fr_tr fsb_0_0 f gs1) (h1.2 c11)))⟩))
theorem fm_w_119 {s0 : ST} {K K' : Int32 → ST → Prop} (p1 : Int32) (s : ST) (f : Fr fs0 s0 s) (h : w_119 p1 s K) (hK : ∀ (v0 : Int32) (s1 : ST), Fr fs0 s0 s1 → K v0 s1 → K' v0 s1) : w_119 p1 s K' := by
  unfold w_119 at h ⊢
  exact ⟨(fun c1 => (hK _ _ f (h.1 c1))), (fun c2 => ⟨(fun c3 => (hK _ _ f ((h.2 c2).1 c3))), (fun c4 => ⟨((h.2 c2).2 c4).1, (hK _ _ f ((h.2 c2).2 c4).2)⟩)⟩)⟩
theorem fm_w_121 {s0 : ST} {K K' : Int32 → ST → Prop} (p1 : Int32) (s : ST) (f : Fr fs0 s0 s) (h : w_121 p1 s K) (hK : ∀ (v0 : Int32) (s1 : ST), Fr fs0 s0 s1 → K v0 s1 → K' v0 s1) : w_121 p1 s K' := by
  unfold w_121 at h ⊢
  exact ⟨(fun c1 => (hK _ _ f (h.1 c1))), (fun c2 => ⟨(fun c3 => (hK _ _ f ((h.2 c2).1 c3))), (fun c4 => ⟨((h.2 c2).2 c4).1, (hK _ _ f ((h.2 c2).2 c4).2)⟩)⟩)⟩
theorem fm_w_122 {s0 : ST} {K K' : Int32 → ST → Prop} (p1 : Int32) (s : ST) (f : Fr fs0 s0 s) (h : w_122 p1 s K) (hK : ∀ (v0 : Int32) (s1 : ST), Fr fs0 s0 s1 → K v0 s1 → K' v0 s1) : w_122 p1 s K' := by
  unfold w_122 at h ⊢
  exact ⟨(fun c1 => (hK _ _ f (h.1 c1))), (fun c2 => ⟨(fun c3 => (hK _ _ f ((h.2 c2).1 c3))), (fun c4 => ⟨((h.2 c2).2 c4).1, (hK _ _ f ((h.2 c2).2 c4).2)⟩)⟩)⟩
theorem fm_w_20 {s0 : ST} {K K' : ST → Prop} (p1 : Int32) (s : ST) (f : Fr fs6 s0 s) (h : w_20 p1 s K) (hK : ∀ (s1 : ST), Fr fs6 s0 s1 → K s1 → K' s1) : w_20 p1 s K' := by
  unfold w_20 at h ⊢
  exact (fm_w_9 _ _ _ (fr_rfl _ _) h (fun r2 s1 gs1 h1 => (fm_w_9 _ _ _ (fr_rfl _ _) h1 (fun r4 s3 gs3 h2 => ⟨h2.1, (fm_w_119 _ _ (fr_rfl _ _) h2.2 (fun r6 s5 gs5 h3 => ⟨h3.1, (fm_w_9 _ _ _ (fr_rfl _ _) h3.2 (fun r8 s7 gs7 h4 => ⟨h4.1, (fm_w_9 _ _ _ (fr_rfl _ _) h4.2 (fun r10 s9 gs9 h5 => ⟨h5.1, (fm_w_9 _ _ _ (fr_rfl _ _) h5.2 (fun r12 s11 gs11 h6 => ⟨h6.1, ⟨(fun c7 => ⟨(h6.2.1 c7).1, (fm_w_9 _ _ _ (fr_rfl _ _) (h6.2.1 c7).2 (fun r14 s13 gs13 h8 => ⟨h8.1, (fm_w_16 _ _ (fr_rfl _ _) h8.2 (fun r16 s15 gs15 h9 => ⟨h9.1, (fm_w_15 _ _ (fr_rfl _ _) h9.2 (fun r18 s17 gs17 h10 => ⟨h10.1, (fm_w_9 _ _ _ (fr_rfl _ _) h10.2 (fun r20 s19 gs19 h11 => ⟨h11.1, (fm_w_9 _ _ _ (fr_rfl _ _) h11.2 (fun r22 s21 gs21 h12 => (fm_w_9 _ _ _ (fr_rfl _ _) h12 (fun r24 s23 gs23 h13 => ⟨h13.1, (fm_w_121 _ _ (fr_rfl _ _) h13.2 (fun r26 s25 gs25 h14 => ⟨h14.1, (fm_w_122 _ _ (fr_rfl _ _) h14.2 (fun r28 s27 gs27 h15 => ⟨h15.1, (hK _ (fr_sL 17 (fr_tr fsb_0_6 (fr_sL 17 (fr_tr fsb_0_6 (fr_sL 17 (fr_tr fsb_0_6 (fr_tr fsb_0_6 (fr_sL 17 (fr_tr fsb_0_6 (fr_sL 17 (fr_tr fsb_0_6 (fr_sL 17 (fr_tr fsb_0_6 (fr_sL 17 (fr_tr fsb_0_6 (fr_sL 17 (fr_tr fsb_0_6 (fr_sL 17 (fr_tr fsb_0_6 (fr_sL 17 (fr_tr fsb_0_6 (fr_sL 17 (fr_tr fsb_0_6 (fr_sL 17 (fr_tr fsb_0_6 (fr_tr fsb_0_6 f gs1) gs3)) gs5)) gs7)) gs9)) gs11)) gs13)) gs15)) gs17)) gs19)) gs21) gs23)) gs25)) gs27)) h15.2)⟩))⟩))⟩))))⟩))⟩))⟩))⟩))⟩), (fun c16 => ⟨(h6.2.2 c16).1, (fm_w_9 _ _ _ (fr_rfl _ _) (h6.2.2 c16).2 (fun r30 s29 gs29 h17 => ⟨h17.1, (fm_w_16 _ _ (fr_rfl _ _) h17.2 (fun r32 s31 gs31 h18 => ⟨h18.1, (fm_w_15 _ _ (fr_rfl _ _) h18.2 (fun r34 s33 gs33 h19 => ⟨h19.1, (fm_w_9 _ _ _ (fr_rfl _ _) h19.2 (fun r36 s35 gs35 h20 => ⟨h20.1, (fm_w_9 _ _ _ (fr_rfl _ _) h20.2 (fun r38 s37 gs37 h21 => (fm_w_9 _ _ _ (fr_rfl _ _) h21 (fun r40 s39 gs39 h22 => ⟨h22.1, (fm_w_121 _ _ (fr_rfl _ _) h22.2 (fun r42 s41 gs41 h23 => ⟨h23.1, (fm_w_122 _ _ (fr_rfl _ _) h23.2 (fun r44 s43 gs43 h24 => ⟨h24.1, (hK _ (fr_sL 17 (fr_tr fsb_0_6 (fr_sL 17 (fr_tr fsb_0_6 (fr_sL 17 (fr_tr fsb_0_6 (fr_tr fsb_0_6 (fr_sL 17 (fr_tr fsb_0_6 (fr_sL 17 (fr_tr fsb_0_6 (fr_sL 17 (fr_tr fsb_0_6 (fr_sL 17 (fr_tr fsb_0_6 (fr_sL 17 (fr_tr fsb_0_6 (fr_sL 17 (fr_tr fsb_0_6 (fr_sL 17 (fr_tr fsb_0_6 (fr_sL 17 (fr_tr fsb_0_6 (fr_sL 17 (fr_tr fsb_0_6 (fr_tr fsb_0_6 f gs1) gs3)) gs5)) gs7)) gs9)) gs11)) gs29)) gs31)) gs33)) gs35)) gs37) gs39)) gs41)) gs43)) h24.2)⟩))⟩))⟩))))⟩))⟩))⟩))⟩))⟩)⟩⟩))⟩))⟩))⟩))⟩))))
theorem fm_w_22 {s0 : ST} {K K' : Int64 → ST → Prop} (p1 : Int32) (s : ST) (f : Fr fs0 s0 s) (h : w_22 p1 s K) (hK : ∀ (v0 : Int64) (s1 : ST), Fr fs0 s0 s1 → K v0 s1 → K' v0 s1) : w_22 p1 s K' := by
  unfold w_22 at h ⊢
  exact ⟨(fun c1 => (hK _ _ f (h.1 c1))), (fun c2 => ⟨(fun c3 => (hK _ _ f ((h.2 c2).1 c3))), (fun c4 => ⟨((h.2 c2).2 c4).1, (hK _ _ f ((h.2 c2).2 c4).2)⟩)⟩)⟩
theorem fm_w_23 {s0 : ST} {K K' : Int32 → ST → Prop} (p0 : Int32) (p1 : Int64) (s : ST) (f : Fr fs0 s0 s) (h : w_23 p0 p1 s K) (hK : ∀ (v0 : Int32) (s1 : ST), Fr fs0 s0 s1 → K v0 s1 → K' v0 s1) : w_23 p0 p1 s K' := by
  unfold w_23 at h ⊢
  exact ⟨(fun c1 => (hK _ _ f (h.1 c1))), (fun c2 => ⟨(fun c3 => (hK _ _ f ((h.2 c2).1 c3))), (fun c4 => ⟨(fun c5 => (hK _ _ f (((h.2 c2).2 c4).1 c5))), (fun c6 => (hK _ _ f (((h.2 c2).2 c4).2 c6)))⟩)⟩)⟩
theorem fm_w_24 {s0 : ST} {K K' : Int64 → ST → Prop} (p0 : Int32) (p1 : Int64) (p2 : Int64) (s : ST) (f : Fr fs0 s0 s) (h : w_24 p0 p1 p2 s K) (hK : ∀ (v0 : Int64) (s1 : ST), Fr fs0 s0 s1 → K v0 s1 → K' v0 s1) : w_24 p0 p1 p2 s K' := by
  unfold w_24 at h ⊢
  exact ⟨(fun c1 => ⟨(fun c2 => (hK _ _ f ((h.1 c1).1 c2))), (fun c3 => (hK _ _ f ((h.1 c1).2 c3)))⟩), (fun c4 => (hK _ _ f (h.2.1 c4))), (fun c5 => (hK _ _ f (h.2.2.1 c5))), (fun c6 => (hK _ _ f (h.2.2.2.1 c6))), (fun c7 => ⟨(fun c8 => ⟨((h.2.2.2.2.1 c7).1 c8).1, (hK _ _ f ((h.2.2.2.2.1 c7).1 c8).2)⟩), (fun c9 => (hK _ _ f ((h.2.2.2.2.1 c7).2 c9)))⟩), (fun c10 => ⟨(fun c11 => ⟨((h.2.2.2.2.2.1 c10).1 c11).1, (hK _ _ f ((h.2.2.2.2.2.1 c10).1 c11).2)⟩), (fun c12 => (hK _ _ f ((h.2.2.2.2.2.1 c10).2 c12)))⟩), (fun c13 => ⟨(fun c14 => (hK _ _ f ((h.2.2.2.2.2.2.1 c13).1 c14))), (fun c15 => (hK _ _ f ((h.2.2.2.2.2.2.1 c13).2 c15)))⟩), (fun c16 => ⟨(fun c17 => (hK _ _ f ((h.2.2.2.2.2.2.2 c16).1 c17))), (fun c18 => (hK _ _ f ((h.2.2.2.2.2.2.2 c16).2 c18)))⟩)⟩
theorem fm_w_21_L4 {s0 : ST} {X147 X147' : Int32 → ST → Prop} {X30 X30' : ST → Prop} {X54 X54' : ST → Prop} {X122 X122' : ST → Prop} {K K' : Int32 → ST → Prop} (hX147 : ∀ (v0 : Int32) (s1 : ST), Fr fs7 s0 s1 → X147 v0 s1 → X147' v0 s1) (hX30 : ∀ (s1 : ST), Fr fs7 s0 s1 → X30 s1 → X30' s1) (hX54 : ∀ (s1 : ST), Fr fs7 s0 s1 → X54 s1 → X54' s1) (hX122 : ∀ (s1 : ST), Fr fs7 s0 s1 → X122 s1 → X122' s1) (hK : ∀ (v0 : Int32) (s1 : ST), Fr fs7 s0 s1 → K v0 s1 → K' v0 s1) : ∀ (n : Nat) (x1 : Nat) (x2 : Int32) (x3 : Int32) (s : ST), Fr fs7 s0 s → w_21_L4 n x1 x2 x3 s X147 X30 X54 X122 K → w_21_L4 n x1 x2 x3 s X147' X30' X54' X122' K' := by
  intro n
  induction n with
  | zero => intro x1 x2 x3 s f h; exact h.elim
  | succ n ih =>
    intro x1 x2 x3 s f h
    rw [w_21_L4] at h
    rw [w_21_L4]
    exact (Exists.elim h (fun n1 e1 => (Exists.elim e1 (fun f2 e2 => ⟨n1, f2, ⟨e2.1, ⟨(fun c3 => (hX147 _ _ f (e2.2.1 c3))), (fun c4 => (Exists.elim (e2.2.2 c4) (fun n3 e5 => (Exists.elim e5 (fun f4 e6 => ⟨n3, f4, ⟨e6.1, e6.2.1, (Exists.elim e6.2.2 (fun n5 e7 => (Exists.elim e7 (fun f6 e8 => ⟨n5, f6, ⟨e8.1, e8.2.1, ⟨(fun c9 => ⟨(fun c10 => ⟨(fun c11 => (fm_w_22 _ _ (fr_rfl _ _) (((e8.2.2.1 c9).1 c10).1 c11) (fun r8 s7 gs7 h12 => ⟨h12.1, (ih _ _ _ _ (fr_sL 18 (fr_tr fsb_0_7 f gs7)) h12.2)⟩))), (fun c13 => ⟨(((e8.2.2.1 c9).1 c10).2 c13).1, (ih _ _ _ _ (fr_sL 18 f) (((e8.2.2.1 c9).1 c10).2 c13).2)⟩)⟩), (fun c14 => (hX30 _ f ((e8.2.2.1 c9).2 c14)))⟩), (fun c15 => ⟨(fun c16 => ⟨(fun c17 => (hX54 _ f (((e8.2.2.2 c15).1 c16).1 c17))), (fun c18 => ⟨(fun c19 => ⟨(fun c20 => ⟨(fun c21 => ⟨((((((e8.2.2.2 c15).1 c16).2 c18).1 c19).1 c20).1 c21).1, ⟨(fun c22 => ⟨(fun c23 => ⟨(fun c24 => (ih _ _ _ _ f (((((((((e8.2.2.2 c15).1 c16).2 c18).1 c19).1 c20).1 c21).2.1 c22).1 c23).1 c24))), (fun c25 => (ih _ _ _ _ f (((((((((e8.2.2.2 c15).1 c16).2 c18).1 c19).1 c20).1 c21).2.1 c22).1 c23).2 c25)))⟩), (fun c26 => ⟨(fun c27 => (ih _ _ _ _ f (((((((((e8.2.2.2 c15).1 c16).2 c18).1 c19).1 c20).1 c21).2.1 c22).2 c26).1 c27))), (fun c28 => (ih _ _ _ _ f (((((((((e8.2.2.2 c15).1 c16).2 c18).1 c19).1 c20).1 c21).2.1 c22).2 c26).2 c28)))⟩)⟩), (fun c29 => ⟨(fun c30 => ⟨(fun c31 => (ih _ _ _ _ f (((((((((e8.2.2.2 c15).1 c16).2 c18).1 c19).1 c20).1 c21).2.2 c29).1 c30).1 c31))), (fun c32 => (ih _ _ _ _ f (((((((((e8.2.2.2 c15).1 c16).2 c18).1 c19).1 c20).1 c21).2.2 c29).1 c30).2 c32)))⟩), (fun c33 => ⟨(fun c34 => (ih _ _ _ _ f (((((((((e8.2.2.2 c15).1 c16).2 c18).1 c19).1 c20).1 c21).2.2 c29).2 c33).1 c34))), (fun c35 => (ih _ _ _ _ f (((((((((e8.2.2.2 c15).1 c16).2 c18).1 c19).1 c20).1 c21).2.2 c29).2 c33).2 c35)))⟩)⟩)⟩⟩), (fun c36 => ⟨(fun c37 => ⟨(fun c38 => (hX122 _ f ((((((((e8.2.2.2 c15).1 c16).2 c18).1 c19).1 c20).2 c36).1 c37).1 c38))), (fun c39 => ⟨((((((((e8.2.2.2 c15).1 c16).2 c18).1 c19).1 c20).2 c36).1 c37).2 c39).1, (fm_w_23 _ _ _ (fr_rfl _ _) ((((((((e8.2.2.2 c15).1 c16).2 c18).1 c19).1 c20).2 c36).1 c37).2 c39).2 (fun r10 s9 gs9 h40 => ⟨(fun c41 => ⟨(h40.1 c41).1, ⟨(h40.1 c41).2.1, (fm_w_24 _ _ _ _ (fr_rfl _ _) (h40.1 c41).2.2 (fun r12 s11 gs11 h42 => ⟨h42.1, (ih _ _ _ _ (fr_sL 18 (fr_tr fsb_0_7 (fr_tr fsb_0_7 f gs9) gs11)) h42.2)⟩))⟩⟩), (fun c43 => (hX122 _ (fr_tr fsb_0_7 f gs9) (h40.2 c43)))⟩))⟩)⟩), (fun c44 => ⟨(((((((e8.2.2.2 c15).1 c16).2 c18).1 c19).1 c20).2 c36).2 c44).1, ⟨(fun c45 => ⟨(fun c46 => ⟨(fun c47 => (ih _ _ _ _ f ((((((((((e8.2.2.2 c15).1 c16).2 c18).1 c19).1 c20).2 c36).2 c44).2.1 c45).1 c46).1 c47))), (fun c48 => (ih _ _ _ _ f ((((((((((e8.2.2.2 c15).1 c16).2 c18).1 c19).1 c20).2 c36).2 c44).2.1 c45).1 c46).2 c48)))⟩), (fun c49 => ⟨(fun c50 => (ih _ _ _ _ f ((((((((((e8.2.2.2 c15).1 c16).2 c18).1 c19).1 c20).2 c36).2 c44).2.1 c45).2 c49).1 c50))), (fun c51 => (ih _ _ _ _ f ((((((((((e8.2.2.2 c15).1 c16).2 c18).1 c19).1 c20).2 c36).2 c44).2.1 c45).2 c49).2 c51)))⟩)⟩), (fun c52 => ⟨(fun c53 => ⟨(fun c54 => (ih _ _ _ _ f ((((((((((e8.2.2.2 c15).1 c16).2 c18).1 c19).1 c20).2 c36).2 c44).2.2 c52).1 c53).1 c54))), (fun c55 => (ih _ _ _ _ f ((((((((((e8.2.2.2 c15).1 c16).2 c18).1 c19).1 c20).2 c36).2 c44).2.2 c52).1 c53).2 c55)))⟩), (fun c56 => ⟨(fun c57 => (ih _ _ _ _ f ((((((((((e8.2.2.2 c15).1 c16).2 c18).1 c19).1 c20).2 c36).2 c44).2.2 c52).2 c56).1 c57))), (fun c58 => (ih _ _ _ _ f ((((((((((e8.2.2.2 c15).1 c16).2 c18).1 c19).1 c20).2 c36).2 c44).2.2 c52).2 c56).2 c58)))⟩)⟩)⟩⟩)⟩)⟩), (fun c59 => ⟨(((((e8.2.2.2 c15).1 c16).2 c18).1 c19).2 c59).1, ⟨(((((e8.2.2.2 c15).1 c16).2 c18).1 c19).2 c59).2.1, (ih _ _ _ _ (fr_sL 18 f) (((((e8.2.2.2 c15).1 c16).2 c18).1 c19).2 c59).2.2)⟩⟩)⟩), (fun c60 => (hX54 _ f ((((e8.2.2.2 c15).1 c16).2 c18).2 c60)))⟩)⟩), (fun c61 => ⟨(fun c62 => ⟨(fun c63 => (fm_w_22 _ _ (fr_rfl _ _) ((((e8.2.2.2 c15).2 c61).1 c62).1 c63) (fun r14 s13 gs13 h64 => ⟨h64.1, (ih _ _ _ _ (fr_sL 18 (fr_tr fsb_0_7 f gs13)) h64.2)⟩))), (fun c65 => ⟨((((e8.2.2.2 c15).2 c61).1 c62).2 c65).1, (ih _ _ _ _ (fr_sL 18 f) ((((e8.2.2.2 c15).2 c61).1 c62).2 c65).2)⟩)⟩), (fun c66 => (hX30 _ f (((e8.2.2.2 c15).2 c61).2 c66)))⟩)⟩)⟩⟩⟩))))⟩⟩)))))⟩⟩⟩))))
theorem fm_w_21 {s0 : ST} {K K' : Int32 → ST → Prop} (p1 : Nat) (s : ST) (f : Fr fs7 s0 s) (h : w_21 p1 s K) (hK : ∀ (v0 : Int32) (s1 : ST), Fr fs7 s0 s1 → K v0 s1 → K' v0 s1) : w_21 p1 s K' := by
  unfold w_21 at h ⊢
  exact (Exists.elim h (fun m e1 => ⟨m, (fm_w_21_L4 (fun y2 s15 gs15 h2 => ⟨(fun c3 => (hK _ _ gs15 (h2.1 c3))), (fun c4 => ⟨(h2.2 c4).1, ⟨(fun c5 => (hK _ _ gs15 ((h2.2 c4).2.1 c5))), (fun c6 => (hK _ _ gs15 ((h2.2 c4).2.2 c6)))⟩⟩)⟩) (fun s16 gs16 h7 => (hK _ _ gs16 h7)) (fun s17 gs17 h8 => (hK _ _ gs17 h8)) (fun s18 gs18 h9 => (hK _ _ gs18 h9)) hK m _ _ _ _ f e1)⟩))
theorem fm_w_297 {s0 : ST} {K K' : Int32 → ST → Prop} (p0 : Nat) (s : ST) (f : Fr fs0 s0 s) (h : w_297 p0 s K) (hK : ∀ (v0 : Int32) (s1 : ST), Fr fs0 s0 s1 → K v0 s1 → K' v0 s1) : w_297 p0 s K' := by
  unfold w_297 at h ⊢
  exact (Exists.elim h (fun v1 e1 => ⟨v1, ⟨e1.1, (hK _ _ f e1.2)⟩⟩))
theorem fm_w_302_R51_L5 {s0 : ST} {X14 X14' : ST → Prop} {K K' : ST → Prop} (hX14 : ∀ (s1 : ST), Fr fs8 s0 s1 → X14 s1 → X14' s1) (hK : ∀ (s1 : ST), Fr fs8 s0 s1 → K s1 → K' s1) : ∀ (n : Nat) (x1 : Int32) (x2 : Int32) (x3 : Int32) (s : ST), Fr fs8 s0 s → w_302_R51_L5 n x1 x2 x3 s X14 K → w_302_R51_L5 n x1 x2 x3 s X14' K' := by
  intro n
  induction n with
  | zero => intro x1 x2 x3 s f h; exact h.elim
  | succ n ih =>
    intro x1 x2 x3 s f h
    rw [w_302_R51_L5] at h
    rw [w_302_R51_L5]
    exact ⟨(fun c1 => (hX14 _ f (h.1 c1))), (fun c2 => ⟨(h.2 c2).1, (ih _ _ _ _ (fr_sA 51 f) (h.2 c2).2)⟩)⟩
theorem fm_w_302_R51 {s0 : ST} {K K' : ST → Prop} (p1 : Int32) (s : ST) (f : Fr fs8 s0 s) (h : w_302_R51 p1 s K) (hK : ∀ (s1 : ST), Fr fs8 s0 s1 → K s1 → K' s1) : w_302_R51 p1 s K' := by
  unfold w_302_R51 at h ⊢
  exact (Exists.elim h (fun m e1 => ⟨m, (fm_w_302_R51_L5 (fun s1 gs1 h2 => (hK _ gs1 h2)) hK m _ _ _ _ f e1)⟩))
theorem fm_w_308_N {s0 : ST} {K K' : Int32 → ST → Prop} (p0 : Int32) (p1 : Int32) (s : ST) (f : Fr fs0 s0 s) (h : w_308_N p0 p1 s K) (hK : ∀ (v0 : Int32) (s1 : ST), Fr fs0 s0 s1 → K v0 s1 → K' v0 s1) : w_308_N p0 p1 s K' := by
  unfold w_308_N at h ⊢
  exact ⟨(fun c1 => (h.1 c1)), (fun c2 => ⟨(fun c3 => (hK _ _ f ((h.2 c2).1 c3))), (fun c4 => ((h.2 c2).2 c4))⟩)⟩
theorem fm_w_306 {s0 : ST} {K K' : Int32 → ST → Prop} (p0 : Int32) (p1 : Int32) (s : ST) (f : Fr fs0 s0 s) (h : w_306 p0 p1 s K) (hK : ∀ (v0 : Int32) (s1 : ST), Fr fs0 s0 s1 → K v0 s1 → K' v0 s1) : w_306 p0 p1 s K' := by
  unfold w_306 at h ⊢
  exact (fm_w_308_N _ _ _ (fr_rfl _ _) h (fun r2 s1 gs1 h1 => (hK _ _ (fr_tr fsb_0_0 f gs1) h1)))
theorem fm_w_298 {s0 : ST} {K K' : Nat → ST → Prop} (p0 : Nat) (p1 : Int32) (s : ST) (f : Fr fs0 s0 s) (h : w_298 p0 p1 s K) (hK : ∀ (v0 : Nat) (s1 : ST), Fr fs0 s0 s1 → K v0 s1 → K' v0 s1) : w_298 p0 p1 s K' := by
  unfold w_298 at h ⊢
  exact (Or.imp (fun h1 => ⟨h1.1, h1.2⟩) (fun h2 => (Exists.elim h2 (fun b1 e3 => ⟨b1, ⟨e3.1, (Exists.elim e3.2 (fun n2 e4 => (Exists.elim e4 (fun f3 e5 => (Exists.elim e5 (fun y4 e6 => ⟨n2, f3, y4, ⟨e6.1, e6.2.1, e6.2.2.1, (hK _ _ f e6.2.2.2)⟩⟩))))))⟩⟩))) h)
theorem fm_w_299 {s0 : ST} {K K' : Nat → ST → Prop} (p0 : Nat) (p1 : Int32) (s : ST) (f : Fr fs0 s0 s) (h : w_299 p0 p1 s K) (hK : ∀ (v0 : Nat) (s1 : ST), Fr fs0 s0 s1 → K v0 s1 → K' v0 s1) : w_299 p0 p1 s K' := by
  unfold w_299 at h ⊢
  exact (Exists.elim h (fun v1 e1 => ⟨v1, ⟨e1.1, (fm_w_306 _ _ _ (fr_rfl _ _) e1.2 (fun r3 s2 gs2 h2 => (Exists.elim h2 (fun f6 e3 => ⟨f6, ⟨e3.1, (fm_w_298 _ _ _ (fr_rfl _ _) e3.2 (fun r5 s4 gs4 h4 => (hK _ _ (fr_tr fsb_0_0 (fr_tr fsb_0_0 f gs2) gs4) h4)))⟩⟩))))⟩⟩))
theorem fm_w_123 {s0 : ST} {K K' : Int32 → ST → Prop} (p1 : Int32) (s : ST) (f : Fr fs0 s0 s) (h : w_123 p1 s K) (hK : ∀ (v0 : Int32) (s1 : ST), Fr fs0 s0 s1 → K v0 s1 → K' v0 s1) : w_123 p1 s K' := by
  unfold w_123 at h ⊢
  exact ⟨(fun c1 => (hK _ _ f (h.1 c1))), (fun c2 => ⟨(fun c3 => (hK _ _ f ((h.2 c2).1 c3))), (fun c4 => ⟨((h.2 c2).2 c4).1, (hK _ _ f ((h.2 c2).2 c4).2)⟩)⟩)⟩
theorem fm_w_26_L34 {s0 : ST} {X67 X67' : Nat → Int32 → ST → Prop} {K K' : ST → Prop} (hX67 : ∀ (v0 : Nat) (v1 : Int32) (s1 : ST), Fr fs9 s0 s1 → X67 v0 v1 s1 → X67' v0 v1 s1) (hK : ∀ (s1 : ST), Fr fs9 s0 s1 → K s1 → K' s1) : ∀ (n : Nat) (x1 : Nat) (x3 : Int32) (x4 : Nat) (x5 : Int32) (s : ST), Fr fs9 s0 s → w_26_L34 n x1 x3 x4 x5 s X67 K → w_26_L34 n x1 x3 x4 x5 s X67' K' := by
  intro n
  induction n with
  | zero => intro x1 x3 x4 x5 s f h; exact h.elim
  | succ n ih =>
    intro x1 x3 x4 x5 s f h
    rw [w_26_L34] at h
    rw [w_26_L34]
    exact ⟨(fun c1 => (hX67 _ _ _ f (h.1 c1))), (fun c2 => ⟨(fun c3 => (hX67 _ _ _ f ((h.2 c2).1 c3))), (fun c4 => (fm_w_123 _ _ (fr_rfl _ _) ((h.2 c2).2 c4) (fun r14 s13 gs13 h5 => (fm_w_20 _ _ (fr_rfl _ _) h5 (fun s15 gs15 h6 => (Exists.elim h6 (fun v17 e7 => ⟨v17, ⟨e7.1, (fm_w_21 _ _ (fr_rfl _ _) e7.2 (fun r19 s18 gs18 h8 => ⟨(fun c9 => (ih _ _ _ _ _ (fr_tr fsb_7_9 (fr_tr fsb_6_9 (fr_tr fsb_0_9 f gs13) gs15) gs18) (h8.1 c9))), (fun c10 => ⟨(h8.2 c10).1, ⟨(h8.2 c10).2.1, (ih _ _ _ _ _ (fr_sA 51 (fr_tr fsb_7_9 (fr_tr fsb_6_9 (fr_tr fsb_0_9 f gs13) gs15) gs18)) (h8.2 c10).2.2)⟩⟩)⟩))⟩⟩)))))))⟩)⟩
theorem fm_w_26_L16 {s0 : ST} {X69 X69' : ST → Prop} {K K' : ST → Prop} (hX69 : ∀ (s1 : ST), Fr fs9 s0 s1 → X69 s1 → X69' s1) (hK : ∀ (s1 : ST), Fr fs9 s0 s1 → K s1 → K' s1) : ∀ (n : Nat) (x1 : Nat) (x3 : Int32) (s : ST), Fr fs9 s0 s → w_26_L16 n x1 x3 s X69 K → w_26_L16 n x1 x3 s X69' K' := by
  intro n
  induction n with
  | zero => intro x1 x3 s f h; exact h.elim
  | succ n ih =>
    intro x1 x3 s f h
    rw [w_26_L16] at h
    rw [w_26_L16]
    exact ⟨(fun c1 => (hX69 _ f (h.1 c1))), (fun c2 => (Exists.elim (h.2 c2) (fun v7 e3 => ⟨v7, ⟨e3.1, (Exists.elim e3.2 (fun f10 e4 => ⟨f10, ⟨e4.1, (fm_w_299 _ _ _ (fr_rfl _ _) e4.2 (fun r9 s8 gs8 h5 => (Exists.elim h5 (fun f11 e6 => ⟨f11, ⟨e6.1, (Exists.elim e6.2 (fun v12 e7 => ⟨v12, ⟨e7.1, ⟨e7.2.1, (Exists.elim e7.2.2 (fun m e8 => ⟨m, (fm_w_26_L34 (fun y1 y3 s13 gs13 h9 => (ih _ _ _ gs13 h9)) hK m _ _ _ _ _ (fr_sA 54 (fr_tr fsb_0_9 f gs8)) e8)⟩))⟩⟩⟩))⟩⟩))))⟩⟩))⟩⟩)))⟩
theorem fm_w_26 {s0 : ST} {K K' : ST → Prop} (p1 : Nat) (p2 : Int32) (s : ST) (f : Fr fs9 s0 s) (h : w_26 p1 p2 s K) (hK : ∀ (s1 : ST), Fr fs9 s0 s1 → K s1 → K' s1) : w_26 p1 p2 s K' := by
  unfold w_26 at h ⊢
  exact (Exists.elim h (fun v1 e1 => ⟨v1, ⟨e1.1, (Exists.elim e1.2 (fun f4 e2 => ⟨f4, ⟨e2.1, (fm_w_297 _ _ (fr_rfl _ _) e2.2 (fun r3 s2 gs2 h3 => (fm_w_302_R51 _ _ (fr_rfl _ _) h3 (fun s5 gs5 h4 => (Exists.elim h4 (fun m e5 => ⟨m, (fm_w_26_L16 (fun s14 gs14 h6 => (hK _ gs14 h6)) hK m _ _ _ (fr_tr fsb_8_9 (fr_sI 5008 (fr_sI 5007 (fr_tr fsb_0_9 f gs2))) gs5) e5)⟩))))))⟩⟩))⟩⟩))
theorem fm_w_181 {s0 : ST} {K K' : Int32 → ST → Prop} (p0 : Int32) (p1 : Int32) (p2 : Int32) (s : ST) (f : Fr fs0 s0 s) (h : w_181 p0 p1 p2 s K) (hK : ∀ (v0 : Int32) (s1 : ST), Fr fs0 s0 s1 → K v0 s1 → K' v0 s1) : w_181 p0 p1 p2 s K' := by
  unfold w_181 at h ⊢
  exact ⟨(fun c1 => (hK _ _ f (h.1 c1))), (fun c2 => ⟨(fun c3 => (hK _ _ f ((h.2 c2).1 c3))), (fun c4 => (hK _ _ f ((h.2 c2).2 c4)))⟩)⟩
theorem fm_w_184 {s0 : ST} {K K' : Int32 → ST → Prop} (p0 : Int32) (p1 : Int32) (s : ST) (f : Fr fs0 s0 s) (h : w_184 p0 p1 s K) (hK : ∀ (v0 : Int32) (s1 : ST), Fr fs0 s0 s1 → K v0 s1 → K' v0 s1) : w_184 p0 p1 s K' := by
  unfold w_184 at h ⊢
  exact ⟨(fun c1 => (hK _ _ f (h.1 c1))), (fun c2 => (hK _ _ f (h.2 c2)))⟩
theorem fm_w_33_L55 {s0 : ST} {X79 X79' : Int32 → ST → Prop} {K K' : Int32 → ST → Prop} (hX79 : ∀ (v0 : Int32) (s1 : ST), Fr fs0 s0 s1 → X79 v0 s1 → X79' v0 s1) (hK : ∀ (v0 : Int32) (s1 : ST), Fr fs0 s0 s1 → K v0 s1 → K' v0 s1) : ∀ (n : Nat) (x3 : Int32) (x4 : Int32) (x5 : Int32) (s : ST), Fr fs0 s0 s → w_33_L55 n x3 x4 x5 s X79 K → w_33_L55 n x3 x4 x5 s X79' K' := by
  intro n
  induction n with
  | zero => intro x3 x4 x5 s f h; exact h.elim
  | succ n ih =>
    intro x3 x4 x5 s f h
    rw [w_33_L55] at h
    rw [w_33_L55]
    exact ⟨(fun c1 => (hX79 _ _ f (h.1 c1))), (fun c2 => ⟨(fun c3 => (hX79 _ _ f ((h.2 c2).1 c3))), (fun c4 => ⟨((h.2 c2).2 c4).1, ⟨(fun c5 => (ih _ _ _ _ f (((h.2 c2).2 c4).2.1 c5))), (fun c6 => (ih _ _ _ _ f (((h.2 c2).2 c4).2.2 c6)))⟩⟩)⟩)⟩
theorem fm_w_33 {s0 : ST} {K K' : Int32 → ST → Prop} (p1 : Int32) (p2 : Int32) (s : ST) (f : Fr fs0 s0 s) (h : w_33 p1 p2 s K) (hK : ∀ (v0 : Int32) (s1 : ST), Fr fs0 s0 s1 → K v0 s1 → K' v0 s1) : w_33 p1 p2 s K' := by
  unfold w_33 at h ⊢
  exact (fm_w_15 _ _ (fr_rfl _ _) h (fun r2 s1 gs1 h1 => (fm_w_15 _ _ (fr_rfl _ _) h1 (fun r4 s3 gs3 h2 => ⟨(fun c3 => (fm_w_9 _ _ _ (fr_rfl _ _) (h2.1 c3) (fun r6 s5 gs5 h4 => (fm_w_9 _ _ _ (fr_rfl _ _) h4 (fun r8 s7 gs7 h5 => ⟨(fun c6 => (fm_w_9 _ _ _ (fr_rfl _ _) (h5.1 c6) (fun r10 s9 gs9 h7 => (fm_w_9 _ _ _ (fr_rfl _ _) h7 (fun r12 s11 gs11 h8 => ⟨(fun c9 => (Exists.elim (h8.1 c9) (fun m e10 => ⟨m, (fm_w_33_L55 (fun y4 s13 gs13 h11 => (hK _ _ gs13 h11)) hK m _ _ _ _ (fr_tr fsb_0_0 (fr_tr fsb_0_0 (fr_tr fsb_0_0 (fr_tr fsb_0_0 (fr_tr fsb_0_0 (fr_tr fsb_0_0 f gs1) gs3) gs5) gs7) gs9) gs11) e10)⟩))), (fun c12 => (Exists.elim (h8.2 c12) (fun m e13 => ⟨m, (fm_w_33_L55 (fun y4 s14 gs14 h14 => (hK _ _ gs14 h14)) hK m _ _ _ _ (fr_tr fsb_0_0 (fr_tr fsb_0_0 (fr_tr fsb_0_0 (fr_tr fsb_0_0 (fr_tr fsb_0_0 (fr_tr fsb_0_0 f gs1) gs3) gs5) gs7) gs9) gs11) e13)⟩)))⟩))))), (fun c15 => (fm_w_9 _ _ _ (fr_rfl _ _) (h5.2 c15) (fun r16 s15 gs15 h16 => (fm_w_9 _ _ _ (fr_rfl _ _) h16 (fun r18 s17 gs17 h17 => ⟨(fun c18 => (Exists.elim (h17.1 c18) (fun m e19 => ⟨m, (fm_w_33_L55 (fun y4 s19 gs19 h20 => (hK _ _ gs19 h20)) hK m _ _ _ _ (fr_tr fsb_0_0 (fr_tr fsb_0_0 (fr_tr fsb_0_0 (fr_tr fsb_0_0 (fr_tr fsb_0_0 (fr_tr fsb_0_0 f gs1) gs3) gs5) gs7) gs15) gs17) e19)⟩))), (fun c21 => (Exists.elim (h17.2 c21) (fun m e22 => ⟨m, (fm_w_33_L55 (fun y4 s20 gs20 h23 => (hK _ _ gs20 h23)) hK m _ _ _ _ (fr_tr fsb_0_0 (fr_tr fsb_0_0 (fr_tr fsb_0_0 (fr_tr fsb_0_0 (fr_tr fsb_0_0 (fr_tr fsb_0_0 f gs1) gs3) gs5) gs7) gs15) gs17) e22)⟩)))⟩)))))⟩))))), (fun c24 => (fm_w_9 _ _ _ (fr_rfl _ _) (h2.2 c24) (fun r22 s21 gs21 h25 => (fm_w_9 _ _ _ (fr_rfl _ _) h25 (fun r24 s23 gs23 h26 => ⟨(fun c27 => (fm_w_9 _ _ _ (fr_rfl _ _) (h26.1 c27) (fun r26 s25 gs25 h28 => (fm_w_9 _ _ _ (fr_rfl _ _) h28 (fun r28 s27 gs27 h29 => ⟨(fun c30 => (Exists.elim (h29.1 c30) (fun m e31 => ⟨m, (fm_w_33_L55 (fun y4 s29 gs29 h32 => (hK _ _ gs29 h32)) hK m _ _ _ _ (fr_tr fsb_0_0 (fr_tr fsb_0_0 (fr_tr fsb_0_0 (fr_tr fsb_0_0 (fr_tr fsb_0_0 (fr_tr fsb_0_0 f gs1) gs3) gs21) gs23) gs25) gs27) e31)⟩))), (fun c33 => (Exists.elim (h29.2 c33) (fun m e34 => ⟨m, (fm_w_33_L55 (fun y4 s30 gs30 h35 => (hK _ _ gs30 h35)) hK m _ _ _ _ (fr_tr fsb_0_0 (fr_tr fsb_0_0 (fr_tr fsb_0_0 (fr_tr fsb_0_0 (fr_tr fsb_0_0 (fr_tr fsb_0_0 f gs1) gs3) gs21) gs23) gs25) gs27) e34)⟩)))⟩))))), (fun c36 => (fm_w_9 _ _ _ (fr_rfl _ _) (h26.2 c36) (fun r32 s31 gs31 h37 => (fm_w_9 _ _ _ (fr_rfl _ _) h37 (fun r34 s33 gs33 h38 => ⟨(fun c39 => (Exists.elim (h38.1 c39) (fun m e40 => ⟨m, (fm_w_33_L55 (fun y4 s35 gs35 h41 => (hK _ _ gs35 h41)) hK m _ _ _ _ (fr_tr fsb_0_0 (fr_tr fsb_0_0 (fr_tr fsb_0_0 (fr_tr fsb_0_0 (fr_tr fsb_0_0 (fr_tr fsb_0_0 f gs1) gs3) gs21) gs23) gs31) gs33) e40)⟩))), (fun c42 => (Exists.elim (h38.2 c42) (fun m e43 => ⟨m, (fm_w_33_L55 (fun y4 s36 gs36 h44 => (hK _ _ gs36 h44)) hK m _ _ _ _ (fr_tr fsb_0_0 (fr_tr fsb_0_0 (fr_tr fsb_0_0 (fr_tr fsb_0_0 (fr_tr fsb_0_0 (fr_tr fsb_0_0 f gs1) gs3) gs21) gs23) gs31) gs33) e43)⟩)))⟩)))))⟩)))))⟩))))
theorem fm_w_38 {s0 : ST} {K K' : ST → Prop} (p1 : Int32) (p2 : Int32) (p3 : Int32) (s : ST) (f : Fr fs10 s0 s) (h : w_38 p1 p2 p3 s K) (hK : ∀ (s1 : ST), Fr fs10 s0 s1 → K s1 → K' s1) : w_38 p1 p2 p3 s K' := by
  unfold w_38 at h ⊢
  exact ⟨(fun c1 => (hK _ f (h.1 c1))), (fun c2 => ⟨(fun c3 => (hK _ f ((h.2 c2).1 c3))), (fun c4 => ⟨(fun c5 => (hK _ f (((h.2 c2).2 c4).1 c5))), (fun c6 => ⟨(fun c7 => (hK _ f ((((h.2 c2).2 c4).2 c6).1 c7))), (fun c8 => ⟨((((h.2 c2).2 c4).2 c6).2 c8).1, (hK _ (fr_sA 53 f) ((((h.2 c2).2 c4).2 c6).2 c8).2)⟩)⟩)⟩)⟩)⟩
theorem fm_w_37 {s0 : ST} {K K' : Int32 → ST → Prop} (p1 : Int32) (p2 : Int32) (s : ST) (f : Fr fs0 s0 s) (h : w_37 p1 p2 s K) (hK : ∀ (v0 : Int32) (s1 : ST), Fr fs0 s0 s1 → K v0 s1 → K' v0 s1) : w_37 p1 p2 s K' := by
  unfold w_37 at h ⊢
  exact ⟨(fun c1 => (hK _ _ f (h.1 c1))), (fun c2 => ⟨(fun c3 => (hK _ _ f ((h.2 c2).1 c3))), (fun c4 => ⟨(fun c5 => (hK _ _ f (((h.2 c2).2 c4).1 c5))), (fun c6 => ⟨(fun c7 => (hK _ _ f ((((h.2 c2).2 c4).2 c6).1 c7))), (fun c8 => ⟨((((h.2 c2).2 c4).2 c6).2 c8).1, (hK _ _ f ((((h.2 c2).2 c4).2 c6).2 c8).2)⟩)⟩)⟩)⟩)⟩
theorem fm_w_35 {s0 : ST} {K K' : Int32 → ST → Prop} (p1 : Int32) (p2 : Int32) (s : ST) (f : Fr fs0 s0 s) (h : w_35 p1 p2 s K) (hK : ∀ (v0 : Int32) (s1 : ST), Fr fs0 s0 s1 → K v0 s1 → K' v0 s1) : w_35 p1 p2 s K' := by
  unfold w_35 at h ⊢
  exact (fm_w_181 _ _ _ _ (fr_rfl _ _) h (fun r2 s1 gs1 h1 => ⟨(fun c2 => (fm_w_37 _ _ _ (fr_rfl _ _) (h1.1 c2) (fun r4 s3 gs3 h3 => (hK _ _ (fr_tr fsb_0_0 (fr_tr fsb_0_0 f gs1) gs3) h3)))), (fun c4 => ⟨(h1.2 c4).1, (fm_w_184 _ _ _ (fr_rfl _ _) (h1.2 c4).2 (fun r6 s5 gs5 h5 => ⟨(fun c6 => (fm_w_37 _ _ _ (fr_rfl _ _) (h5.1 c6) (fun r8 s7 gs7 h7 => (hK _ _ (fr_tr fsb_0_0 (fr_tr fsb_0_0 (fr_tr fsb_0_0 f gs1) gs5) gs7) h7)))), (fun c8 => (fm_w_37 _ _ _ (fr_rfl _ _) (h5.2 c8) (fun r10 s9 gs9 h9 => ⟨(fun c10 => (hK _ _ (fr_tr fsb_0_0 (fr_tr fsb_0_0 (fr_tr fsb_0_0 f gs1) gs5) gs9) (h9.1 c10))), (fun c11 => (fm_w_123 _ _ (fr_rfl _ _) (h9.2 c11) (fun r12 s11 gs11 h12 => (fm_w_119 _ _ (fr_rfl _ _) h12 (fun r14 s13 gs13 h13 => (hK _ _ (fr_tr fsb_0_0 (fr_tr fsb_0_0 (fr_tr fsb_0_0 (fr_tr fsb_0_0 (fr_tr fsb_0_0 f gs1) gs5) gs9) gs11) gs13) h13))))))⟩)))⟩))⟩)⟩))
theorem fm_w_34_L14 {s0 : ST} {X49 X49' : Int32 → Int32 → ST → Prop} {K K' : ST → Prop} (hX49 : ∀ (v0 : Int32) (v1 : Int32) (s1 : ST), Fr fs10 s0 s1 → X49 v0 v1 s1 → X49' v0 v1 s1) (hK : ∀ (s1 : ST), Fr fs10 s0 s1 → K s1 → K' s1) : ∀ (n : Nat) (x1 : Int32) (x2 : Int32) (x3 : Int32) (s : ST), Fr fs10 s0 s → w_34_L14 n x1 x2 x3 s X49 K → w_34_L14 n x1 x2 x3 s X49' K' := by
  intro n
  induction n with
  | zero => intro x1 x2 x3 s f h; exact h.elim
  | succ n ih =>
    intro x1 x2 x3 s f h
    rw [w_34_L14] at h
    rw [w_34_L14]
    exact ⟨(fun c1 => (hX49 _ _ _ f (h.1 c1))), (fun c2 => ⟨(fun c3 => ⟨(fun c4 => (fm_w_38 _ _ _ _ (fr_rfl _ _) (((h.2 c2).1 c3).1 c4) (fun s3 gs3 h5 => (ih _ _ _ _ (fr_tr fsb_10_10 f gs3) h5)))), (fun c6 => (fm_w_35 _ _ _ (fr_rfl _ _) (((h.2 c2).1 c3).2 c6) (fun r6 s5 gs5 h7 => (fm_w_38 _ _ _ _ (fr_rfl _ _) h7 (fun s7 gs7 h8 => (ih _ _ _ _ (fr_tr fsb_10_10 (fr_tr fsb_0_10 f gs5) gs7) h8))))))⟩), (fun c9 => (fm_w_37 _ _ _ (fr_rfl _ _) ((h.2 c2).2 c9) (fun r10 s9 gs9 h10 => ⟨(fun c11 => (fm_w_38 _ _ _ _ (fr_rfl _ _) (h10.1 c11) (fun s11 gs11 h12 => (ih _ _ _ _ (fr_tr fsb_10_10 (fr_tr fsb_0_10 f gs9) gs11) h12)))), (fun c13 => (fm_w_35 _ _ _ (fr_rfl _ _) (h10.2 c13) (fun r14 s13 gs13 h14 => (fm_w_38 _ _ _ _ (fr_rfl _ _) h14 (fun s15 gs15 h15 => (ih _ _ _ _ (fr_tr fsb_10_10 (fr_tr fsb_0_10 (fr_tr fsb_0_10 f gs9) gs13) gs15) h15))))))⟩)))⟩)⟩
theorem fm_w_34_L3 {s0 : ST} {X51 X51' : ST → Prop} {K K' : ST → Prop} (hX51 : ∀ (s1 : ST), Fr fs10 s0 s1 → X51 s1 → X51' s1) (hK : ∀ (s1 : ST), Fr fs10 s0 s1 → K s1 → K' s1) : ∀ (n : Nat) (x1 : Int32) (x2 : Int32) (s : ST), Fr fs10 s0 s → w_34_L3 n x1 x2 s X51 K → w_34_L3 n x1 x2 s X51' K' := by
  intro n
  induction n with
  | zero => intro x1 x2 s f h; exact h.elim
  | succ n ih =>
    intro x1 x2 s f h
    rw [w_34_L3] at h
    rw [w_34_L3]
    exact ⟨(fun c1 => (hX51 _ f (h.1 c1))), (fun c2 => (fm_w_38 _ _ _ _ (fr_rfl _ _) (h.2 c2) (fun s1 gs1 h3 => (Exists.elim h3 (fun m e4 => ⟨m, (fm_w_34_L14 (fun y1 y2 s3 gs3 h5 => (ih _ _ _ gs3 h5)) hK m _ _ _ _ (fr_tr fsb_10_10 f gs1) e4)⟩)))))⟩
theorem fm_w_34 {s0 : ST} {K K' : ST → Prop} (p1 : Int32) (s : ST) (f : Fr fs10 s0 s) (h : w_34 p1 s K) (hK : ∀ (s1 : ST), Fr fs10 s0 s1 → K s1 → K' s1) : w_34 p1 s K' := by
  unfold w_34 at h ⊢
  exact (Exists.elim h (fun m e1 => ⟨m, (fm_w_34_L3 (fun s4 gs4 h2 => (hK _ gs4 h2)) hK m _ _ _ f e1)⟩))
theorem fm_w_36 {s0 : ST} {K K' : Int32 → ST → Prop} (p1 : Int32) (p2 : Int32) (p3 : Int32) (s : ST) (f : Fr fs0 s0 s) (h : w_36 p1 p2 p3 s K) (hK : ∀ (v0 : Int32) (s1 : ST), Fr fs0 s0 s1 → K v0 s1 → K' v0 s1) : w_36 p1 p2 p3 s K' := by
  unfold w_36 at h ⊢
  exact (fm_w_35 _ _ _ (fr_rfl _ _) h (fun r2 s1 gs1 h1 => ⟨(fun c2 => (hK _ _ (fr_tr fsb_0_0 f gs1) (h1.1 c2))), (fun c3 => ⟨(fun c4 => (hK _ _ (fr_tr fsb_0_0 f gs1) ((h1.2 c3).1 c4))), (fun c5 => (hK _ _ (fr_tr fsb_0_0 f gs1) ((h1.2 c3).2 c5)))⟩)⟩))
theorem fm_w_32_L33 {s0 : ST} {X57 X57' : Int32 → Int32 → Int32 → ST → Prop} {K K' : Int32 → ST → Prop} (hX57 : ∀ (v0 : Int32) (v1 : Int32) (v2 : Int32) (s1 : ST), Fr fs11 s0 s1 → X57 v0 v1 v2 s1 → X57' v0 v1 v2 s1) (hK : ∀ (v0 : Int32) (s1 : ST), Fr fs11 s0 s1 → K v0 s1 → K' v0 s1) : ∀ (n : Nat) (x1 : Int32) (x2 : Int32) (x3 : Int32) (x4 : Int32) (s : ST), Fr fs11 s0 s → w_32_L33 n x1 x2 x3 x4 s X57 K → w_32_L33 n x1 x2 x3 x4 s X57' K' := by
  intro n
  induction n with
  | zero => intro x1 x2 x3 x4 s f h; exact h.elim
  | succ n ih =>
    intro x1 x2 x3 x4 s f h
    rw [w_32_L33] at h
    rw [w_32_L33]
    exact ⟨(fun c1 => (hX57 _ _ _ _ f (h.1 c1))), (fun c2 => (fm_w_123 _ _ (fr_rfl _ _) (h.2 c2) (fun r10 s9 gs9 h3 => (fm_w_9 _ _ _ (fr_rfl _ _) h3 (fun r12 s11 gs11 h4 => ⟨(fun c5 => (hX57 _ _ _ _ (fr_tr fsb_0_11 (fr_tr fsb_0_11 f gs9) gs11) (h4.1 c5))), (fun c6 => (ih _ _ _ _ _ (fr_sI 5009 (fr_tr fsb_0_11 (fr_tr fsb_0_11 f gs9) gs11)) (h4.2 c6)))⟩)))))⟩
theorem fm_w_32_L61 {s0 : ST} {X86 X86' : Int32 → Int32 → ST → Prop} {K K' : Int32 → ST → Prop} (hX86 : ∀ (v0 : Int32) (v1 : Int32) (s1 : ST), Fr fs11 s0 s1 → X86 v0 v1 s1 → X86' v0 v1 s1) (hK : ∀ (v0 : Int32) (s1 : ST), Fr fs11 s0 s1 → K v0 s1 → K' v0 s1) : ∀ (n : Nat) (x1 : Int32) (x2 : Int32) (x3 : Int32) (x5 : Int32) (s : ST), Fr fs11 s0 s → w_32_L61 n x1 x2 x3 x5 s X86 K → w_32_L61 n x1 x2 x3 x5 s X86' K' := by
  intro n
  induction n with
  | zero => intro x1 x2 x3 x5 s f h; exact h.elim
  | succ n ih =>
    intro x1 x2 x3 x5 s f h
    rw [w_32_L61] at h
    rw [w_32_L61]
    exact ⟨(fun c1 => (hX86 _ _ _ f (h.1 c1))), (fun c2 => ⟨(fun c3 => (hX86 _ _ _ f ((h.2 c2).1 c3))), (fun c4 => ⟨((h.2 c2).2 c4).1, (fm_w_123 _ _ (fr_rfl _ _) ((h.2 c2).2 c4).2 (fun r15 s14 gs14 h5 => (fm_w_33 _ _ _ (fr_rfl _ _) h5 (fun r17 s16 gs16 h6 => ⟨h6.1, (ih _ _ _ _ _ (fr_sA 52 (fr_tr fsb_0_11 (fr_tr fsb_0_11 f gs14) gs16)) h6.2)⟩))))⟩)⟩)⟩
theorem fm_w_32 {s0 : ST} {K K' : Int32 → ST → Prop} (p1 : Int32) (p2 : Int32) (s : ST) (f : Fr fs11 s0 s) (h : w_32 p1 p2 s K) (hK : ∀ (v0 : Int32) (s1 : ST), Fr fs11 s0 s1 → K v0 s1 → K' v0 s1) : w_32 p1 p2 s K' := by
  unfold w_32 at h ⊢
  exact (fm_w_181 _ _ _ _ (fr_rfl _ _) h (fun r2 s1 gs1 h1 => ⟨(fun c2 => (hK _ _ (fr_tr fsb_0_11 f gs1) (h1.1 c2))), (fun c3 => ⟨(h1.2 c3).1, (fm_w_184 _ _ _ (fr_rfl _ _) (h1.2 c3).2 (fun r4 s3 gs3 h4 => ⟨(fun c5 => (fm_w_123 _ _ (fr_rfl _ _) (h4.1 c5) (fun r6 s5 gs5 h6 => (fm_w_9 _ _ _ (fr_rfl _ _) h6 (fun r8 s7 gs7 h7 => (Exists.elim h7 (fun m e8 => ⟨m, (fm_w_32_L33 (fun y1 y2 y3 s13 gs13 h9 => (Exists.elim h9 (fun m e10 => ⟨m, (fm_w_32_L61 (fun y1 y2 s18 gs18 h11 => (fm_w_34 _ _ (fr_rfl _ _) h11 (fun s19 gs19 h12 => ⟨h12.1, (fm_w_36 _ _ _ _ (fr_rfl _ _) h12.2 (fun r22 s21 gs21 h13 => (hK _ _ (fr_tr fsb_0_11 (fr_sA 52 (fr_tr fsb_10_11 gs18 gs19)) gs21) h13)))⟩))) hK m _ _ _ _ _ gs13 e10)⟩))) hK m _ _ _ _ _ (fr_sI 5009 (fr_tr fsb_0_11 (fr_tr fsb_0_11 (fr_tr fsb_0_11 (fr_tr fsb_0_11 f gs1) gs3) gs5) gs7)) e8)⟩))))))), (fun c14 => (hK _ _ (fr_tr fsb_0_11 (fr_tr fsb_0_11 f gs1) gs3) (h4.2 c14)))⟩))⟩)⟩))
theorem fm_w_28_L10 {s0 : ST} {X48 X48' : Int32 → ST → Prop} {K K' : Int32 → ST → Prop} {R : Int32 → Int32 → Int32 → Int32 → ST → (Int32 → ST → Prop) → Prop} (hR : ∀ (b0 : Int32) (b1 : Int32) (b2 : Int32) (b3 : Int32) (b4 : ST) {K K' : Int32 → ST → Prop} {s0 : ST}, Fr fs0 s0 b4 → R b0 b1 b2 b3 b4 K → (∀ (v0 : Int32) (s1 : ST), Fr fs0 s0 s1 → K v0 s1 → K' v0 s1) → R b0 b1 b2 b3 b4 K') (hX48 : ∀ (v0 : Int32) (s1 : ST), Fr fs0 s0 s1 → X48 v0 s1 → X48' v0 s1) (hK : ∀ (v0 : Int32) (s1 : ST), Fr fs0 s0 s1 → K v0 s1 → K' v0 s1) : ∀ (n : Nat) (x1 : Int32) (x3 : Int32) (x4 : Int32) (x5 : Int32) (x6 : Int32) (s : ST), Fr fs0 s0 s → w_28_L10 R n x1 x3 x4 x5 x6 s X48 K → w_28_L10 R n x1 x3 x4 x5 x6 s X48' K' := by
  intro n
  induction n with
  | zero => intro x1 x3 x4 x5 x6 s f h; exact h.elim
  | succ n ih =>
    intro x1 x3 x4 x5 x6 s f h
    rw [w_28_L10] at h
    rw [w_28_L10]
    exact ⟨(fun c1 => (hX48 _ _ f (h.1 c1))), (fun c2 => ⟨(fun c3 => (hX48 _ _ f ((h.2 c2).1 c3))), (fun c4 => (fm_w_36 _ _ _ _ (fr_rfl _ _) ((h.2 c2).2 c4) (fun r2 s1 gs1 h5 => ⟨(fun c6 => (ih _ _ _ _ _ _ (fr_tr fsb_0_0 f gs1) (h5.1 c6))), (fun c7 => (fm_w_123 _ _ (fr_rfl _ _) (h5.2 c7) (fun r4 s3 gs3 h8 => (fm_w_119 _ _ (fr_rfl _ _) h8 (fun r6 s5 gs5 h9 => (hR _ _ _ _ _ (fr_rfl _ _) h9 (fun r8 s7 gs7 h10 => (ih _ _ _ _ _ _ (fr_tr fsb_0_0 (fr_tr fsb_0_0 (fr_tr fsb_0_0 (fr_tr fsb_0_0 f gs1) gs3) gs5) gs7) h10))))))))⟩)))⟩)⟩
theorem fm_o_28 {s0 : ST} {K K' : Int32 → ST → Prop} {R : Int32 → Int32 → Int32 → Int32 → ST → (Int32 → ST → Prop) → Prop} (hR : ∀ (b0 : Int32) (b1 : Int32) (b2 : Int32) (b3 : Int32) (b4 : ST) {K K' : Int32 → ST → Prop} {s0 : ST}, Fr fs0 s0 b4 → R b0 b1 b2 b3 b4 K → (∀ (v0 : Int32) (s1 : ST), Fr fs0 s0 s1 → K v0 s1 → K' v0 s1) → R b0 b1 b2 b3 b4 K') (p1 : Int32) (p2 : Int32) (p3 : Int32) (p4 : Int32) (s : ST) (f : Fr fs0 s0 s) (h : o_28 R p1 p2 p3 p4 s K) (hK : ∀ (v0 : Int32) (s1 : ST), Fr fs0 s0 s1 → K v0 s1 → K' v0 s1) : o_28 R p1 p2 p3 p4 s K' := by
  unfold o_28 at h ⊢
  exact ⟨(fun c1 => (Exists.elim (h.1 c1) (fun m e2 => ⟨m, (fm_w_28_L10 hR (fun y5 s9 gs9 h3 => (hK _ _ gs9 h3)) hK m _ _ _ _ _ _ f e2)⟩))), (fun c4 => (hK _ _ f (h.2 c4)))⟩
theorem fm_wr_28 : ∀ (n : Nat) (a0 : Int32) (a1 : Int32) (a2 : Int32) (a3 : Int32) (s : ST) {K K' : Int32 → ST → Prop} {s0 : ST}, Fr fs0 s0 s → wr_28 n a0 a1 a2 a3 s K → (∀ (v0 : Int32) (s1 : ST), Fr fs0 s0 s1 → K v0 s1 → K' v0 s1) → wr_28 n a0 a1 a2 a3 s K' := by
  intro n
  induction n with
  | zero => intro a0 a1 a2 a3 s K K' s0 f h hK; exact h.elim
  | succ n ih =>
    intro a0 a1 a2 a3 s K K' s0 f h hK
    rw [wr_28] at h
    rw [wr_28]
    exact fm_o_28 ih _ _ _ _ s f h hK
theorem fm_w_28 {s0 : ST} {K K' : Int32 → ST → Prop} (a0 : Int32) (a1 : Int32) (a2 : Int32) (a3 : Int32) (s : ST) (f : Fr fs0 s0 s) (h : w_28 a0 a1 a2 a3 s K) (hK : ∀ (v0 : Int32) (s1 : ST), Fr fs0 s0 s1 → K v0 s1 → K' v0 s1) : w_28 a0 a1 a2 a3 s K' := by
  unfold w_28 at h ⊢
  exact (Exists.elim h (fun n e => ⟨n, e.1, fm_wr_28 n _ _ _ _ _ f e.2 hK⟩))
theorem fm_w_27_L4 {s0 : ST} {X42 X42' : Int32 → ST → Prop} {K K' : Int32 → ST → Prop} (hX42 : ∀ (v0 : Int32) (s1 : ST), Fr fs11 s0 s1 → X42 v0 s1 → X42' v0 s1) (hK : ∀ (v0 : Int32) (s1 : ST), Fr fs11 s0 s1 → K v0 s1 → K' v0 s1) : ∀ (n : Nat) (x1 : Int32) (x2 : Int32) (x3 : Int32) (s : ST), Fr fs11 s0 s → w_27_L4 n x1 x2 x3 s X42 K → w_27_L4 n x1 x2 x3 s X42' K' := by
  intro n
  induction n with
  | zero => intro x1 x2 x3 s f h; exact h.elim
  | succ n ih =>
    intro x1 x2 x3 s f h
    rw [w_27_L4] at h
    rw [w_27_L4]
    exact ⟨(fun c1 => (hX42 _ _ f (h.1 c1))), (fun c2 => ⟨(fun c3 => (hX42 _ _ f ((h.2 c2).1 c3))), (fun c4 => (fm_w_123 _ _ (fr_rfl _ _) ((h.2 c2).2 c4) (fun r2 s1 gs1 h5 => (fm_w_119 _ _ (fr_rfl _ _) h5 (fun r4 s3 gs3 h6 => (fm_w_32 _ _ _ (fr_rfl _ _) h6 (fun r6 s5 gs5 h7 => ⟨(fun c8 => (ih _ _ _ _ (fr_tr fsb_11_11 (fr_tr fsb_0_11 (fr_tr fsb_0_11 f gs1) gs3) gs5) (h7.1 c8))), (fun c9 => (fm_w_28 _ _ _ _ _ (fr_rfl _ _) (h7.2 c9) (fun r8 s7 gs7 h10 => (ih _ _ _ _ (fr_tr fsb_0_11 (fr_tr fsb_11_11 (fr_tr fsb_0_11 (fr_tr fsb_0_11 f gs1) gs3) gs5) gs7) h10))))⟩)))))))⟩)⟩
theorem fm_w_27 {s0 : ST} {K K' : Int32 → ST → Prop} (p1 : Int32) (s : ST) (f : Fr fs11 s0 s) (h : w_27 p1 s K) (hK : ∀ (v0 : Int32) (s1 : ST), Fr fs11 s0 s1 → K v0 s1 → K' v0 s1) : w_27 p1 s K' := by
  unfold w_27 at h ⊢
  exact (Exists.elim h (fun m e1 => ⟨m, (fm_w_27_L4 (fun y2 s9 gs9 h2 => (hK _ _ gs9 h2)) hK m _ _ _ _ f e1)⟩))
theorem fm_w_118 {s0 : ST} {K K' : Int32 → ST → Prop} (p1 : Int32) (s : ST) (f : Fr fs0 s0 s) (h : w_118 p1 s K) (hK : ∀ (v0 : Int32) (s1 : ST), Fr fs0 s0 s1 → K v0 s1 → K' v0 s1) : w_118 p1 s K' := by
  unfold w_118 at h ⊢
  exact ⟨(fun c1 => (hK _ _ f (h.1 c1))), (fun c2 => ⟨(fun c3 => (hK _ _ f ((h.2 c2).1 c3))), (fun c4 => ⟨((h.2 c2).2 c4).1, ⟨(fun c5 => (hK _ _ f (((h.2 c2).2 c4).2.1 c5))), (fun c6 => (hK _ _ f (((h.2 c2).2 c4).2.2 c6)))⟩⟩)⟩)⟩
theorem fm_w_120 {s0 : ST} {K K' : Int32 → ST → Prop} (p1 : Int32) (s : ST) (f : Fr fs0 s0 s) (h : w_120 p1 s K) (hK : ∀ (v0 : Int32) (s1 : ST), Fr fs0 s0 s1 → K v0 s1 → K' v0 s1) : w_120 p1 s K' := by
  unfold w_120 at h ⊢
  exact ⟨(fun c1 => (hK _ _ f (h.1 c1))), (fun c2 => ⟨(fun c3 => (hK _ _ f ((h.2 c2).1 c3))), (fun c4 => ⟨((h.2 c2).2 c4).1, ⟨(fun c5 => (hK _ _ f (((h.2 c2).2 c4).2.1 c5))), (fun c6 => ⟨(((h.2 c2).2 c4).2.2 c6).1, (hK _ _ f (((h.2 c2).2 c4).2.2 c6).2)⟩)⟩⟩)⟩)⟩
theorem fm_w_30_L2 {s0 : ST} {X24 X24' : ST → Prop} {X20 X20' : Int32 → ST → Prop} {K K' : Int32 → ST → Prop} (hX24 : ∀ (s1 : ST), Fr fs11 s0 s1 → X24 s1 → X24' s1) (hX20 : ∀ (v0 : Int32) (s1 : ST), Fr fs11 s0 s1 → X20 v0 s1 → X20' v0 s1) (hK : ∀ (v0 : Int32) (s1 : ST), Fr fs11 s0 s1 → K v0 s1 → K' v0 s1) : ∀ (n : Nat) (x1 : Int32) (x2 : Int32) (s : ST), Fr fs11 s0 s → w_30_L2 n x1 x2 s X24 X20 K → w_30_L2 n x1 x2 s X24' X20' K' := by
  intro n
  induction n with
  | zero => intro x1 x2 s f h; exact h.elim
  | succ n ih =>
    intro x1 x2 s f h
    rw [w_30_L2] at h
    rw [w_30_L2]
    exact ⟨(fun c1 => (hX24 _ f (h.1 c1))), (fun c2 => (fm_w_118 _ _ (fr_rfl _ _) (h.2 c2) (fun r2 s1 gs1 h3 => ⟨(fun c4 => (ih _ _ _ (fr_tr fsb_0_11 f gs1) (h3.1 c4))), (fun c5 => (fm_w_120 _ _ (fr_rfl _ _) (h3.2 c5) (fun r4 s3 gs3 h6 => (fm_w_32 _ _ _ (fr_rfl _ _) h6 (fun r6 s5 gs5 h7 => ⟨(fun c8 => (ih _ _ _ (fr_tr fsb_11_11 (fr_tr fsb_0_11 (fr_tr fsb_0_11 f gs1) gs3) gs5) (h7.1 c8))), (fun c9 => (hX20 _ _ (fr_tr fsb_11_11 (fr_tr fsb_0_11 (fr_tr fsb_0_11 f gs1) gs3) gs5) (h7.2 c9)))⟩)))))⟩)))⟩
theorem fm_w_30 {s0 : ST} {K K' : Int32 → ST → Prop} (p1 : Int32) (s : ST) (f : Fr fs11 s0 s) (h : w_30 p1 s K) (hK : ∀ (v0 : Int32) (s1 : ST), Fr fs11 s0 s1 → K v0 s1 → K' v0 s1) : w_30 p1 s K' := by
  unfold w_30 at h ⊢
  exact (Exists.elim h (fun m e1 => ⟨m, (fm_w_30_L2 (fun s7 gs7 h2 => (hK _ _ gs7 h2)) (fun y2 s8 gs8 h3 => (hK _ _ gs8 h3)) hK m _ _ _ f e1)⟩))
theorem fm_w_31_L2 {s0 : ST} {X29 X29' : ST → Prop} {X25 X25' : Int32 → ST → Prop} {K K' : Int32 → ST → Prop} (hX29 : ∀ (s1 : ST), Fr fs0 s0 s1 → X29 s1 → X29' s1) (hX25 : ∀ (v0 : Int32) (s1 : ST), Fr fs0 s0 s1 → X25 v0 s1 → X25' v0 s1) (hK : ∀ (v0 : Int32) (s1 : ST), Fr fs0 s0 s1 → K v0 s1 → K' v0 s1) : ∀ (n : Nat) (x1 : Int32) (x2 : Int32) (x3 : Int32) (x4 : Int32) (s : ST), Fr fs0 s0 s → w_31_L2 n x1 x2 x3 x4 s X29 X25 K → w_31_L2 n x1 x2 x3 x4 s X29' X25' K' := by
  intro n
  induction n with
  | zero => intro x1 x2 x3 x4 s f h; exact h.elim
  | succ n ih =>
    intro x1 x2 x3 x4 s f h
    rw [w_31_L2] at h
    rw [w_31_L2]
    exact ⟨(fun c1 => (hX29 _ f (h.1 c1))), (fun c2 => (fm_w_120 _ _ (fr_rfl _ _) (h.2 c2) (fun r2 s1 gs1 h3 => ⟨(fun c4 => (ih _ _ _ _ _ (fr_tr fsb_0_0 f gs1) (h3.1 c4))), (fun c5 => ⟨(fun c6 => (ih _ _ _ _ _ (fr_tr fsb_0_0 f gs1) ((h3.2 c5).1 c6))), (fun c7 => (fm_w_36 _ _ _ _ (fr_rfl _ _) ((h3.2 c5).2 c7) (fun r4 s3 gs3 h8 => ⟨(fun c9 => (ih _ _ _ _ _ (fr_tr fsb_0_0 (fr_tr fsb_0_0 f gs1) gs3) (h8.1 c9))), (fun c10 => (hX25 _ _ (fr_tr fsb_0_0 (fr_tr fsb_0_0 f gs1) gs3) (h8.2 c10)))⟩)))⟩)⟩)))⟩
theorem fm_w_31 {s0 : ST} {K K' : Int32 → ST → Prop} (p1 : Int32) (p2 : Int32) (p3 : Int32) (s : ST) (f : Fr fs0 s0 s) (h : w_31 p1 p2 p3 s K) (hK : ∀ (v0 : Int32) (s1 : ST), Fr fs0 s0 s1 → K v0 s1 → K' v0 s1) : w_31 p1 p2 p3 s K' := by
  unfold w_31 at h ⊢
  exact (Exists.elim h (fun m e1 => ⟨m, (fm_w_31_L2 (fun s5 gs5 h2 => (hK _ _ gs5 h2)) (fun y4 s6 gs6 h3 => (hK _ _ gs6 h3)) hK m _ _ _ _ _ f e1)⟩))
theorem fm_w_29_L18 {s0 : ST} {X42 X42' : Int32 → ST → Prop} {K K' : Int32 → ST → Prop} (hX42 : ∀ (v0 : Int32) (s1 : ST), Fr fs11 s0 s1 → X42 v0 s1 → X42' v0 s1) (hK : ∀ (v0 : Int32) (s1 : ST), Fr fs11 s0 s1 → K v0 s1 → K' v0 s1) : ∀ (n : Nat) (x2 : Int32) (x3 : Int32) (x4 : Int32) (x5 : Int32) (s : ST), Fr fs11 s0 s → w_29_L18 n x2 x3 x4 x5 s X42 K → w_29_L18 n x2 x3 x4 x5 s X42' K' := by
  intro n
  induction n with
  | zero => intro x2 x3 x4 x5 s f h; exact h.elim
  | succ n ih =>
    intro x2 x3 x4 x5 s f h
    rw [w_29_L18] at h
    rw [w_29_L18]
    exact ⟨(fun c1 => (hX42 _ _ f (h.1 c1))), (fun c2 => ⟨(fun c3 => (hX42 _ _ f ((h.2 c2).1 c3))), (fun c4 => (fm_w_119 _ _ (fr_rfl _ _) ((h.2 c2).2 c4) (fun r6 s5 gs5 h5 => (fm_w_120 _ _ (fr_rfl _ _) h5 (fun r8 s7 gs7 h6 => (fm_w_31 _ _ _ _ (fr_rfl _ _) h6 (fun r10 s9 gs9 h7 => (ih _ _ _ _ _ (fr_tr fsb_0_11 (fr_tr fsb_0_11 (fr_tr fsb_0_11 f gs5) gs7) gs9) h7))))))))⟩)⟩
theorem fm_w_29 {s0 : ST} {K K' : Int32 → ST → Prop} (p1 : Int32) (p2 : Int32) (s : ST) (f : Fr fs11 s0 s) (h : w_29 p1 p2 s K) (hK : ∀ (v0 : Int32) (s1 : ST), Fr fs11 s0 s1 → K v0 s1 → K' v0 s1) : w_29 p1 p2 s K' := by
  unfold w_29 at h ⊢
  exact (fm_w_181 _ _ _ _ (fr_rfl _ _) h (fun r2 s1 gs1 h1 => ⟨(fun c2 => (fm_w_30 _ _ (fr_rfl _ _) (h1.1 c2) (fun r4 s3 gs3 h3 => (Exists.elim h3 (fun m e4 => ⟨m, (fm_w_29_L18 (fun y3 s11 gs11 h5 => (hK _ _ gs11 h5)) hK m _ _ _ _ _ (fr_tr fsb_11_11 (fr_tr fsb_0_11 f gs1) gs3) e4)⟩))))), (fun c6 => (hK _ _ (fr_tr fsb_0_11 f gs1) (h1.2 c6)))⟩))
theorem fm_w_44 {s0 : ST} {K K' : Int32 → ST → Prop} (s : ST) (f : Fr fs12 s0 s) (h : w_44  s K) (hK : ∀ (v0 : Int32) (s1 : ST), Fr fs12 s0 s1 → K v0 s1 → K' v0 s1) : w_44  s K' := by
  unfold w_44 at h ⊢
  exact ⟨(fun c1 => ⟨(h.1 c1).1, (hK _ _ (fr_sA 40 (fr_sI 3710 f)) (h.1 c1).2)⟩), (fun c2 => (hK _ _ f (h.2 c2)))⟩
theorem fm_w_46 {s0 : ST} {K K' : ST → Prop} (p1 : Int32) (p2 : Int32) (p3 : Int32) (s : ST) (f : Fr fs13 s0 s) (h : w_46 p1 p2 p3 s K) (hK : ∀ (s1 : ST), Fr fs13 s0 s1 → K s1 → K' s1) : w_46 p1 p2 p3 s K' := by
  unfold w_46 at h ⊢
  exact ⟨h.1, ⟨h.2.1, ⟨h.2.2.1, ⟨h.2.2.2.1, ⟨h.2.2.2.2.1, (hK _ (fr_sA 40 (fr_sA 41 (fr_sA 43 (fr_sA 42 (fr_sI 3711 f))))) h.2.2.2.2.2)⟩⟩⟩⟩⟩
theorem fm_w_45 {s0 : ST} {K K' : ST → Prop} (p1 : Int32) (p2 : Int32) (p3 : Int32) (s : ST) (f : Fr fs13 s0 s) (h : w_45 p1 p2 p3 s K) (hK : ∀ (s1 : ST), Fr fs13 s0 s1 → K s1 → K' s1) : w_45 p1 p2 p3 s K' := by
  unfold w_45 at h ⊢
  exact ⟨(fun c1 => (hK _ f (h.1 c1))), (fun c2 => (fm_w_181 _ _ _ _ (fr_rfl _ _) (h.2 c2) (fun r2 s1 gs1 h3 => ⟨(fun c4 => (hK _ (fr_tr fsb_0_13 f gs1) (h3.1 c4))), (fun c5 => (fm_w_181 _ _ _ _ (fr_rfl _ _) (h3.2 c5) (fun r4 s3 gs3 h6 => ⟨(fun c7 => (hK _ (fr_tr fsb_0_13 (fr_tr fsb_0_13 f gs1) gs3) (h6.1 c7))), (fun c8 => (fm_w_46 _ _ _ _ (fr_rfl _ _) (h6.2 c8) (fun s5 gs5 h9 => (fm_w_46 _ _ _ _ (fr_rfl _ _) h9 (fun s7 gs7 h10 => (hK _ (fr_tr fsb_13_13 (fr_tr fsb_13_13 (fr_tr fsb_0_13 (fr_tr fsb_0_13 f gs1) gs3) gs5) gs7) h10))))))⟩)))⟩)))⟩
theorem fm_w_41_L8 {s0 : ST} {X16 X16' : Int32 → ST → Prop} {K K' : ST → Prop} (hX16 : ∀ (v0 : Int32) (s1 : ST), Fr fs14 s0 s1 → X16 v0 s1 → X16' v0 s1) (hK : ∀ (s1 : ST), Fr fs14 s0 s1 → K s1 → K' s1) : ∀ (n : Nat) (x1 : Int32) (x2 : Int32) (s : ST), Fr fs14 s0 s → w_41_L8 n x1 x2 s X16 K → w_41_L8 n x1 x2 s X16' K' := by
  intro n
  induction n with
  | zero => intro x1 x2 s f h; exact h.elim
  | succ n ih =>
    intro x1 x2 s f h
    rw [w_41_L8] at h
    rw [w_41_L8]
    exact ⟨(fun c1 => (hX16 _ _ f (h.1 c1))), (fun c2 => (fm_w_44 _ (fr_rfl _ _) (h.2 c2) (fun r2 s1 gs1 h3 => (ih _ _ _ (fr_tr fsb_12_14 f gs1) h3))))⟩
theorem fm_w_41_L18 {s0 : ST} {X42 X42' : Int32 → ST → Prop} {K K' : ST → Prop} (hX42 : ∀ (v0 : Int32) (s1 : ST), Fr fs14 s0 s1 → X42 v0 s1 → X42' v0 s1) (hK : ∀ (s1 : ST), Fr fs14 s0 s1 → K s1 → K' s1) : ∀ (n : Nat) (x1 : Int32) (x2 : Int32) (s : ST), Fr fs14 s0 s → w_41_L18 n x1 x2 s X42 K → w_41_L18 n x1 x2 s X42' K' := by
  intro n
  induction n with
  | zero => intro x1 x2 s f h; exact h.elim
  | succ n ih =>
    intro x1 x2 s f h
    rw [w_41_L18] at h
    rw [w_41_L18]
    exact ⟨(fun c1 => (hX42 _ _ f (h.1 c1))), (fun c2 => ⟨(fun c3 => (hX42 _ _ f ((h.2 c2).1 c3))), (fun c4 => (fm_w_44 _ (fr_rfl _ _) ((h.2 c2).2 c4) (fun r5 s4 gs4 h5 => ⟨h5.1, (fm_w_4 _ _ (fr_rfl _ _) h5.2 (fun r7 s6 gs6 h6 => ⟨h6.1, (ih _ _ _ (fr_sA 39 (fr_tr fsb_0_14 (fr_sA 38 (fr_tr fsb_12_14 f gs4)) gs6)) h6.2)⟩))⟩)))⟩)⟩
theorem fm_w_41 {s0 : ST} {K K' : ST → Prop} (p1 : Int32) (s : ST) (f : Fr fs14 s0 s) (h : w_41 p1 s K) (hK : ∀ (s1 : ST), Fr fs14 s0 s1 → K s1 → K' s1) : w_41 p1 s K' := by
  unfold w_41 at h ⊢
  exact (Exists.elim h (fun m e1 => ⟨m, (fm_w_41_L8 (fun y1 s3 gs3 h2 => (Exists.elim h2 (fun m e3 => ⟨m, (fm_w_41_L18 (fun y1 s8 gs8 h4 => (fm_w_181 _ _ _ _ (fr_rfl _ _) h4 (fun r10 s9 gs9 h5 => ⟨(fun c6 => (hK _ (fr_tr fsb_0_14 gs8 gs9) (h5.1 c6))), (fun c7 => ⟨(h5.2 c7).1, ⟨(h5.2 c7).2.1, (fm_w_45 _ _ _ _ (fr_rfl _ _) (h5.2 c7).2.2 (fun s11 gs11 h8 => (hK _ (fr_tr fsb_13_14 (fr_tr fsb_0_14 gs8 gs9) gs11) h8)))⟩⟩)⟩))) hK m _ _ _ gs3 e3)⟩))) hK m _ _ _ (fr_sI 3711 (fr_sI 3710 f)) e1)⟩))
theorem fm_w_43 {s0 : ST} {K K' : ST → Prop} (p1 : Int32) (p2 : Int32) (p3 : Int32) (s : ST) (f : Fr fs14 s0 s) (h : w_43 p1 p2 p3 s K) (hK : ∀ (s1 : ST), Fr fs14 s0 s1 → K s1 → K' s1) : w_43 p1 p2 p3 s K' := by
  unfold w_43 at h ⊢
  exact ⟨h.1, ⟨h.2.1, (fm_w_45 _ _ _ _ (fr_rfl _ _) h.2.2 (fun s1 gs1 h1 => ⟨h1.1, ⟨h1.2.1, (fm_w_44 _ (fr_rfl _ _) h1.2.2 (fun r4 s3 gs3 h2 => ⟨h2.1, ⟨h2.2.1, ⟨h2.2.2.1, (fm_w_45 _ _ _ _ (fr_rfl _ _) h2.2.2.2 (fun s5 gs5 h3 => (hK _ (fr_tr fsb_13_14 (fr_sA 38 (fr_tr fsb_12_14 (fr_sA 39 (fr_tr fsb_13_14 f gs1)) gs3)) gs5) h3)))⟩⟩⟩))⟩⟩))⟩⟩
theorem fm_w_42 {s0 : ST} {K K' : ST → Prop} (p1 : Int32) (s : ST) (f : Fr fs14 s0 s) (h : w_42 p1 s K) (hK : ∀ (s1 : ST), Fr fs14 s0 s1 → K s1 → K' s1) : w_42 p1 s K' := by
  unfold w_42 at h ⊢
  exact (fm_w_9 _ _ _ (fr_rfl _ _) h (fun r2 s1 gs1 h1 => (fm_w_9 _ _ _ (fr_rfl _ _) h1 (fun r4 s3 gs3 h2 => (fm_w_16 _ _ (fr_rfl _ _) h2 (fun r6 s5 gs5 h3 => (fm_w_181 _ _ _ _ (fr_rfl _ _) h3 (fun r8 s7 gs7 h4 => ⟨(fun c5 => ⟨(fun c6 => ⟨(fun c7 => ⟨(fun c8 => (hK _ (fr_tr fsb_0_14 (fr_tr fsb_0_14 (fr_tr fsb_0_14 (fr_tr fsb_0_14 f gs1) gs3) gs5) gs7) ((((h4.1 c5).1 c6).1 c7).1 c8))), (fun c9 => (fm_w_181 _ _ _ _ (fr_rfl _ _) ((((h4.1 c5).1 c6).1 c7).2 c9) (fun r10 s9 gs9 h10 => ⟨(fun c11 => (hK _ (fr_tr fsb_0_14 (fr_tr fsb_0_14 (fr_tr fsb_0_14 (fr_tr fsb_0_14 (fr_tr fsb_0_14 f gs1) gs3) gs5) gs7) gs9) (h10.1 c11))), (fun c12 => ⟨(h10.2 c12).1, (fm_w_119 _ _ (fr_rfl _ _) (h10.2 c12).2 (fun r12 s11 gs11 h13 => (fm_w_43 _ _ _ _ (fr_rfl _ _) h13 (fun s13 gs13 h14 => ⟨h14.1, (fm_w_119 _ _ (fr_rfl _ _) h14.2 (fun r16 s15 gs15 h15 => ⟨h15.1, (hK _ (fr_sA 39 (fr_tr fsb_0_14 (fr_tr fsb_14_14 (fr_tr fsb_0_14 (fr_tr fsb_0_14 (fr_tr fsb_0_14 (fr_tr fsb_0_14 (fr_tr fsb_0_14 (fr_tr fsb_0_14 f gs1) gs3) gs5) gs7) gs9) gs11) gs13) gs15)) h15.2)⟩))⟩))))⟩)⟩)))⟩), (fun c16 => (fm_w_119 _ _ (fr_rfl _ _) (((h4.1 c5).1 c6).2 c16) (fun r18 s17 gs17 h17 => (fm_w_43 _ _ _ _ (fr_rfl _ _) h17 (fun s19 gs19 h18 => (hK _ (fr_tr fsb_14_14 (fr_tr fsb_0_14 (fr_tr fsb_0_14 (fr_tr fsb_0_14 (fr_tr fsb_0_14 (fr_tr fsb_0_14 f gs1) gs3) gs5) gs7) gs17) gs19) h18))))))⟩), (fun c19 => ⟨((h4.1 c5).2 c19).1, (fm_w_119 _ _ (fr_rfl _ _) ((h4.1 c5).2 c19).2 (fun r22 s21 gs21 h20 => ⟨h20.1, (hK _ (fr_sA 39 (fr_tr fsb_0_14 (fr_tr fsb_0_14 (fr_tr fsb_0_14 (fr_tr fsb_0_14 (fr_tr fsb_0_14 f gs1) gs3) gs5) gs7) gs21)) h20.2)⟩))⟩)⟩), (fun c21 => (hK _ (fr_tr fsb_0_14 (fr_tr fsb_0_14 (fr_tr fsb_0_14 (fr_tr fsb_0_14 f gs1) gs3) gs5) gs7) (h4.2 c21)))⟩))))))))
theorem fm_w_302_R44_L5 {s0 : ST} {X14 X14' : ST → Prop} {K K' : ST → Prop} (hX14 : ∀ (s1 : ST), Fr fs15 s0 s1 → X14 s1 → X14' s1) (hK : ∀ (s1 : ST), Fr fs15 s0 s1 → K s1 → K' s1) : ∀ (n : Nat) (x1 : Int32) (x2 : Int32) (x3 : Int32) (s : ST), Fr fs15 s0 s → w_302_R44_L5 n x1 x2 x3 s X14 K → w_302_R44_L5 n x1 x2 x3 s X14' K' := by
  intro n
  induction n with
  | zero => intro x1 x2 x3 s f h; exact h.elim
  | succ n ih =>
    intro x1 x2 x3 s f h
    rw [w_302_R44_L5] at h
    rw [w_302_R44_L5]
    exact ⟨(fun c1 => (hX14 _ f (h.1 c1))), (fun c2 => ⟨(h.2 c2).1, (ih _ _ _ _ (fr_sA 44 f) (h.2 c2).2)⟩)⟩
theorem fm_w_302_R44 {s0 : ST} {K K' : ST → Prop} (p1 : Int32) (s : ST) (f : Fr fs15 s0 s) (h : w_302_R44 p1 s K) (hK : ∀ (s1 : ST), Fr fs15 s0 s1 → K s1 → K' s1) : w_302_R44 p1 s K' := by
  unfold w_302_R44 at h ⊢
  exact (Exists.elim h (fun m e1 => ⟨m, (fm_w_302_R44_L5 (fun s1 gs1 h2 => (hK _ gs1 h2)) hK m _ _ _ _ f e1)⟩))
theorem fm_w_51 {s0 : ST} {K K' : Int32 → ST → Prop} (p1 : Int32) (s : ST) (f : Fr fs0 s0 s) (h : w_51 p1 s K) (hK : ∀ (v0 : Int32) (s1 : ST), Fr fs0 s0 s1 → K v0 s1 → K' v0 s1) : w_51 p1 s K' := by
  unfold w_51 at h ⊢
  exact (fm_w_181 _ _ _ _ (fr_rfl _ _) h (fun r2 s1 gs1 h1 => (hK _ _ (fr_tr fsb_0_0 f gs1) h1)))
theorem fm_w_48_L32 {s0 : ST} {X76 X76' : Int32 → Int32 → ST → Prop} {K K' : Int32 → ST → Prop} (hX76 : ∀ (v0 : Int32) (v1 : Int32) (s1 : ST), Fr fs16 s0 s1 → X76 v0 v1 s1 → X76' v0 v1 s1) (hK : ∀ (v0 : Int32) (s1 : ST), Fr fs16 s0 s1 → K v0 s1 → K' v0 s1) : ∀ (n : Nat) (x1 : Int32) (x2 : Int32) (x3 : Int32) (s : ST), Fr fs16 s0 s → w_48_L32 n x1 x2 x3 s X76 K → w_48_L32 n x1 x2 x3 s X76' K' := by
  intro n
  induction n with
  | zero => intro x1 x2 x3 s f h; exact h.elim
  | succ n ih =>
    intro x1 x2 x3 s f h
    rw [w_48_L32] at h
    rw [w_48_L32]
    exact (fm_w_51 _ _ (fr_rfl _ _) h (fun r4 s3 gs3 h1 => ⟨(fun c2 => (hX76 _ _ _ (fr_tr fsb_0_16 f gs3) (h1.1 c2))), (fun c3 => ⟨(h1.2 c3).1, ⟨(h1.2 c3).2.1, ⟨(fun c4 => ⟨((h1.2 c3).2.2.1 c4).1, (ih _ _ _ _ (fr_tr fsb_0_16 f gs3) ((h1.2 c3).2.2.1 c4).2)⟩), (fun c5 => ⟨((h1.2 c3).2.2.2 c5).1, ⟨(fun c6 => ⟨(((h1.2 c3).2.2.2 c5).2.1 c6).1, (ih _ _ _ _ (fr_tr fsb_0_16 f gs3) (((h1.2 c3).2.2.2 c5).2.1 c6).2)⟩), (fun c7 => ⟨(fun c8 => ⟨((((h1.2 c3).2.2.2 c5).2.2 c7).1 c8).1, (ih _ _ _ _ (fr_tr fsb_0_16 f gs3) ((((h1.2 c3).2.2.2 c5).2.2 c7).1 c8).2)⟩), (fun c9 => ⟨((((h1.2 c3).2.2.2 c5).2.2 c7).2 c9).1, ⟨((((h1.2 c3).2.2.2 c5).2.2 c7).2 c9).2.1, ⟨((((h1.2 c3).2.2.2 c5).2.2 c7).2 c9).2.2.1, (ih _ _ _ _ (fr_sA 45 (fr_sA 44 (fr_tr fsb_0_16 f gs3))) ((((h1.2 c3).2.2.2 c5).2.2 c7).2 c9).2.2.2)⟩⟩⟩)⟩)⟩⟩)⟩⟩⟩)⟩))
theorem fm_w_48_L18 {s0 : ST} {X78 X78' : ST → Prop} {K K' : Int32 → ST → Prop} (hX78 : ∀ (s1 : ST), Fr fs16 s0 s1 → X78 s1 → X78' s1) (hK : ∀ (v0 : Int32) (s1 : ST), Fr fs16 s0 s1 → K v0 s1 → K' v0 s1) : ∀ (n : Nat) (x1 : Int32) (x2 : Int32) (s : ST), Fr fs16 s0 s → w_48_L18 n x1 x2 s X78 K → w_48_L18 n x1 x2 s X78' K' := by
  intro n
  induction n with
  | zero => intro x1 x2 s f h; exact h.elim
  | succ n ih =>
    intro x1 x2 s f h
    rw [w_48_L18] at h
    rw [w_48_L18]
    exact ⟨(fun c1 => (hX78 _ f (h.1 c1))), (fun c2 => ⟨(fun c3 => (hX78 _ f ((h.2 c2).1 c3))), (fun c4 => ⟨((h.2 c2).2 c4).1, ⟨((h.2 c2).2 c4).2.1, (Exists.elim ((h.2 c2).2 c4).2.2 (fun m e5 => ⟨m, (fm_w_48_L32 (fun y1 y2 s3 gs3 h6 => (ih _ _ _ gs3 h6)) hK m _ _ _ _ f e5)⟩))⟩⟩)⟩)⟩
theorem fm_w_48 {s0 : ST} {K K' : Int32 → ST → Prop} (s : ST) (f : Fr fs16 s0 s) (h : w_48  s K) (hK : ∀ (v0 : Int32) (s1 : ST), Fr fs16 s0 s1 → K v0 s1 → K' v0 s1) : w_48  s K' := by
  unfold w_48 at h ⊢
  exact (fm_w_302_R44 _ _ (fr_rfl _ _) h (fun s1 gs1 h1 => ⟨h1.1, ⟨h1.2.1, (Exists.elim h1.2.2 (fun m e2 => ⟨m, (fm_w_48_L18 (fun s4 gs4 h3 => ⟨h3.1, ⟨(fun c4 => (hK _ _ gs4 (h3.2.1 c4))), (fun c5 => (hK _ _ gs4 (h3.2.2 c5)))⟩⟩) hK m _ _ _ (fr_sA 45 (fr_sA 44 (fr_tr fsb_15_16 f gs1))) e2)⟩))⟩⟩))
theorem fm_w_50 {s0 : ST} {K K' : Int32 → ST → Prop} (p1 : Int32) (s : ST) (f : Fr fs0 s0 s) (h : w_50 p1 s K) (hK : ∀ (v0 : Int32) (s1 : ST), Fr fs0 s0 s1 → K v0 s1 → K' v0 s1) : w_50 p1 s K' := by
  unfold w_50 at h ⊢
  exact ⟨h.1, ⟨h.2.1, (hK _ _ f h.2.2)⟩⟩
theorem fm_w_49_L9 {s0 : ST} {X29 X29' : Int32 → ST → Prop} {K K' : Int32 → ST → Prop} (hX29 : ∀ (v0 : Int32) (s1 : ST), Fr fs17 s0 s1 → X29 v0 s1 → X29' v0 s1) (hK : ∀ (v0 : Int32) (s1 : ST), Fr fs17 s0 s1 → K v0 s1 → K' v0 s1) : ∀ (n : Nat) (x1 : Int32) (x2 : Int32) (x3 : Int32) (s : ST), Fr fs17 s0 s → w_49_L9 n x1 x2 x3 s X29 K → w_49_L9 n x1 x2 x3 s X29' K' := by
  intro n
  induction n with
  | zero => intro x1 x2 x3 s f h; exact h.elim
  | succ n ih =>
    intro x1 x2 x3 s f h
    rw [w_49_L9] at h
    rw [w_49_L9]
    exact ⟨(fun c1 => (hX29 _ _ f (h.1 c1))), (fun c2 => (fm_w_51 _ _ (fr_rfl _ _) (h.2 c2) (fun r2 s1 gs1 h3 => ⟨(fun c4 => (hX29 _ _ (fr_tr fsb_0_17 f gs1) (h3.1 c4))), (fun c5 => ⟨(h3.2 c5).1, (fm_w_50 _ _ (fr_rfl _ _) (h3.2 c5).2 (fun r4 s3 gs3 h6 => (ih _ _ _ _ (fr_tr fsb_0_17 (fr_tr fsb_0_17 f gs1) gs3) h6)))⟩)⟩)))⟩
theorem fm_w_49_L36 {s0 : ST} {X67 X67' : Int32 → ST → Prop} {K K' : Int32 → ST → Prop} (hX67 : ∀ (v0 : Int32) (s1 : ST), Fr fs17 s0 s1 → X67 v0 s1 → X67' v0 s1) (hK : ∀ (v0 : Int32) (s1 : ST), Fr fs17 s0 s1 → K v0 s1 → K' v0 s1) : ∀ (n : Nat) (x1 : Int32) (x2 : Int32) (x3 : Int32) (s : ST), Fr fs17 s0 s → w_49_L36 n x1 x2 x3 s X67 K → w_49_L36 n x1 x2 x3 s X67' K' := by
  intro n
  induction n with
  | zero => intro x1 x2 x3 s f h; exact h.elim
  | succ n ih =>
    intro x1 x2 x3 s f h
    rw [w_49_L36] at h
    rw [w_49_L36]
    exact ⟨(fun c1 => (hX67 _ _ f (h.1 c1))), (fun c2 => (fm_w_51 _ _ (fr_rfl _ _) (h.2 c2) (fun r7 s6 gs6 h3 => ⟨(fun c4 => (hX67 _ _ (fr_tr fsb_0_17 f gs6) (h3.1 c4))), (fun c5 => ⟨(h3.2 c5).1, ⟨(h3.2 c5).2.1, ⟨(h3.2 c5).2.2.1, ⟨(h3.2 c5).2.2.2.1, (fm_w_50 _ _ (fr_rfl _ _) (h3.2 c5).2.2.2.2 (fun r9 s8 gs8 h6 => (ih _ _ _ _ (fr_tr fsb_0_17 (fr_sA 43 (fr_tr fsb_0_17 f gs6)) gs8) h6)))⟩⟩⟩⟩)⟩)))⟩
theorem fm_w_49 {s0 : ST} {K K' : Int32 → ST → Prop} (s : ST) (f : Fr fs17 s0 s) (h : w_49  s K) (hK : ∀ (v0 : Int32) (s1 : ST), Fr fs17 s0 s1 → K v0 s1 → K' v0 s1) : w_49  s K' := by
  unfold w_49 at h ⊢
  exact ⟨h.1, (Exists.elim h.2 (fun m e1 => ⟨m, (fm_w_49_L9 (fun y1 s5 gs5 h2 => ⟨h2.1, (Exists.elim h2.2 (fun m e3 => ⟨m, (fm_w_49_L36 (fun y1 s10 gs10 h4 => (hK _ _ gs10 h4)) hK m _ _ _ _ gs5 e3)⟩))⟩) hK m _ _ _ _ f e1)⟩))⟩
theorem fm_w_47_L4 {s0 : ST} {X17 X17' : Int32 → ST → Prop} {K K' : Int32 → ST → Prop} (hX17 : ∀ (v0 : Int32) (s1 : ST), Fr fs18 s0 s1 → X17 v0 s1 → X17' v0 s1) (hK : ∀ (v0 : Int32) (s1 : ST), Fr fs18 s0 s1 → K v0 s1 → K' v0 s1) : ∀ (n : Nat) (x1 : Int32) (x2 : Int32) (s : ST), Fr fs18 s0 s → w_47_L4 n x1 x2 s X17 K → w_47_L4 n x1 x2 s X17' K' := by
  intro n
  induction n with
  | zero => intro x1 x2 s f h; exact h.elim
  | succ n ih =>
    intro x1 x2 s f h
    rw [w_47_L4] at h
    rw [w_47_L4]
    exact ⟨(fun c1 => (hX17 _ _ f (h.1 c1))), (fun c2 => (fm_w_48 _ (fr_rfl _ _) (h.2 c2) (fun r2 s1 gs1 h3 => ⟨(fun c4 => (hX17 _ _ (fr_tr fsb_16_18 f gs1) (h3.1 c4))), (fun c5 => (fm_w_49 _ (fr_rfl _ _) (h3.2 c5) (fun r4 s3 gs3 h6 => (ih _ _ _ (fr_tr fsb_17_18 (fr_tr fsb_16_18 f gs1) gs3) h6))))⟩)))⟩
theorem fm_w_47 {s0 : ST} {K K' : Int32 → ST → Prop} (s : ST) (f : Fr fs18 s0 s) (h : w_47  s K) (hK : ∀ (v0 : Int32) (s1 : ST), Fr fs18 s0 s1 → K v0 s1 → K' v0 s1) : w_47  s K' := by
  unfold w_47 at h ⊢
  exact (Exists.elim h (fun m e1 => ⟨m, (fm_w_47_L4 (fun y1 s5 gs5 h2 => (hK _ _ gs5 h2)) hK m _ _ _ f e1)⟩))
theorem fm_w_40_L5 {s0 : ST} {X18 X18' : Int32 → Int32 → Int32 → ST → Prop} {K K' : Int32 → ST → Prop} (hX18 : ∀ (v0 : Int32) (v1 : Int32) (v2 : Int32) (s1 : ST), Fr fs19 s0 s1 → X18 v0 v1 v2 s1 → X18' v0 v1 v2 s1) (hK : ∀ (v0 : Int32) (s1 : ST), Fr fs19 s0 s1 → K v0 s1 → K' v0 s1) : ∀ (n : Nat) (x1 : Int32) (x2 : Int32) (x3 : Int32) (x4 : Int32) (s : ST), Fr fs19 s0 s → w_40_L5 n x1 x2 x3 x4 s X18 K → w_40_L5 n x1 x2 x3 x4 s X18' K' := by
  intro n
  induction n with
  | zero => intro x1 x2 x3 x4 s f h; exact h.elim
  | succ n ih =>
    intro x1 x2 x3 x4 s f h
    rw [w_40_L5] at h
    rw [w_40_L5]
    exact ⟨(fun c1 => (hX18 _ _ _ _ f (h.1 c1))), (fun c2 => (fm_w_123 _ _ (fr_rfl _ _) (h.2 c2) (fun r4 s3 gs3 h3 => (fm_w_42 _ _ (fr_rfl _ _) h3 (fun s5 gs5 h4 => (ih _ _ _ _ _ (fr_tr fsb_14_19 (fr_tr fsb_0_19 f gs3) gs5) h4))))))⟩
theorem fm_w_40_L20 {s0 : ST} {X46 X46' : Int32 → Int32 → ST → Prop} {K K' : Int32 → ST → Prop} (hX46 : ∀ (v0 : Int32) (v1 : Int32) (s1 : ST), Fr fs19 s0 s1 → X46 v0 v1 s1 → X46' v0 v1 s1) (hK : ∀ (v0 : Int32) (s1 : ST), Fr fs19 s0 s1 → K v0 s1 → K' v0 s1) : ∀ (n : Nat) (x1 : Int32) (x2 : Int32) (x3 : Int32) (x4 : Int32) (s : ST), Fr fs19 s0 s → w_40_L20 n x1 x2 x3 x4 s X46 K → w_40_L20 n x1 x2 x3 x4 s X46' K' := by
  intro n
  induction n with
  | zero => intro x1 x2 x3 x4 s f h; exact h.elim
  | succ n ih =>
    intro x1 x2 x3 x4 s f h
    rw [w_40_L20] at h
    rw [w_40_L20]
    exact ⟨(fun c1 => (hX46 _ _ _ f (h.1 c1))), (fun c2 => ⟨(fun c3 => (hX46 _ _ _ f ((h.2 c2).1 c3))), (fun c4 => ⟨(fun c5 => ⟨(fun c6 => (ih _ _ _ _ _ f ((((h.2 c2).2 c4).1 c5).1 c6))), (fun c7 => ⟨((((h.2 c2).2 c4).1 c5).2 c7).1, (fm_w_45 _ _ _ _ (fr_rfl _ _) ((((h.2 c2).2 c4).1 c5).2 c7).2 (fun s8 gs8 h8 => (ih _ _ _ _ _ (fr_tr fsb_13_19 f gs8) h8)))⟩)⟩), (fun c9 => ⟨(fun c10 => (ih _ _ _ _ _ f ((((h.2 c2).2 c4).2 c9).1 c10))), (fun c11 => ⟨((((h.2 c2).2 c4).2 c9).2 c11).1, (fm_w_45 _ _ _ _ (fr_rfl _ _) ((((h.2 c2).2 c4).2 c9).2 c11).2 (fun s10 gs10 h12 => (ih _ _ _ _ _ (fr_tr fsb_13_19 f gs10) h12)))⟩)⟩)⟩)⟩)⟩
theorem fm_w_40 {s0 : ST} {K K' : Int32 → ST → Prop} (p1 : Int32) (p2 : Int32) (p3 : Int32) (s : ST) (f : Fr fs19 s0 s) (h : w_40 p1 p2 p3 s K) (hK : ∀ (v0 : Int32) (s1 : ST), Fr fs19 s0 s1 → K v0 s1 → K' v0 s1) : w_40 p1 p2 p3 s K' := by
  unfold w_40 at h ⊢
  exact (fm_w_41 _ _ (fr_rfl _ _) h (fun s1 gs1 h1 => (Exists.elim h1 (fun m e2 => ⟨m, (fm_w_40_L5 (fun y1 y2 y3 s7 gs7 h3 => (Exists.elim h3 (fun m e4 => ⟨m, (fm_w_40_L20 (fun y1 y3 s12 gs12 h5 => ⟨(fun c6 => (fm_w_47 _ (fr_rfl _ _) (h5.1 c6) (fun r14 s13 gs13 h7 => ⟨(fun c8 => (fm_w_4 _ _ (fr_rfl _ _) (h7.1 c8) (fun r16 s15 gs15 h9 => (hK _ _ (fr_tr fsb_0_19 (fr_tr fsb_18_19 gs12 gs13) gs15) h9)))), (fun c10 => (hK _ _ (fr_tr fsb_18_19 gs12 gs13) (h7.2 c10)))⟩))), (fun c11 => (fm_w_45 _ _ _ _ (fr_rfl _ _) (h5.2 c11) (fun s17 gs17 h12 => (fm_w_47 _ (fr_rfl _ _) h12 (fun r20 s19 gs19 h13 => ⟨(fun c14 => (fm_w_4 _ _ (fr_rfl _ _) (h13.1 c14) (fun r22 s21 gs21 h15 => (hK _ _ (fr_tr fsb_0_19 (fr_tr fsb_18_19 (fr_tr fsb_13_19 gs12 gs17) gs19) gs21) h15)))), (fun c16 => (hK _ _ (fr_tr fsb_18_19 (fr_tr fsb_13_19 gs12 gs17) gs19) (h13.2 c16)))⟩)))))⟩) hK m _ _ _ _ _ gs7 e4)⟩))) hK m _ _ _ _ _ (fr_tr fsb_14_19 f gs1) e2)⟩))))
theorem fm_w_292 {s0 : ST} {K K' : ST → Prop} (p0 : Nat) (s : ST) (f : Fr fs0 s0 s) (h : w_292 p0 s K) (hK : ∀ (s1 : ST), Fr fs0 s0 s1 → K s1 → K' s1) : w_292 p0 s K' := by
  unfold w_292 at h ⊢
  exact (hK _ f h)
theorem fm_w_293 {s0 : ST} {K K' : ST → Prop} (p0 : Nat) (s : ST) (f : Fr fs20 s0 s) (h : w_293 p0 s K) (hK : ∀ (s1 : ST), Fr fs20 s0 s1 → K s1 → K' s1) : w_293 p0 s K' := by
  unfold w_293 at h ⊢
  exact (fm_w_292 _ _ (fr_rfl _ _) h (fun s1 gs1 h1 => (Exists.elim h1 (fun f3 e2 => ⟨f3, ⟨e2.1, e2.2.1, (hK _ (fr_sD (fr_tr fsb_0_20 f gs1)) e2.2.2)⟩⟩))))
theorem fm_w_294 {s0 : ST} {K K' : ST → Prop} (p0 : Nat) (s : ST) (f : Fr fs20 s0 s) (h : w_294 p0 s K) (hK : ∀ (s1 : ST), Fr fs20 s0 s1 → K s1 → K' s1) : w_294 p0 s K' := by
  unfold w_294 at h ⊢
  exact (fm_w_293 _ _ (fr_rfl _ _) h (fun s1 gs1 h1 => (Exists.elim h1 (fun f3 e2 => ⟨f3, ⟨e2.1, e2.2.1, (hK _ (fr_sD (fr_tr fsb_20_20 f gs1)) e2.2.2)⟩⟩))))
theorem fm_w_302_R21_L5 {s0 : ST} {X14 X14' : ST → Prop} {K K' : ST → Prop} (hX14 : ∀ (s1 : ST), Fr fs21 s0 s1 → X14 s1 → X14' s1) (hK : ∀ (s1 : ST), Fr fs21 s0 s1 → K s1 → K' s1) : ∀ (n : Nat) (x1 : Int32) (x2 : Int32) (x3 : Int32) (s : ST), Fr fs21 s0 s → w_302_R21_L5 n x1 x2 x3 s X14 K → w_302_R21_L5 n x1 x2 x3 s X14' K' := by
  intro n
  induction n with
  | zero => intro x1 x2 x3 s f h; exact h.elim
  | succ n ih =>
    intro x1 x2 x3 s f h
    rw [w_302_R21_L5] at h
    rw [w_302_R21_L5]
    exact ⟨(fun c1 => (hX14 _ f (h.1 c1))), (fun c2 => ⟨(h.2 c2).1, (ih _ _ _ _ (fr_sA 21 f) (h.2 c2).2)⟩)⟩
theorem fm_w_302_R21 {s0 : ST} {K K' : ST → Prop} (p1 : Int32) (s : ST) (f : Fr fs21 s0 s) (h : w_302_R21 p1 s K) (hK : ∀ (s1 : ST), Fr fs21 s0 s1 → K s1 → K' s1) : w_302_R21 p1 s K' := by
  unfold w_302_R21 at h ⊢
  exact (Exists.elim h (fun m e1 => ⟨m, (fm_w_302_R21_L5 (fun s1 gs1 h2 => (hK _ gs1 h2)) hK m _ _ _ _ f e1)⟩))
theorem fm_w_297_R20 {s0 : ST} {K K' : Int32 → ST → Prop} (s : ST) (f : Fr fs0 s0 s) (h : w_297_R20  s K) (hK : ∀ (v0 : Int32) (s1 : ST), Fr fs0 s0 s1 → K v0 s1 → K' v0 s1) : w_297_R20  s K' := by
  unfold w_297_R20 at h ⊢
  exact (hK _ _ f h)
theorem fm_w_298_R20 {s0 : ST} {K K' : Nat → ST → Prop} (p1 : Int32) (s : ST) (f : Fr fs0 s0 s) (h : w_298_R20 p1 s K) (hK : ∀ (v0 : Nat) (s1 : ST), Fr fs0 s0 s1 → K v0 s1 → K' v0 s1) : w_298_R20 p1 s K' := by
  unfold w_298_R20 at h ⊢
  exact (Or.imp (fun h1 => ⟨h1.1, h1.2⟩) (fun h2 => (Exists.elim h2 (fun b1 e3 => ⟨b1, ⟨e3.1, (Exists.elim e3.2 (fun n2 e4 => (Exists.elim e4 (fun f3 e5 => (Exists.elim e5 (fun y4 e6 => ⟨n2, f3, y4, ⟨e6.1, e6.2.1, e6.2.2.1, (hK _ _ f e6.2.2.2)⟩⟩))))))⟩⟩))) h)
theorem fm_w_299_R20 {s0 : ST} {K K' : Nat → ST → Prop} (p1 : Int32) (s : ST) (f : Fr fs0 s0 s) (h : w_299_R20 p1 s K) (hK : ∀ (v0 : Nat) (s1 : ST), Fr fs0 s0 s1 → K v0 s1 → K' v0 s1) : w_299_R20 p1 s K' := by
  unfold w_299_R20 at h ⊢
  exact (fm_w_306 _ _ _ (fr_rfl _ _) h (fun r2 s1 gs1 h1 => (fm_w_298_R20 _ _ (fr_rfl _ _) h1 (fun r4 s3 gs3 h2 => (hK _ _ (fr_tr fsb_0_0 (fr_tr fsb_0_0 f gs1) gs3) h2)))))
theorem fm_w_108 {s0 : ST} {K K' : Int32 → ST → Prop} (p0 : Nat) (p1 : Int32) (s : ST) (f : Fr fs0 s0 s) (h : w_108 p0 p1 s K) (hK : ∀ (v0 : Int32) (s1 : ST), Fr fs0 s0 s1 → K v0 s1 → K' v0 s1) : w_108 p0 p1 s K' := by
  unfold w_108 at h ⊢
  exact (Exists.elim h (fun v1 e1 => ⟨v1, ⟨e1.1, (Exists.elim e1.2 (fun v2 e2 => ⟨v2, ⟨e2.1, (fm_w_181 _ _ _ _ (fr_rfl _ _) e2.2 (fun r4 s3 gs3 h3 => (hK _ _ (fr_tr fsb_0_0 f gs3) h3)))⟩⟩))⟩⟩))
