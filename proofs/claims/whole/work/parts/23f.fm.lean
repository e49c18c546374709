/-! ===== frames, printed by wip/whole/genfm.py ===== -/
theorem fm_w_213_L0 {s0 : ST} {X10 X10' : ST → Prop} {X8 X8' : ST → Prop} {K K' : Int32 → ST → Prop} (hX10 : ∀ (s1 : ST), Fr fs80 s0 s1 → X10 s1 → X10' s1) (hX8 : ∀ (s1 : ST), Fr fs80 s0 s1 → X8 s1 → X8' s1) (hK : ∀ (v0 : Int32) (s1 : ST), Fr fs80 s0 s1 → K v0 s1 → K' v0 s1) : ∀ (n : Nat) (s : ST), Fr fs80 s0 s → w_213_L0 n  s X10 X8 K → w_213_L0 n  s X10' X8' K' := by
  intro n
  induction n with
  | zero => intro  s f h; exact h.elim
  | succ n ih =>
    intro  s f h
    rw [w_213_L0] at h
    rw [w_213_L0]
    exact (fm_w_202 _ (fr_rfl _ _) h (fun r2 s1 gs1 h1 => ⟨(fun c2 => (hX10 _ (fr_tr fsb_0_80 f gs1) (h1.1 c2))), (fun c3 => (fm_w_208 _ _ (fr_rfl _ _) (h1.2 c3) (fun r4 s3 gs3 h4 => ⟨(fun c5 => (ih _ (fr_tr fsb_78_80 (fr_tr fsb_0_80 f gs1) gs3) (h4.1 c5))), (fun c6 => (hX8 _ (fr_tr fsb_78_80 (fr_tr fsb_0_80 f gs1) gs3) (h4.2 c6)))⟩)))⟩))
theorem fm_w_213 {s0 : ST} {K K' : Int32 → ST → Prop} (s : ST) (f : Fr fs80 s0 s) (h : w_213  s K) (hK : ∀ (v0 : Int32) (s1 : ST), Fr fs80 s0 s1 → K v0 s1 → K' v0 s1) : w_213  s K' := by
  unfold w_213 at h ⊢
  exact (Exists.elim h (fun m e1 => ⟨m, (fm_w_213_L0 (fun s5 gs5 h2 => (fm_w_203 _ (fr_rfl _ _) h2 (fun r7 s6 gs6 h3 => ⟨(fun c4 => (fm_w_202 _ (fr_rfl _ _) (h3.1 c4) (fun r9 s8 gs8 h5 => (fm_w_210 _ _ (fr_rfl _ _) h5 (fun r11 s10 gs10 h6 => ⟨(fun c7 => (fm_w_207 _ _ _ (fr_rfl _ _) (h6.1 c7) (fun s12 gs12 h8 => (hK _ _ (fr_sI 5526 (fr_tr fsb_77_80 (fr_tr fsb_0_80 (fr_tr fsb_0_80 (fr_tr fsb_0_80 gs5 gs6) gs8) gs10) gs12)) h8)))), (fun c9 => (fm_w_204 _ _ _ (fr_rfl _ _) (h6.2 c9) (fun r15 s14 gs14 h10 => (hK _ _ (fr_tr fsb_74_80 (fr_tr fsb_0_80 (fr_tr fsb_0_80 (fr_tr fsb_0_80 gs5 gs6) gs8) gs10) gs14) h10))))⟩))))), (fun c11 => (fm_w_206 _ _ (fr_rfl _ _) (h3.2 c11) (fun r17 s16 gs16 h12 => ⟨(fun c13 => (fm_w_207 _ _ _ (fr_rfl _ _) (h12.1 c13) (fun s18 gs18 h14 => (hK _ _ (fr_tr fsb_77_80 (fr_tr fsb_76_80 (fr_tr fsb_0_80 gs5 gs6) gs16) gs18) h14)))), (fun c15 => (hK _ _ (fr_tr fsb_76_80 (fr_tr fsb_0_80 gs5 gs6) gs16) (h12.2 c15)))⟩)))⟩))) (fun s20 gs20 h16 => (hK _ _ gs20 h16)) hK m _ f e1)⟩))
theorem fm_w_214_L2 {s0 : ST} {X18 X18' : ST → Prop} {X14 X14' : ST → Prop} {K K' : Int32 → ST → Prop} (hX18 : ∀ (s1 : ST), Fr fs0 s0 s1 → X18 s1 → X18' s1) (hX14 : ∀ (s1 : ST), Fr fs0 s0 s1 → X14 s1 → X14' s1) (hK : ∀ (v0 : Int32) (s1 : ST), Fr fs0 s0 s1 → K v0 s1 → K' v0 s1) : ∀ (n : Nat) (x2 : Int32) (s : ST), Fr fs0 s0 s → w_214_L2 n x2 s X18 X14 K → w_214_L2 n x2 s X18' X14' K' := by
  intro n
  induction n with
  | zero => intro x2 s f h; exact h.elim
  | succ n ih =>
    intro x2 s f h
    rw [w_214_L2] at h
    rw [w_214_L2]
    exact ⟨(fun c1 => (hX18 _ f (h.1 c1))), (fun c2 => ⟨(h.2 c2).1, ⟨(h.2 c2).2.1, ⟨(fun c3 => (ih _ _ f ((h.2 c2).2.2.1 c3))), (fun c4 => (hX14 _ f ((h.2 c2).2.2.2 c4)))⟩⟩⟩)⟩
theorem fm_w_214 {s0 : ST} {K K' : Int32 → ST → Prop} (p1 : Int32) (s : ST) (f : Fr fs0 s0 s) (h : w_214 p1 s K) (hK : ∀ (v0 : Int32) (s1 : ST), Fr fs0 s0 s1 → K v0 s1 → K' v0 s1) : w_214 p1 s K' := by
  unfold w_214 at h ⊢
  exact (Exists.elim h (fun m e1 => ⟨m, (fm_w_214_L2 (fun s1 gs1 h2 => (hK _ _ gs1 h2)) (fun s2 gs2 h3 => (hK _ _ gs2 h3)) hK m _ _ f e1)⟩))
theorem fm_w_215_L8 {s0 : ST} {X78 X78' : Int32 → ST → Prop} {X46 X46' : ST → Prop} {K K' : Int32 → ST → Prop} (hX78 : ∀ (v0 : Int32) (s1 : ST), Fr fs80 s0 s1 → X78 v0 s1 → X78' v0 s1) (hX46 : ∀ (s1 : ST), Fr fs80 s0 s1 → X46 s1 → X46' s1) (hK : ∀ (v0 : Int32) (s1 : ST), Fr fs80 s0 s1 → K v0 s1 → K' v0 s1) : ∀ (n : Nat) (x1 : Int32) (s : ST), Fr fs80 s0 s → w_215_L8 n x1 s X78 X46 K → w_215_L8 n x1 s X78' X46' K' := by
  intro n
  induction n with
  | zero => intro x1 s f h; exact h.elim
  | succ n ih =>
    intro x1 s f h
    rw [w_215_L8] at h
    rw [w_215_L8]
    exact (fm_w_202 _ (fr_rfl _ _) h (fun r4 s3 gs3 h1 => (fm_w_211 _ _ (fr_rfl _ _) h1 (fun r6 s5 gs5 h2 => ⟨(fun c3 => (fm_w_202 _ (fr_rfl _ _) (h2.1 c3) (fun r8 s7 gs7 h4 => ⟨(fun c5 => (hX78 _ _ (fr_tr fsb_0_80 (fr_tr fsb_0_80 (fr_tr fsb_0_80 f gs3) gs5) gs7) (h4.1 c5))), (fun c6 => (fm_w_214 _ _ (fr_rfl _ _) (h4.2 c6) (fun r10 s9 gs9 h7 => ⟨(fun c8 => (hX78 _ _ (fr_tr fsb_0_80 (fr_tr fsb_0_80 (fr_tr fsb_0_80 (fr_tr fsb_0_80 f gs3) gs5) gs7) gs9) (h7.1 c8))), (fun c9 => (fm_w_212 _ _ (fr_rfl _ _) (h7.2 c9) (fun s11 gs11 h10 => (ih _ _ (fr_sI 5526 (fr_sI 5529 (fr_sI 5531 (fr_tr fsb_79_80 (fr_tr fsb_0_80 (fr_tr fsb_0_80 (fr_tr fsb_0_80 (fr_tr fsb_0_80 f gs3) gs5) gs7) gs9) gs11)))) h10))))⟩)))⟩))), (fun c11 => ⟨(fun c12 => (fm_w_212 _ _ (fr_rfl _ _) ((h2.2 c11).1 c12) (fun s13 gs13 h13 => ⟨h13.1, (fm_w_213 _ (fr_rfl _ _) h13.2 (fun r16 s15 gs15 h14 => ⟨(fun c15 => (ih _ _ (fr_tr fsb_80_80 (fr_sA 77 (fr_sI 5526 (fr_sI 5531 (fr_tr fsb_79_80 (fr_tr fsb_0_80 (fr_tr fsb_0_80 f gs3) gs5) gs13)))) gs15) (h14.1 c15))), (fun c16 => (hX46 _ (fr_tr fsb_80_80 (fr_sA 77 (fr_sI 5526 (fr_sI 5531 (fr_tr fsb_79_80 (fr_tr fsb_0_80 (fr_tr fsb_0_80 f gs3) gs5) gs13)))) gs15) (h14.2 c16)))⟩))⟩))), (fun c17 => (fm_w_212 _ _ (fr_rfl _ _) ((h2.2 c11).2 c17) (fun s17 gs17 h18 => ⟨h18.1, (fm_w_213 _ (fr_rfl _ _) h18.2 (fun r20 s19 gs19 h19 => ⟨(fun c20 => (ih _ _ (fr_tr fsb_80_80 (fr_sA 77 (fr_sI 5526 (fr_sI 5531 (fr_tr fsb_79_80 (fr_tr fsb_0_80 (fr_tr fsb_0_80 f gs3) gs5) gs17)))) gs19) (h19.1 c20))), (fun c21 => (hX46 _ (fr_tr fsb_80_80 (fr_sA 77 (fr_sI 5526 (fr_sI 5531 (fr_tr fsb_79_80 (fr_tr fsb_0_80 (fr_tr fsb_0_80 f gs3) gs5) gs17)))) gs19) (h19.2 c21)))⟩))⟩)))⟩)⟩))))
theorem fm_w_215 {s0 : ST} {K K' : Int32 → ST → Prop} (s : ST) (f : Fr fs80 s0 s) (h : w_215  s K) (hK : ∀ (v0 : Int32) (s1 : ST), Fr fs80 s0 s1 → K v0 s1 → K' v0 s1) : w_215  s K' := by
  unfold w_215 at h ⊢
  exact (fm_w_213 _ (fr_rfl _ _) h (fun r2 s1 gs1 h1 => ⟨(fun c2 => (Exists.elim (h1.1 c2) (fun m e3 => ⟨m, (fm_w_215_L8 (fun y1 s21 gs21 h4 => (fm_w_214 _ _ (fr_rfl _ _) h4 (fun r23 s22 gs22 h5 => ⟨(fun c6 => (fm_w_212 _ _ (fr_rfl _ _) (h5.1 c6) (fun s24 gs24 h7 => (hK _ _ (fr_tr fsb_79_80 (fr_tr fsb_0_80 gs21 gs22) gs24) h7)))), (fun c8 => (fm_w_204 _ _ _ (fr_rfl _ _) (h5.2 c8) (fun r27 s26 gs26 h9 => (hK _ _ (fr_tr fsb_74_80 (fr_tr fsb_0_80 gs21 gs22) gs26) h9))))⟩))) (fun s28 gs28 h10 => (hK _ _ gs28 h10)) hK m _ _ (fr_tr fsb_80_80 f gs1) e3)⟩))), (fun c11 => (hK _ _ (fr_tr fsb_80_80 f gs1) (h1.2 c11)))⟩))
theorem fm_w_216_L0 {s0 : ST} {X21 X21' : ST → Prop} {K K' : ST → Prop} (hX21 : ∀ (s1 : ST), Fr fs81 s0 s1 → X21 s1 → X21' s1) (hK : ∀ (s1 : ST), Fr fs81 s0 s1 → K s1 → K' s1) : ∀ (n : Nat) (s : ST), Fr fs81 s0 s → w_216_L0 n  s X21 K → w_216_L0 n  s X21' K' := by
  intro n
  induction n with
  | zero => intro  s f h; exact h.elim
  | succ n ih =>
    intro  s f h
    rw [w_216_L0] at h
    rw [w_216_L0]
    exact (fm_w_209 _ (fr_rfl _ _) h (fun r2 s1 gs1 h1 => ⟨(fun c2 => (hX21 _ (fr_tr fsb_0_81 f gs1) (h1.1 c2))), (fun c3 => (fm_w_207 _ _ _ (fr_rfl _ _) (h1.2 c3) (fun s3 gs3 h4 => (ih _ (fr_sI 5529 (fr_sI 5531 (fr_tr fsb_77_81 (fr_tr fsb_0_81 f gs1) gs3))) h4))))⟩))
theorem fm_w_216 {s0 : ST} {K K' : ST → Prop} (s : ST) (f : Fr fs81 s0 s) (h : w_216  s K) (hK : ∀ (s1 : ST), Fr fs81 s0 s1 → K s1 → K' s1) : w_216  s K' := by
  unfold w_216 at h ⊢
  exact (Exists.elim h (fun m e1 => ⟨m, (fm_w_216_L0 (fun s5 gs5 h2 => (hK _ gs5 h2)) hK m _ f e1)⟩))
theorem fm_w_217_L0 {s0 : ST} {X42 X42' : ST → Prop} {K K' : ST → Prop} (hX42 : ∀ (s1 : ST), Fr fs82 s0 s1 → X42 s1 → X42' s1) (hK : ∀ (s1 : ST), Fr fs82 s0 s1 → K s1 → K' s1) : ∀ (n : Nat) (x1 : Int32) (s : ST), Fr fs82 s0 s → w_217_L0 n x1 s X42 K → w_217_L0 n x1 s X42' K' := by
  intro n
  induction n with
  | zero => intro x1 s f h; exact h.elim
  | succ n ih =>
    intro x1 s f h
    rw [w_217_L0] at h
    rw [w_217_L0]
    exact (fm_w_209 _ (fr_rfl _ _) h (fun r2 s1 gs1 h1 => ⟨(fun c2 => ⟨(h1.1 c2).1, ⟨(h1.1 c2).2.1, ⟨(h1.1 c2).2.2.1, ⟨(h1.1 c2).2.2.2.1, ⟨(h1.1 c2).2.2.2.2.1, (ih _ _ (fr_sA 76 (fr_sI 5531 (fr_tr fsb_0_82 f gs1))) (h1.1 c2).2.2.2.2.2)⟩⟩⟩⟩⟩), (fun c3 => ⟨(fun c4 => (hX42 _ (fr_tr fsb_0_82 f gs1) ((h1.2 c3).1 c4))), (fun c5 => (fm_w_209 _ (fr_rfl _ _) ((h1.2 c3).2 c5) (fun r4 s3 gs3 h6 => ⟨(fun c7 => (hX42 _ (fr_tr fsb_0_82 (fr_tr fsb_0_82 f gs1) gs3) (h6.1 c7))), (fun c8 => ⟨(h6.2 c8).1, ⟨(h6.2 c8).2.1, ⟨(h6.2 c8).2.2.1, ⟨(h6.2 c8).2.2.2.1, ⟨(h6.2 c8).2.2.2.2.1, (ih _ _ (fr_sA 76 (fr_sI 5531 (fr_tr fsb_0_82 (fr_tr fsb_0_82 f gs1) gs3))) (h6.2 c8).2.2.2.2.2)⟩⟩⟩⟩⟩)⟩)))⟩)⟩))
theorem fm_w_217 {s0 : ST} {K K' : ST → Prop} (p1 : Int32) (s : ST) (f : Fr fs82 s0 s) (h : w_217 p1 s K) (hK : ∀ (s1 : ST), Fr fs82 s0 s1 → K s1 → K' s1) : w_217 p1 s K' := by
  unfold w_217 at h ⊢
  exact (Exists.elim h (fun m e1 => ⟨m, (fm_w_217_L0 (fun s5 gs5 h2 => (hK _ gs5 h2)) hK m _ _ f e1)⟩))
theorem fm_w_218 {s0 : ST} {K K' : ST → Prop} (p1 : Int32) (s : ST) (f : Fr fs83 s0 s) (h : w_218 p1 s K) (hK : ∀ (s1 : ST), Fr fs83 s0 s1 → K s1 → K' s1) : w_218 p1 s K' := by
  unfold w_218 at h ⊢
  exact ⟨h.1, (fm_w_207 _ _ _ (fr_rfl _ _) h.2 (fun s1 gs1 h1 => (hK _ (fr_sI 5526 (fr_tr fsb_77_83 (fr_sA 77 (fr_sI 5531 f)) gs1)) h1)))⟩
theorem fm_w_219 {s0 : ST} {K K' : Int32 → ST → Prop} (s : ST) (f : Fr fs80 s0 s) (h : w_219  s K) (hK : ∀ (v0 : Int32) (s1 : ST), Fr fs80 s0 s1 → K v0 s1 → K' v0 s1) : w_219  s K' := by
  unfold w_219 at h ⊢
  exact (fm_w_215 _ (fr_rfl _ _) h (fun r2 s1 gs1 h1 => ⟨(fun c2 => (fm_w_202 _ (fr_rfl _ _) (h1.1 c2) (fun r4 s3 gs3 h3 => ⟨(fun c4 => (fm_w_202 _ (fr_rfl _ _) (h3.1 c4) (fun r6 s5 gs5 h5 => ⟨(fun c6 => (fm_w_202 _ (fr_rfl _ _) (h5.1 c6) (fun r8 s7 gs7 h7 => ⟨(fun c8 => ⟨(fun c9 => (fm_w_215 _ (fr_rfl _ _) ((h7.1 c8).1 c9) (fun r10 s9 gs9 h10 => ⟨(fun c11 => (fm_w_207 _ _ _ (fr_rfl _ _) (h10.1 c11) (fun s11 gs11 h12 => (fm_w_216 _ (fr_rfl _ _) h12 (fun s13 gs13 h13 => (hK _ _ (fr_tr fsb_81_80 (fr_tr fsb_77_80 (fr_tr fsb_80_80 (fr_sI 5526 (fr_tr fsb_0_80 (fr_tr fsb_0_80 (fr_tr fsb_0_80 (fr_tr fsb_80_80 f gs1) gs3) gs5) gs7)) gs9) gs11) gs13) h13)))))), (fun c14 => (hK _ _ (fr_tr fsb_80_80 (fr_sI 5526 (fr_tr fsb_0_80 (fr_tr fsb_0_80 (fr_tr fsb_0_80 (fr_tr fsb_80_80 f gs1) gs3) gs5) gs7)) gs9) (h10.2 c14)))⟩))), (fun c15 => (fm_w_204 _ _ _ (fr_rfl _ _) ((h7.1 c8).2 c15) (fun r16 s15 gs15 h16 => (hK _ _ (fr_tr fsb_74_80 (fr_tr fsb_0_80 (fr_tr fsb_0_80 (fr_tr fsb_0_80 (fr_tr fsb_80_80 f gs1) gs3) gs5) gs7) gs15) h16))))⟩), (fun c17 => ⟨(fun c18 => (fm_w_215 _ (fr_rfl _ _) ((h7.2 c17).1 c18) (fun r18 s17 gs17 h19 => ⟨(fun c20 => (fm_w_207 _ _ _ (fr_rfl _ _) (h19.1 c20) (fun s19 gs19 h21 => (fm_w_216 _ (fr_rfl _ _) h21 (fun s21 gs21 h22 => (hK _ _ (fr_tr fsb_81_80 (fr_tr fsb_77_80 (fr_tr fsb_80_80 (fr_sI 5526 (fr_tr fsb_0_80 (fr_tr fsb_0_80 (fr_tr fsb_0_80 (fr_tr fsb_80_80 f gs1) gs3) gs5) gs7)) gs17) gs19) gs21) h22)))))), (fun c23 => (hK _ _ (fr_tr fsb_80_80 (fr_sI 5526 (fr_tr fsb_0_80 (fr_tr fsb_0_80 (fr_tr fsb_0_80 (fr_tr fsb_80_80 f gs1) gs3) gs5) gs7)) gs17) (h19.2 c23)))⟩))), (fun c24 => (fm_w_204 _ _ _ (fr_rfl _ _) ((h7.2 c17).2 c24) (fun r24 s23 gs23 h25 => (hK _ _ (fr_tr fsb_74_80 (fr_tr fsb_0_80 (fr_tr fsb_0_80 (fr_tr fsb_0_80 (fr_tr fsb_80_80 f gs1) gs3) gs5) gs7) gs23) h25))))⟩)⟩))), (fun c26 => ⟨(fun c27 => (fm_w_215 _ (fr_rfl _ _) ((h5.2 c26).1 c27) (fun r26 s25 gs25 h28 => ⟨(fun c29 => (fm_w_207 _ _ _ (fr_rfl _ _) (h28.1 c29) (fun s27 gs27 h30 => (fm_w_216 _ (fr_rfl _ _) h30 (fun s29 gs29 h31 => (hK _ _ (fr_tr fsb_81_80 (fr_tr fsb_77_80 (fr_tr fsb_80_80 (fr_sI 5526 (fr_tr fsb_0_80 (fr_tr fsb_0_80 (fr_tr fsb_80_80 f gs1) gs3) gs5)) gs25) gs27) gs29) h31)))))), (fun c32 => (hK _ _ (fr_tr fsb_80_80 (fr_sI 5526 (fr_tr fsb_0_80 (fr_tr fsb_0_80 (fr_tr fsb_80_80 f gs1) gs3) gs5)) gs25) (h28.2 c32)))⟩))), (fun c33 => (fm_w_204 _ _ _ (fr_rfl _ _) ((h5.2 c26).2 c33) (fun r32 s31 gs31 h34 => (hK _ _ (fr_tr fsb_74_80 (fr_tr fsb_0_80 (fr_tr fsb_0_80 (fr_tr fsb_80_80 f gs1) gs3) gs5) gs31) h34))))⟩)⟩))), (fun c35 => ⟨(fun c36 => (fm_w_215 _ (fr_rfl _ _) ((h3.2 c35).1 c36) (fun r34 s33 gs33 h37 => ⟨(fun c38 => (fm_w_207 _ _ _ (fr_rfl _ _) (h37.1 c38) (fun s35 gs35 h39 => (fm_w_216 _ (fr_rfl _ _) h39 (fun s37 gs37 h40 => (hK _ _ (fr_tr fsb_81_80 (fr_tr fsb_77_80 (fr_tr fsb_80_80 (fr_sI 5526 (fr_tr fsb_0_80 (fr_tr fsb_80_80 f gs1) gs3)) gs33) gs35) gs37) h40)))))), (fun c41 => (hK _ _ (fr_tr fsb_80_80 (fr_sI 5526 (fr_tr fsb_0_80 (fr_tr fsb_80_80 f gs1) gs3)) gs33) (h37.2 c41)))⟩))), (fun c42 => (fm_w_204 _ _ _ (fr_rfl _ _) ((h3.2 c35).2 c42) (fun r40 s39 gs39 h43 => (hK _ _ (fr_tr fsb_74_80 (fr_tr fsb_0_80 (fr_tr fsb_80_80 f gs1) gs3) gs39) h43))))⟩)⟩))), (fun c44 => (hK _ _ (fr_tr fsb_80_80 f gs1) (h1.2 c44)))⟩))
theorem fm_w_220_L47 {s0 : ST} {X80 X80' : ST → Prop} {X75 X75' : ST → Prop} {K K' : Int32 → ST → Prop} (hX80 : ∀ (s1 : ST), Fr fs80 s0 s1 → X80 s1 → X80' s1) (hX75 : ∀ (s1 : ST), Fr fs80 s0 s1 → X75 s1 → X75' s1) (hK : ∀ (v0 : Int32) (s1 : ST), Fr fs80 s0 s1 → K v0 s1 → K' v0 s1) : ∀ (n : Nat) (s : ST), Fr fs80 s0 s → w_220_L47 n  s X80 X75 K → w_220_L47 n  s X80' X75' K' := by
  intro n
  induction n with
  | zero => intro  s f h; exact h.elim
  | succ n ih =>
    intro  s f h
    rw [w_220_L47] at h
    rw [w_220_L47]
    exact (fm_w_202 _ (fr_rfl _ _) h (fun r18 s17 gs17 h1 => ⟨(fun c2 => (hX80 _ (fr_tr fsb_0_80 f gs17) (h1.1 c2))), (fun c3 => (fm_w_217 _ _ (fr_rfl _ _) (h1.2 c3) (fun s19 gs19 h4 => ⟨(fun c5 => (fm_w_216 _ (fr_rfl _ _) (h4.1 c5) (fun s21 gs21 h6 => (ih _ (fr_tr fsb_81_80 (fr_sI 5526 (fr_sI 5529 (fr_sI 5531 (fr_tr fsb_82_80 (fr_tr fsb_0_80 f gs17) gs19)))) gs21) h6)))), (fun c7 => (hX75 _ (fr_sI 5526 (fr_sI 5529 (fr_sI 5531 (fr_tr fsb_82_80 (fr_tr fsb_0_80 f gs17) gs19)))) (h4.2 c7)))⟩)))⟩))
theorem fm_w_220_L22 {s0 : ST} {X40 X40' : ST → Prop} {X88 X88' : ST → Prop} {X75 X75' : ST → Prop} {X45 X45' : ST → Prop} {K K' : Int32 → ST → Prop} (hX40 : ∀ (s1 : ST), Fr fs80 s0 s1 → X40 s1 → X40' s1) (hX88 : ∀ (s1 : ST), Fr fs80 s0 s1 → X88 s1 → X88' s1) (hX75 : ∀ (s1 : ST), Fr fs80 s0 s1 → X75 s1 → X75' s1) (hX45 : ∀ (s1 : ST), Fr fs80 s0 s1 → X45 s1 → X45' s1) (hK : ∀ (v0 : Int32) (s1 : ST), Fr fs80 s0 s1 → K v0 s1 → K' v0 s1) : ∀ (n : Nat) (s : ST), Fr fs80 s0 s → w_220_L22 n  s X40 X88 X75 X45 K → w_220_L22 n  s X40' X88' X75' X45' K' := by
  intro n
  induction n with
  | zero => intro  s f h; exact h.elim
  | succ n ih =>
    intro  s f h
    rw [w_220_L22] at h
    rw [w_220_L22]
    exact (fm_w_202 _ (fr_rfl _ _) h (fun r6 s5 gs5 h1 => ⟨(fun c2 => (fm_w_202 _ (fr_rfl _ _) (h1.1 c2) (fun r8 s7 gs7 h3 => ⟨(fun c4 => (fm_w_208 _ _ (fr_rfl _ _) (h3.1 c4) (fun r10 s9 gs9 h5 => ⟨(fun c6 => (ih _ (fr_tr fsb_78_80 (fr_tr fsb_0_80 (fr_tr fsb_0_80 f gs5) gs7) gs9) (h5.1 c6))), (fun c7 => (hX40 _ (fr_tr fsb_78_80 (fr_tr fsb_0_80 (fr_tr fsb_0_80 f gs5) gs7) gs9) (h5.2 c7)))⟩))), (fun c8 => (fm_w_208 _ _ (fr_rfl _ _) (h3.2 c8) (fun r12 s11 gs11 h9 => ⟨(fun c10 => (ih _ (fr_tr fsb_78_80 (fr_tr fsb_0_80 (fr_tr fsb_0_80 f gs5) gs7) gs11) (h9.1 c10))), (fun c11 => (hX40 _ (fr_tr fsb_78_80 (fr_tr fsb_0_80 (fr_tr fsb_0_80 f gs5) gs7) gs11) (h9.2 c11)))⟩)))⟩))), (fun c12 => (fm_w_202 _ (fr_rfl _ _) (h1.2 c12) (fun r14 s13 gs13 h13 => ⟨(fun c14 => (fm_w_219 _ (fr_rfl _ _) (h13.1 c14) (fun r16 s15 gs15 h15 => ⟨(fun c16 => (Exists.elim (h15.1 c16) (fun m e17 => ⟨m, (fm_w_220_L47 (fun s17 gs17 h18 => (fm_w_202 _ (fr_rfl _ _) h18 (fun r19 s18 gs18 h19 => ⟨(fun c20 => (fm_w_202 _ (fr_rfl _ _) (h19.1 c20) (fun r21 s20 gs20 h21 => ⟨(fun c22 => (fm_w_217 _ _ (fr_rfl _ _) (h21.1 c22) (fun s22 gs22 h23 => (fm_w_202 _ (fr_rfl _ _) h23 (fun r25 s24 gs24 h24 => ⟨(fun c25 => (fm_w_218 _ _ (fr_rfl _ _) (h24.1 c25) (fun s26 gs26 h26 => (ih _ (fr_tr fsb_83_80 (fr_tr fsb_0_80 (fr_tr fsb_82_80 (fr_tr fsb_0_80 (fr_tr fsb_0_80 gs17 gs18) gs20) gs22) gs24) gs26) h26)))), (fun c27 => (fm_w_218 _ _ (fr_rfl _ _) (h24.2 c27) (fun s28 gs28 h28 => (ih _ (fr_tr fsb_83_80 (fr_tr fsb_0_80 (fr_tr fsb_82_80 (fr_tr fsb_0_80 (fr_tr fsb_0_80 gs17 gs18) gs20) gs22) gs24) gs28) h28))))⟩))))), (fun c29 => (fm_w_217 _ _ (fr_rfl _ _) (h21.2 c29) (fun s30 gs30 h30 => (fm_w_202 _ (fr_rfl _ _) h30 (fun r33 s32 gs32 h31 => ⟨(fun c32 => (fm_w_218 _ _ (fr_rfl _ _) (h31.1 c32) (fun s34 gs34 h33 => (ih _ (fr_tr fsb_83_80 (fr_tr fsb_0_80 (fr_tr fsb_82_80 (fr_tr fsb_0_80 (fr_tr fsb_0_80 gs17 gs18) gs20) gs30) gs32) gs34) h33)))), (fun c34 => (fm_w_218 _ _ (fr_rfl _ _) (h31.2 c34) (fun s36 gs36 h35 => (ih _ (fr_tr fsb_83_80 (fr_tr fsb_0_80 (fr_tr fsb_82_80 (fr_tr fsb_0_80 (fr_tr fsb_0_80 gs17 gs18) gs20) gs30) gs32) gs36) h35))))⟩)))))⟩))), (fun c36 => (fm_w_202 _ (fr_rfl _ _) (h19.2 c36) (fun r39 s38 gs38 h37 => ⟨(fun c38 => (fm_w_202 _ (fr_rfl _ _) (h37.1 c38) (fun r41 s40 gs40 h39 => ⟨(fun c40 => (fm_w_217 _ _ (fr_rfl _ _) (h39.1 c40) (fun s42 gs42 h41 => (fm_w_202 _ (fr_rfl _ _) h41 (fun r45 s44 gs44 h42 => ⟨(fun c43 => (fm_w_218 _ _ (fr_rfl _ _) (h42.1 c43) (fun s46 gs46 h44 => (ih _ (fr_tr fsb_83_80 (fr_tr fsb_0_80 (fr_tr fsb_82_80 (fr_tr fsb_0_80 (fr_tr fsb_0_80 (fr_tr fsb_0_80 gs17 gs18) gs38) gs40) gs42) gs44) gs46) h44)))), (fun c45 => (fm_w_218 _ _ (fr_rfl _ _) (h42.2 c45) (fun s48 gs48 h46 => (ih _ (fr_tr fsb_83_80 (fr_tr fsb_0_80 (fr_tr fsb_82_80 (fr_tr fsb_0_80 (fr_tr fsb_0_80 (fr_tr fsb_0_80 gs17 gs18) gs38) gs40) gs42) gs44) gs48) h46))))⟩))))), (fun c47 => (fm_w_217 _ _ (fr_rfl _ _) (h39.2 c47) (fun s50 gs50 h48 => (fm_w_202 _ (fr_rfl _ _) h48 (fun r53 s52 gs52 h49 => ⟨(fun c50 => (fm_w_218 _ _ (fr_rfl _ _) (h49.1 c50) (fun s54 gs54 h51 => (ih _ (fr_tr fsb_83_80 (fr_tr fsb_0_80 (fr_tr fsb_82_80 (fr_tr fsb_0_80 (fr_tr fsb_0_80 (fr_tr fsb_0_80 gs17 gs18) gs38) gs40) gs50) gs52) gs54) h51)))), (fun c52 => (fm_w_218 _ _ (fr_rfl _ _) (h49.2 c52) (fun s56 gs56 h53 => (ih _ (fr_tr fsb_83_80 (fr_tr fsb_0_80 (fr_tr fsb_82_80 (fr_tr fsb_0_80 (fr_tr fsb_0_80 (fr_tr fsb_0_80 gs17 gs18) gs38) gs40) gs50) gs52) gs56) h53))))⟩)))))⟩))), (fun c54 => (hX88 _ (fr_tr fsb_0_80 (fr_tr fsb_0_80 gs17 gs18) gs38) (h37.2 c54)))⟩)))⟩))) (fun s58 gs58 h55 => (hX75 _ gs58 h55)) hK m _ (fr_tr fsb_80_80 (fr_tr fsb_0_80 (fr_tr fsb_0_80 f gs5) gs13) gs15) e17)⟩))), (fun c56 => (hX45 _ (fr_tr fsb_80_80 (fr_tr fsb_0_80 (fr_tr fsb_0_80 f gs5) gs13) gs15) (h15.2 c56)))⟩))), (fun c57 => (fm_w_202 _ (fr_rfl _ _) (h13.2 c57) (fun r60 s59 gs59 h58 => ⟨(fun c59 => (fm_w_208 _ _ (fr_rfl _ _) (h58.1 c59) (fun r62 s61 gs61 h60 => ⟨(fun c61 => (ih _ (fr_tr fsb_78_80 (fr_tr fsb_0_80 (fr_tr fsb_0_80 (fr_tr fsb_0_80 f gs5) gs13) gs59) gs61) (h60.1 c61))), (fun c62 => (hX40 _ (fr_tr fsb_78_80 (fr_tr fsb_0_80 (fr_tr fsb_0_80 (fr_tr fsb_0_80 f gs5) gs13) gs59) gs61) (h60.2 c62)))⟩))), (fun c63 => (fm_w_208 _ _ (fr_rfl _ _) (h58.2 c63) (fun r64 s63 gs63 h64 => ⟨(fun c65 => (ih _ (fr_tr fsb_78_80 (fr_tr fsb_0_80 (fr_tr fsb_0_80 (fr_tr fsb_0_80 f gs5) gs13) gs59) gs63) (h64.1 c65))), (fun c66 => (hX40 _ (fr_tr fsb_78_80 (fr_tr fsb_0_80 (fr_tr fsb_0_80 (fr_tr fsb_0_80 f gs5) gs13) gs59) gs63) (h64.2 c66)))⟩)))⟩)))⟩)))⟩))
theorem fm_w_220 {s0 : ST} {K K' : Int32 → ST → Prop} (s : ST) (f : Fr fs80 s0 s) (h : w_220  s K) (hK : ∀ (v0 : Int32) (s1 : ST), Fr fs80 s0 s1 → K v0 s1 → K' v0 s1) : w_220  s K' := by
  unfold w_220 at h ⊢
  exact (fm_w_202 _ (fr_rfl _ _) h (fun r2 s1 gs1 h1 => ⟨(fun c2 => (fm_w_208 _ _ (fr_rfl _ _) (h1.1 c2) (fun r4 s3 gs3 h3 => ⟨(fun c4 => (Exists.elim (h3.1 c4) (fun m e5 => ⟨m, (fm_w_220_L22 (fun s65 gs65 h6 => (hK _ _ gs65 h6)) (fun s66 gs66 h7 => (fm_w_204 _ _ _ (fr_rfl _ _) h7 (fun r68 s67 gs67 h8 => (hK _ _ (fr_tr fsb_74_80 gs66 gs67) h8)))) (fun s69 gs69 h9 => (hK _ _ gs69 h9)) (fun s70 gs70 h10 => (hK _ _ gs70 h10)) hK m _ (fr_tr fsb_78_80 (fr_sI 5531 (fr_sI 5529 (fr_tr fsb_0_80 f gs1))) gs3) e5)⟩))), (fun c11 => (hK _ _ (fr_tr fsb_78_80 (fr_sI 5531 (fr_sI 5529 (fr_tr fsb_0_80 f gs1))) gs3) (h3.2 c11)))⟩))), (fun c12 => (fm_w_204 _ _ _ (fr_rfl _ _) (h1.2 c12) (fun r72 s71 gs71 h13 => (hK _ _ (fr_tr fsb_74_80 (fr_tr fsb_0_80 f gs1) gs71) h13))))⟩))
theorem fm_w_221 {s0 : ST} {K K' : Int32 → ST → Prop} (s : ST) (f : Fr fs84 s0 s) (h : w_221  s K) (hK : ∀ (v0 : Int32) (s1 : ST), Fr fs84 s0 s1 → K v0 s1 → K' v0 s1) : w_221  s K' := by
  unfold w_221 at h ⊢
  exact (fm_w_202 _ (fr_rfl _ _) h (fun r2 s1 gs1 h1 => ⟨(fun c2 => ⟨(fun c3 => ⟨((h1.1 c2).1 c3).1, ⟨((h1.1 c2).1 c3).2.1, ⟨((h1.1 c2).1 c3).2.2.1, ⟨((h1.1 c2).1 c3).2.2.2.1, ⟨(fun c4 => (fm_w_220 _ (fr_rfl _ _) (((h1.1 c2).1 c3).2.2.2.2.1 c4) (fun r4 s3 gs3 h5 => ⟨(fun c6 => ⟨(h5.1 c6).1, (hK _ _ (fr_sA 80 (fr_sI 5532 (fr_tr fsb_80_84 (fr_sA 79 (fr_sA 82 (fr_sA 81 (fr_sA 78 (fr_sI 5526 (fr_tr fsb_0_84 f gs1)))))) gs3))) (h5.1 c6).2)⟩), (fun c7 => (hK _ _ (fr_tr fsb_80_84 (fr_sA 79 (fr_sA 82 (fr_sA 81 (fr_sA 78 (fr_sI 5526 (fr_tr fsb_0_84 f gs1)))))) gs3) (h5.2 c7)))⟩))), (fun c8 => (fm_w_206 _ _ (fr_rfl _ _) (((h1.1 c2).1 c3).2.2.2.2.2 c8) (fun r6 s5 gs5 h9 => ⟨(fun c10 => ⟨(h9.1 c10).1, (fm_w_205 _ _ (fr_rfl _ _) (h9.1 c10).2 (fun r8 s7 gs7 h11 => ⟨(fun c12 => (hK _ _ (fr_tr fsb_75_84 (fr_sA 81 (fr_tr fsb_76_84 (fr_sA 79 (fr_sA 82 (fr_sA 81 (fr_sA 78 (fr_sI 5526 (fr_tr fsb_0_84 f gs1)))))) gs5)) gs7) (h11.1 c12))), (fun c13 => (fm_w_206 _ _ (fr_rfl _ _) (h11.2 c13) (fun r10 s9 gs9 h14 => ⟨(fun c15 => ⟨(h14.1 c15).1, ⟨(h14.1 c15).2.1, (hK _ _ (fr_sA 80 (fr_sA 82 (fr_sI 5532 (fr_tr fsb_76_84 (fr_tr fsb_75_84 (fr_sA 81 (fr_tr fsb_76_84 (fr_sA 79 (fr_sA 82 (fr_sA 81 (fr_sA 78 (fr_sI 5526 (fr_tr fsb_0_84 f gs1)))))) gs5)) gs7) gs9)))) (h14.1 c15).2.2)⟩⟩), (fun c16 => (hK _ _ (fr_tr fsb_76_84 (fr_tr fsb_75_84 (fr_sA 81 (fr_tr fsb_76_84 (fr_sA 79 (fr_sA 82 (fr_sA 81 (fr_sA 78 (fr_sI 5526 (fr_tr fsb_0_84 f gs1)))))) gs5)) gs7) gs9) (h14.2 c16)))⟩)))⟩))⟩), (fun c17 => (hK _ _ (fr_tr fsb_76_84 (fr_sA 79 (fr_sA 82 (fr_sA 81 (fr_sA 78 (fr_sI 5526 (fr_tr fsb_0_84 f gs1)))))) gs5) (h9.2 c17)))⟩)))⟩⟩⟩⟩⟩), (fun c18 => (fm_w_204 _ _ _ (fr_rfl _ _) ((h1.1 c2).2 c18) (fun r12 s11 gs11 h19 => (hK _ _ (fr_tr fsb_74_84 (fr_tr fsb_0_84 f gs1) gs11) h19))))⟩), (fun c20 => ⟨(fun c21 => ⟨(fun c22 => ⟨(((h1.2 c20).1 c21).1 c22).1, ⟨(((h1.2 c20).1 c21).1 c22).2.1, ⟨(((h1.2 c20).1 c21).1 c22).2.2.1, ⟨(((h1.2 c20).1 c21).1 c22).2.2.2.1, ⟨(fun c23 => (fm_w_220 _ (fr_rfl _ _) ((((h1.2 c20).1 c21).1 c22).2.2.2.2.1 c23) (fun r14 s13 gs13 h24 => ⟨(fun c25 => ⟨(h24.1 c25).1, (hK _ _ (fr_sA 80 (fr_sI 5532 (fr_tr fsb_80_84 (fr_sA 79 (fr_sA 82 (fr_sA 81 (fr_sA 78 (fr_sI 5526 (fr_tr fsb_0_84 f gs1)))))) gs13))) (h24.1 c25).2)⟩), (fun c26 => (hK _ _ (fr_tr fsb_80_84 (fr_sA 79 (fr_sA 82 (fr_sA 81 (fr_sA 78 (fr_sI 5526 (fr_tr fsb_0_84 f gs1)))))) gs13) (h24.2 c26)))⟩))), (fun c27 => (fm_w_206 _ _ (fr_rfl _ _) ((((h1.2 c20).1 c21).1 c22).2.2.2.2.2 c27) (fun r16 s15 gs15 h28 => ⟨(fun c29 => ⟨(h28.1 c29).1, (fm_w_205 _ _ (fr_rfl _ _) (h28.1 c29).2 (fun r18 s17 gs17 h30 => ⟨(fun c31 => (hK _ _ (fr_tr fsb_75_84 (fr_sA 81 (fr_tr fsb_76_84 (fr_sA 79 (fr_sA 82 (fr_sA 81 (fr_sA 78 (fr_sI 5526 (fr_tr fsb_0_84 f gs1)))))) gs15)) gs17) (h30.1 c31))), (fun c32 => (fm_w_206 _ _ (fr_rfl _ _) (h30.2 c32) (fun r20 s19 gs19 h33 => ⟨(fun c34 => ⟨(h33.1 c34).1, ⟨(h33.1 c34).2.1, (hK _ _ (fr_sA 80 (fr_sA 82 (fr_sI 5532 (fr_tr fsb_76_84 (fr_tr fsb_75_84 (fr_sA 81 (fr_tr fsb_76_84 (fr_sA 79 (fr_sA 82 (fr_sA 81 (fr_sA 78 (fr_sI 5526 (fr_tr fsb_0_84 f gs1)))))) gs15)) gs17) gs19)))) (h33.1 c34).2.2)⟩⟩), (fun c35 => (hK _ _ (fr_tr fsb_76_84 (fr_tr fsb_75_84 (fr_sA 81 (fr_tr fsb_76_84 (fr_sA 79 (fr_sA 82 (fr_sA 81 (fr_sA 78 (fr_sI 5526 (fr_tr fsb_0_84 f gs1)))))) gs15)) gs17) gs19) (h33.2 c35)))⟩)))⟩))⟩), (fun c36 => (hK _ _ (fr_tr fsb_76_84 (fr_sA 79 (fr_sA 82 (fr_sA 81 (fr_sA 78 (fr_sI 5526 (fr_tr fsb_0_84 f gs1)))))) gs15) (h28.2 c36)))⟩)))⟩⟩⟩⟩⟩), (fun c37 => (fm_w_204 _ _ _ (fr_rfl _ _) (((h1.2 c20).1 c21).2 c37) (fun r22 s21 gs21 h38 => (hK _ _ (fr_tr fsb_74_84 (fr_tr fsb_0_84 f gs1) gs21) h38))))⟩), (fun c39 => ⟨(fun c40 => ⟨(fun c41 => ⟨((((h1.2 c20).2 c39).1 c40).1 c41).1, ⟨((((h1.2 c20).2 c39).1 c40).1 c41).2.1, ⟨((((h1.2 c20).2 c39).1 c40).1 c41).2.2.1, ⟨((((h1.2 c20).2 c39).1 c40).1 c41).2.2.2.1, ⟨(fun c42 => (fm_w_220 _ (fr_rfl _ _) (((((h1.2 c20).2 c39).1 c40).1 c41).2.2.2.2.1 c42) (fun r24 s23 gs23 h43 => ⟨(fun c44 => ⟨(h43.1 c44).1, (hK _ _ (fr_sA 80 (fr_sI 5532 (fr_tr fsb_80_84 (fr_sA 79 (fr_sA 82 (fr_sA 81 (fr_sA 78 (fr_sI 5526 (fr_tr fsb_0_84 f gs1)))))) gs23))) (h43.1 c44).2)⟩), (fun c45 => (hK _ _ (fr_tr fsb_80_84 (fr_sA 79 (fr_sA 82 (fr_sA 81 (fr_sA 78 (fr_sI 5526 (fr_tr fsb_0_84 f gs1)))))) gs23) (h43.2 c45)))⟩))), (fun c46 => (fm_w_206 _ _ (fr_rfl _ _) (((((h1.2 c20).2 c39).1 c40).1 c41).2.2.2.2.2 c46) (fun r26 s25 gs25 h47 => ⟨(fun c48 => ⟨(h47.1 c48).1, (fm_w_205 _ _ (fr_rfl _ _) (h47.1 c48).2 (fun r28 s27 gs27 h49 => ⟨(fun c50 => (hK _ _ (fr_tr fsb_75_84 (fr_sA 81 (fr_tr fsb_76_84 (fr_sA 79 (fr_sA 82 (fr_sA 81 (fr_sA 78 (fr_sI 5526 (fr_tr fsb_0_84 f gs1)))))) gs25)) gs27) (h49.1 c50))), (fun c51 => (fm_w_206 _ _ (fr_rfl _ _) (h49.2 c51) (fun r30 s29 gs29 h52 => ⟨(fun c53 => ⟨(h52.1 c53).1, ⟨(h52.1 c53).2.1, (hK _ _ (fr_sA 80 (fr_sA 82 (fr_sI 5532 (fr_tr fsb_76_84 (fr_tr fsb_75_84 (fr_sA 81 (fr_tr fsb_76_84 (fr_sA 79 (fr_sA 82 (fr_sA 81 (fr_sA 78 (fr_sI 5526 (fr_tr fsb_0_84 f gs1)))))) gs25)) gs27) gs29)))) (h52.1 c53).2.2)⟩⟩), (fun c54 => (hK _ _ (fr_tr fsb_76_84 (fr_tr fsb_75_84 (fr_sA 81 (fr_tr fsb_76_84 (fr_sA 79 (fr_sA 82 (fr_sA 81 (fr_sA 78 (fr_sI 5526 (fr_tr fsb_0_84 f gs1)))))) gs25)) gs27) gs29) (h52.2 c54)))⟩)))⟩))⟩), (fun c55 => (hK _ _ (fr_tr fsb_76_84 (fr_sA 79 (fr_sA 82 (fr_sA 81 (fr_sA 78 (fr_sI 5526 (fr_tr fsb_0_84 f gs1)))))) gs25) (h47.2 c55)))⟩)))⟩⟩⟩⟩⟩), (fun c56 => (fm_w_204 _ _ _ (fr_rfl _ _) ((((h1.2 c20).2 c39).1 c40).2 c56) (fun r32 s31 gs31 h57 => (hK _ _ (fr_tr fsb_74_84 (fr_tr fsb_0_84 f gs1) gs31) h57))))⟩), (fun c58 => (fm_w_204 _ _ _ (fr_rfl _ _) (((h1.2 c20).2 c39).2 c58) (fun r34 s33 gs33 h59 => (hK _ _ (fr_tr fsb_74_84 (fr_tr fsb_0_84 f gs1) gs33) h59))))⟩)⟩)⟩))
theorem fm_w_222 {s0 : ST} {K K' : Int32 → ST → Prop} (p0 : Int32) (s : ST) (f : Fr fs0 s0 s) (h : w_222 p0 s K) (hK : ∀ (v0 : Int32) (s1 : ST), Fr fs0 s0 s1 → K v0 s1 → K' v0 s1) : w_222 p0 s K' := by
  unfold w_222 at h ⊢
  exact ⟨(fun c1 => ⟨(fun c2 => ⟨(fun c3 => (hK _ _ f (((h.1 c1).1 c2).1 c3))), (fun c4 => (hK _ _ f (((h.1 c1).1 c2).2 c4)))⟩), (fun c5 => (hK _ _ f ((h.1 c1).2 c5)))⟩), (fun c6 => (hK _ _ f (h.2 c6)))⟩
theorem fm_w_223_L55 {s0 : ST} {X95 X95' : ST → Prop} {X72 X72' : ST → Prop} {K K' : Int32 → ST → Prop} (hX95 : ∀ (s1 : ST), Fr fs84 s0 s1 → X95 s1 → X95' s1) (hX72 : ∀ (s1 : ST), Fr fs84 s0 s1 → X72 s1 → X72' s1) (hK : ∀ (v0 : Int32) (s1 : ST), Fr fs84 s0 s1 → K v0 s1 → K' v0 s1) : ∀ (n : Nat) (x1 : Int32) (s : ST), Fr fs84 s0 s → w_223_L55 n x1 s X95 X72 K → w_223_L55 n x1 s X95' X72' K' := by
  intro n
  induction n with
  | zero => intro x1 s f h; exact h.elim
  | succ n ih =>
    intro x1 s f h
    rw [w_223_L55] at h
    rw [w_223_L55]
    exact ⟨(fun c1 => (hX95 _ f (h.1 c1))), (fun c2 => (fm_w_202 _ (fr_rfl _ _) (h.2 c2) (fun r6 s5 gs5 h3 => (fm_w_222 _ _ (fr_rfl _ _) h3 (fun r8 s7 gs7 h4 => ⟨(fun c5 => (hX95 _ (fr_tr fsb_0_84 (fr_tr fsb_0_84 f gs5) gs7) (h4.1 c5))), (fun c6 => (fm_w_202 _ (fr_rfl _ _) (h4.2 c6) (fun r10 s9 gs9 h7 => (fm_w_222 _ _ (fr_rfl _ _) h7 (fun r12 s11 gs11 h8 => ⟨h8.1, ⟨(fun c9 => ⟨(h8.2.1 c9).1, ⟨(h8.2.1 c9).2.1, (ih _ _ (fr_sA 81 (fr_sI 5526 (fr_tr fsb_0_84 (fr_tr fsb_0_84 (fr_tr fsb_0_84 (fr_tr fsb_0_84 f gs5) gs7) gs9) gs11))) (h8.2.1 c9).2.2)⟩⟩), (fun c10 => (hX72 _ (fr_tr fsb_0_84 (fr_tr fsb_0_84 (fr_tr fsb_0_84 (fr_tr fsb_0_84 f gs5) gs7) gs9) gs11) (h8.2.2 c10)))⟩⟩)))))⟩)))))⟩
theorem fm_w_223 {s0 : ST} {K K' : Int32 → ST → Prop} (s : ST) (f : Fr fs84 s0 s) (h : w_223  s K) (hK : ∀ (v0 : Int32) (s1 : ST), Fr fs84 s0 s1 → K v0 s1 → K' v0 s1) : w_223  s K' := by
  unfold w_223 at h ⊢
  exact (fm_w_202 _ (fr_rfl _ _) h (fun r2 s1 gs1 h1 => ⟨(fun c2 => ⟨(fun c3 => ⟨((h1.1 c2).1 c3).1, ⟨((h1.1 c2).1 c3).2.1, ⟨((h1.1 c2).1 c3).2.2.1, ⟨((h1.1 c2).1 c3).2.2.2.1, (fm_w_220 _ (fr_rfl _ _) ((h1.1 c2).1 c3).2.2.2.2 (fun r4 s3 gs3 h4 => ⟨(fun c5 => ⟨(h4.1 c5).1, (Exists.elim (h4.1 c5).2 (fun m e6 => ⟨m, (fm_w_223_L55 (fun s13 gs13 h7 => (hK _ _ (fr_sI 5532 gs13) h7)) (fun s14 gs14 h8 => (fm_w_204 _ _ _ (fr_rfl _ _) h8 (fun r16 s15 gs15 h9 => (hK _ _ (fr_tr fsb_74_84 gs14 gs15) h9)))) hK m _ _ (fr_sA 80 (fr_tr fsb_80_84 (fr_sA 79 (fr_sA 82 (fr_sA 81 (fr_sA 78 (fr_tr fsb_0_84 f gs1))))) gs3)) e6)⟩))⟩), (fun c10 => (hK _ _ (fr_tr fsb_80_84 (fr_sA 79 (fr_sA 82 (fr_sA 81 (fr_sA 78 (fr_tr fsb_0_84 f gs1))))) gs3) (h4.2 c10)))⟩))⟩⟩⟩⟩), (fun c11 => (fm_w_204 _ _ _ (fr_rfl _ _) ((h1.1 c2).2 c11) (fun r18 s17 gs17 h12 => (hK _ _ (fr_tr fsb_74_84 (fr_tr fsb_0_84 f gs1) gs17) h12))))⟩), (fun c13 => (fm_w_204 _ _ _ (fr_rfl _ _) (h1.2 c13) (fun r20 s19 gs19 h14 => (hK _ _ (fr_tr fsb_74_84 (fr_tr fsb_0_84 f gs1) gs19) h14))))⟩))
theorem fm_w_224_L8 {s0 : ST} {X26 X26' : Int32 → ST → Prop} {K K' : ST → Prop} (hX26 : ∀ (v0 : Int32) (s1 : ST), Fr fs85 s0 s1 → X26 v0 s1 → X26' v0 s1) (hK : ∀ (s1 : ST), Fr fs85 s0 s1 → K s1 → K' s1) : ∀ (n : Nat) (x1 : Int32) (x2 : Int32) (s : ST), Fr fs85 s0 s → w_224_L8 n x1 x2 s X26 K → w_224_L8 n x1 x2 s X26' K' := by
  intro n
  induction n with
  | zero => intro x1 x2 s f h; exact h.elim
  | succ n ih =>
    intro x1 x2 s f h
    rw [w_224_L8] at h
    rw [w_224_L8]
    exact ⟨(fun c1 => (hX26 _ _ f (h.1 c1))), (fun c2 => ⟨(h.2 c2).1, ⟨(h.2 c2).2.1, (ih _ _ _ (fr_sA 83 f) (h.2 c2).2.2)⟩⟩)⟩
theorem fm_w_224_L28 {s0 : ST} {X88 X88' : ST → Prop} {K K' : ST → Prop} (hX88 : ∀ (s1 : ST), Fr fs85 s0 s1 → X88 s1 → X88' s1) (hK : ∀ (s1 : ST), Fr fs85 s0 s1 → K s1 → K' s1) : ∀ (n : Nat) (x1 : Int32) (x2 : Int32) (s : ST), Fr fs85 s0 s → w_224_L28 n x1 x2 s X88 K → w_224_L28 n x1 x2 s X88' K' := by
  intro n
  induction n with
  | zero => intro x1 x2 s f h; exact h.elim
  | succ n ih =>
    intro x1 x2 s f h
    rw [w_224_L28] at h
    rw [w_224_L28]
    exact ⟨(fun c1 => (hX88 _ f (h.1 c1))), (fun c2 => ⟨(h.2 c2).1, ⟨(h.2 c2).2.1, ⟨(h.2 c2).2.2.1, ⟨(h.2 c2).2.2.2.1, ⟨(h.2 c2).2.2.2.2.1, ⟨(h.2 c2).2.2.2.2.2.1, ⟨(h.2 c2).2.2.2.2.2.2.1, ⟨(h.2 c2).2.2.2.2.2.2.2.1, ⟨(h.2 c2).2.2.2.2.2.2.2.2.1, ⟨(h.2 c2).2.2.2.2.2.2.2.2.2.1, (ih _ _ _ (fr_sA 89 (fr_sA 88 (fr_sA 91 (fr_sA 90 (fr_sA 87 f))))) (h.2 c2).2.2.2.2.2.2.2.2.2.2)⟩⟩⟩⟩⟩⟩⟩⟩⟩⟩)⟩
theorem fm_w_224 {s0 : ST} {K K' : ST → Prop} (p1 : Int32) (s : ST) (f : Fr fs85 s0 s) (h : w_224 p1 s K) (hK : ∀ (s1 : ST), Fr fs85 s0 s1 → K s1 → K' s1) : w_224 p1 s K' := by
  unfold w_224 at h ⊢
  exact ⟨h.1, (Exists.elim h.2 (fun m e1 => ⟨m, (fm_w_224_L8 (fun y1 s1 gs1 h2 => (Exists.elim h2 (fun m e3 => ⟨m, (fm_w_224_L28 (fun s2 gs2 h4 => (hK _ gs2 h4)) hK m _ _ _ gs1 e3)⟩))) hK m _ _ _ (fr_sA 86 f) e1)⟩))⟩
theorem fm_w_225 {s0 : ST} {K K' : ST → Prop} (p1 : Int32) (s : ST) (f : Fr fs86 s0 s) (h : w_225 p1 s K) (hK : ∀ (s1 : ST), Fr fs86 s0 s1 → K s1 → K' s1) : w_225 p1 s K' := by
  unfold w_225 at h ⊢
  exact (hK _ (fr_sI 5532 (fr_sI 5530 (fr_sI 5527 (fr_sI 5526 f)))) h)
theorem fm_w_226_L29 {s0 : ST} {X48 X48' : Int32 → Int32 → Int32 → ST → Prop} {K K' : Int32 → ST → Prop} (hX48 : ∀ (v0 : Int32) (v1 : Int32) (v2 : Int32) (s1 : ST), Fr fs87 s0 s1 → X48 v0 v1 v2 s1 → X48' v0 v1 v2 s1) (hK : ∀ (v0 : Int32) (s1 : ST), Fr fs87 s0 s1 → K v0 s1 → K' v0 s1) : ∀ (n : Nat) (x1 : Int32) (x2 : Int32) (x4 : Int32) (s : ST), Fr fs87 s0 s → w_226_L29 n x1 x2 x4 s X48 K → w_226_L29 n x1 x2 x4 s X48' K' := by
  intro n
  induction n with
  | zero => intro x1 x2 x4 s f h; exact h.elim
  | succ n ih =>
    intro x1 x2 x4 s f h
    rw [w_226_L29] at h
    rw [w_226_L29]
    exact ⟨(fun c1 => (hX48 _ _ _ _ f (h.1 c1))), (fun c2 => ⟨(fun c3 => (hX48 _ _ _ _ f ((h.2 c2).1 c3))), (fun c4 => (fm_w_205 _ _ (fr_rfl _ _) ((h.2 c2).2 c4) (fun r12 s11 gs11 h5 => ⟨(fun c6 => (ih _ _ _ _ (fr_tr fsb_75_87 f gs11) (h5.1 c6))), (fun c7 => (fm_w_221 _ (fr_rfl _ _) (h5.2 c7) (fun r14 s13 gs13 h8 => ⟨(fun c9 => (ih _ _ _ _ (fr_tr fsb_84_87 (fr_tr fsb_75_87 f gs11) gs13) (h8.1 c9))), (fun c10 => (ih _ _ _ _ (fr_tr fsb_84_87 (fr_tr fsb_75_87 f gs11) gs13) (h8.2 c10)))⟩)))⟩)))⟩)⟩
theorem fm_w_226 {s0 : ST} {K K' : Int32 → ST → Prop} (p1 : Int32) (p2 : Int32) (p3 : Int32) (s : ST) (f : Fr fs87 s0 s) (h : w_226 p1 p2 p3 s K) (hK : ∀ (v0 : Int32) (s1 : ST), Fr fs87 s0 s1 → K v0 s1 → K' v0 s1) : w_226 p1 p2 p3 s K' := by
  unfold w_226 at h ⊢
  exact (fm_w_187 _ _ (fr_rfl _ _) h (fun r2 s1 gs1 h1 => ⟨(fun c2 => (hK _ _ (fr_tr fsb_0_87 f gs1) (h1.1 c2))), (fun c3 => (fm_w_186 _ _ _ _ (fr_rfl _ _) (h1.2 c3) (fun r4 s3 gs3 h4 => ⟨(fun c5 => (hK _ _ (fr_tr fsb_0_87 (fr_tr fsb_0_87 f gs1) gs3) (h4.1 c5))), (fun c6 => (fm_w_186 _ _ _ _ (fr_rfl _ _) (h4.2 c6) (fun r6 s5 gs5 h7 => ⟨(fun c8 => (hK _ _ (fr_tr fsb_0_87 (fr_tr fsb_0_87 (fr_tr fsb_0_87 f gs1) gs3) gs5) (h7.1 c8))), (fun c9 => ⟨(fun c10 => (hK _ _ (fr_tr fsb_0_87 (fr_tr fsb_0_87 (fr_tr fsb_0_87 f gs1) gs3) gs5) ((h7.2 c9).1 c10))), (fun c11 => ⟨(fun c12 => (fm_w_225 _ _ (fr_rfl _ _) (((h7.2 c9).2 c11).1 c12) (fun s7 gs7 h13 => (fm_w_221 _ (fr_rfl _ _) h13 (fun r10 s9 gs9 h14 => (Exists.elim h14 (fun m e15 => ⟨m, (fm_w_226_L29 (fun y1 y2 y4 s15 gs15 h16 => ⟨(fun c17 => ⟨(h16.1 c17).1, ⟨(h16.1 c17).2.1, (fm_w_224 _ _ (fr_rfl _ _) (h16.1 c17).2.2 (fun s16 gs16 h18 => (hK _ _ (fr_sI 5541 (fr_tr fsb_85_87 (fr_sA 85 (fr_sA 84 (fr_sI 5525 gs15))) gs16)) h18)))⟩⟩), (fun c19 => (hK _ _ (fr_sI 5525 gs15) (h16.2 c19)))⟩) hK m _ _ _ _ (fr_tr fsb_84_87 (fr_tr fsb_86_87 (fr_tr fsb_0_87 (fr_tr fsb_0_87 (fr_tr fsb_0_87 f gs1) gs3) gs5) gs7) gs9) e15)⟩))))))), (fun c20 => (hK _ _ (fr_tr fsb_0_87 (fr_tr fsb_0_87 (fr_tr fsb_0_87 f gs1) gs3) gs5) (((h7.2 c9).2 c11).2 c20)))⟩)⟩)⟩)))⟩)))⟩))
theorem fm_w_227_L21 {s0 : ST} {X40 X40' : Int32 → ST → Prop} {K K' : Int32 → ST → Prop} (hX40 : ∀ (v0 : Int32) (s1 : ST), Fr fs88 s0 s1 → X40 v0 s1 → X40' v0 s1) (hK : ∀ (v0 : Int32) (s1 : ST), Fr fs88 s0 s1 → K v0 s1 → K' v0 s1) : ∀ (n : Nat) (x2 : Int32) (s : ST), Fr fs88 s0 s → w_227_L21 n x2 s X40 K → w_227_L21 n x2 s X40' K' := by
  intro n
  induction n with
  | zero => intro x2 s f h; exact h.elim
  | succ n ih =>
    intro x2 s f h
    rw [w_227_L21] at h
    rw [w_227_L21]
    exact ⟨(fun c1 => (hX40 _ _ f (h.1 c1))), (fun c2 => ⟨(fun c3 => (hX40 _ _ f ((h.2 c2).1 c3))), (fun c4 => (fm_w_205 _ _ (fr_rfl _ _) ((h.2 c2).2 c4) (fun r8 s7 gs7 h5 => ⟨(fun c6 => (ih _ _ (fr_tr fsb_75_88 f gs7) (h5.1 c6))), (fun c7 => (fm_w_223 _ (fr_rfl _ _) (h5.2 c7) (fun r10 s9 gs9 h8 => ⟨(fun c9 => (ih _ _ (fr_tr fsb_84_88 (fr_tr fsb_75_88 f gs7) gs9) (h8.1 c9))), (fun c10 => (ih _ _ (fr_tr fsb_84_88 (fr_tr fsb_75_88 f gs7) gs9) (h8.2 c10)))⟩)))⟩)))⟩)⟩
theorem fm_w_227 {s0 : ST} {K K' : Int32 → ST → Prop} (p1 : Int32) (s : ST) (f : Fr fs88 s0 s) (h : w_227 p1 s K) (hK : ∀ (v0 : Int32) (s1 : ST), Fr fs88 s0 s1 → K v0 s1 → K' v0 s1) : w_227 p1 s K' := by
  unfold w_227 at h ⊢
  exact (fm_w_186 _ _ _ _ (fr_rfl _ _) h (fun r2 s1 gs1 h1 => ⟨(fun c2 => (hK _ _ (fr_tr fsb_0_88 f gs1) (h1.1 c2))), (fun c3 => ⟨(fun c4 => (hK _ _ (fr_tr fsb_0_88 f gs1) ((h1.2 c3).1 c4))), (fun c5 => ⟨(fun c6 => (fm_w_225 _ _ (fr_rfl _ _) (((h1.2 c3).2 c5).1 c6) (fun s3 gs3 h7 => (fm_w_223 _ (fr_rfl _ _) h7 (fun r6 s5 gs5 h8 => (Exists.elim h8 (fun m e9 => ⟨m, (fm_w_227_L21 (fun y2 s11 gs11 h10 => ⟨(fun c11 => (fm_w_224 _ _ (fr_rfl _ _) (h10.1 c11) (fun s12 gs12 h12 => (hK _ _ (fr_sI 5542 (fr_tr fsb_85_88 (fr_sI 5525 gs11) gs12)) h12)))), (fun c13 => (hK _ _ (fr_sI 5525 gs11) (h10.2 c13)))⟩) hK m _ _ (fr_tr fsb_84_88 (fr_tr fsb_86_88 (fr_tr fsb_0_88 f gs1) gs3) gs5) e9)⟩))))))), (fun c14 => (hK _ _ (fr_tr fsb_0_88 f gs1) (((h1.2 c3).2 c5).2 c14)))⟩)⟩)⟩))
theorem fm_w_228 {s0 : ST} {K K' : Int32 → ST → Prop} (p1 : Int32) (s : ST) (f : Fr fs0 s0 s) (h : w_228 p1 s K) (hK : ∀ (v0 : Int32) (s1 : ST), Fr fs0 s0 s1 → K v0 s1 → K' v0 s1) : w_228 p1 s K' := by
  unfold w_228 at h ⊢
  exact ⟨h.1, ⟨(fun c1 => ⟨(h.2.1 c1).1, (hK _ _ f (h.2.1 c1).2)⟩), (fun c2 => (hK _ _ f (h.2.2 c2)))⟩⟩
theorem fm_w_229 {s0 : ST} {K K' : Int32 → ST → Prop} (p1 : Int32) (s : ST) (f : Fr fs0 s0 s) (h : w_229 p1 s K) (hK : ∀ (v0 : Int32) (s1 : ST), Fr fs0 s0 s1 → K v0 s1 → K' v0 s1) : w_229 p1 s K' := by
  unfold w_229 at h ⊢
  exact ⟨h.1, ⟨(fun c1 => ⟨(h.2.1 c1).1, (hK _ _ f (h.2.1 c1).2)⟩), (fun c2 => ⟨(h.2.2 c2).1, ⟨(fun c3 => (hK _ _ f ((h.2.2 c2).2.1 c3))), (fun c4 => ⟨((h.2.2 c2).2.2 c4).1, (hK _ _ f ((h.2.2 c2).2.2 c4).2)⟩)⟩⟩)⟩⟩
theorem fm_w_230_L6 {s0 : ST} {X75 X75' : Int32 → Int64 → Int64 → ST → Prop} {K K' : ST → Prop} (hX75 : ∀ (v0 : Int32) (v1 : Int64) (v2 : Int64) (s1 : ST), Fr fs89 s0 s1 → X75 v0 v1 v2 s1 → X75' v0 v1 v2 s1) (hK : ∀ (s1 : ST), Fr fs89 s0 s1 → K s1 → K' s1) : ∀ (n : Nat) (x1 : Int32) (x2 : Int64) (x4 : Int64) (x6 : Int32) (s : ST), Fr fs89 s0 s → w_230_L6 n x1 x2 x4 x6 s X75 K → w_230_L6 n x1 x2 x4 x6 s X75' K' := by
  intro n
  induction n with
  | zero => intro x1 x2 x4 x6 s f h; exact h.elim
  | succ n ih =>
    intro x1 x2 x4 x6 s f h
    rw [w_230_L6] at h
    rw [w_230_L6]
    exact ⟨(fun c1 => (hX75 _ _ _ _ f (h.1 c1))), (fun c2 => ⟨(h.2 c2).1, ⟨(h.2 c2).2.1, ⟨(h.2 c2).2.2.1, ⟨(fun c3 => ⟨((h.2 c2).2.2.2.1 c3).1, ⟨((h.2 c2).2.2.2.1 c3).2.1, ⟨(fun c4 => (fm_w_229 _ _ (fr_rfl _ _) (((h.2 c2).2.2.2.1 c3).2.2.1 c4) (fun r2 s1 gs1 h5 => ⟨(fun c6 => (ih _ _ _ _ _ (fr_tr fsb_0_89 f gs1) (h5.1 c6))), (fun c7 => ⟨(h5.2 c7).1, ⟨(h5.2 c7).2.1, ⟨(fun c8 => (ih _ _ _ _ _ (fr_tr fsb_0_89 f gs1) ((h5.2 c7).2.2.1 c8))), (fun c9 => ⟨((h5.2 c7).2.2.2 c9).1, ⟨((h5.2 c7).2.2.2 c9).2.1, ⟨(fun c10 => (ih _ _ _ _ _ (fr_tr fsb_0_89 f gs1) (((h5.2 c7).2.2.2 c9).2.2.1 c10))), (fun c11 => ⟨(((h5.2 c7).2.2.2 c9).2.2.2 c11).1, (ih _ _ _ _ _ (fr_tr fsb_0_89 f gs1) (((h5.2 c7).2.2.2 c9).2.2.2 c11).2)⟩)⟩⟩⟩)⟩⟩⟩)⟩))), (fun c12 => (fm_w_229 _ _ (fr_rfl _ _) (((h.2 c2).2.2.2.1 c3).2.2.2 c12) (fun r4 s3 gs3 h13 => ⟨(fun c14 => (ih _ _ _ _ _ (fr_tr fsb_0_89 f gs3) (h13.1 c14))), (fun c15 => ⟨(h13.2 c15).1, ⟨(h13.2 c15).2.1, ⟨(fun c16 => (ih _ _ _ _ _ (fr_tr fsb_0_89 f gs3) ((h13.2 c15).2.2.1 c16))), (fun c17 => ⟨((h13.2 c15).2.2.2 c17).1, ⟨((h13.2 c15).2.2.2 c17).2.1, ⟨(fun c18 => (ih _ _ _ _ _ (fr_tr fsb_0_89 f gs3) (((h13.2 c15).2.2.2 c17).2.2.1 c18))), (fun c19 => ⟨(((h13.2 c15).2.2.2 c17).2.2.2 c19).1, (ih _ _ _ _ _ (fr_tr fsb_0_89 f gs3) (((h13.2 c15).2.2.2 c17).2.2.2 c19).2)⟩)⟩⟩⟩)⟩⟩⟩)⟩)))⟩⟩⟩), (fun c20 => (ih _ _ _ _ _ f ((h.2 c2).2.2.2.2 c20)))⟩⟩⟩⟩)⟩
theorem fm_w_230 {s0 : ST} {K K' : ST → Prop} (p1 : Int32) (s : ST) (f : Fr fs89 s0 s) (h : w_230 p1 s K) (hK : ∀ (s1 : ST), Fr fs89 s0 s1 → K s1 → K' s1) : w_230 p1 s K' := by
  unfold w_230 at h ⊢
  exact (Exists.elim h (fun m e1 => ⟨m, (fm_w_230_L6 (fun y1 y2 y4 s5 gs5 h2 => ⟨h2.1, ⟨h2.2.1, ⟨h2.2.2.1, ⟨h2.2.2.2.1, ⟨h2.2.2.2.2.1, ⟨h2.2.2.2.2.2.1, ⟨h2.2.2.2.2.2.2.1, ⟨h2.2.2.2.2.2.2.2.1, ⟨h2.2.2.2.2.2.2.2.2.1, ⟨h2.2.2.2.2.2.2.2.2.2.1, (fm_w_228 _ _ (fr_rfl _ _) h2.2.2.2.2.2.2.2.2.2.2 (fun r7 s6 gs6 h3 => ⟨h3.1, ⟨h3.2.1, ⟨h3.2.2.1, ⟨h3.2.2.2.1, ⟨(fun c4 => ⟨(h3.2.2.2.2.1 c4).1, (fm_w_229 _ _ (fr_rfl _ _) (h3.2.2.2.2.1 c4).2 (fun r9 s8 gs8 h5 => ⟨h5.1, ⟨h5.2.1, ⟨h5.2.2.1, ⟨h5.2.2.2.1, ⟨h5.2.2.2.2.1, ⟨h5.2.2.2.2.2.1, ⟨h5.2.2.2.2.2.2.1, ⟨h5.2.2.2.2.2.2.2.1, (hK _ (fr_sL 93 (fr_tr fsb_0_89 (fr_sL 93 (fr_tr fsb_0_89 (fr_sL 93 gs5) gs6)) gs8)) h5.2.2.2.2.2.2.2.2)⟩⟩⟩⟩⟩⟩⟩⟩))⟩), (fun c6 => ⟨(h3.2.2.2.2.2 c6).1, ⟨(h3.2.2.2.2.2 c6).2.1, (fm_w_229 _ _ (fr_rfl _ _) (h3.2.2.2.2.2 c6).2.2 (fun r11 s10 gs10 h7 => ⟨h7.1, ⟨h7.2.1, ⟨h7.2.2.1, ⟨h7.2.2.2.1, ⟨h7.2.2.2.2.1, ⟨h7.2.2.2.2.2.1, ⟨h7.2.2.2.2.2.2.1, ⟨h7.2.2.2.2.2.2.2.1, (hK _ (fr_sL 93 (fr_tr fsb_0_89 (fr_sL 93 (fr_tr fsb_0_89 (fr_sL 93 gs5) gs6)) gs10)) h7.2.2.2.2.2.2.2.2)⟩⟩⟩⟩⟩⟩⟩⟩))⟩⟩)⟩⟩⟩⟩⟩))⟩⟩⟩⟩⟩⟩⟩⟩⟩⟩) hK m _ _ _ _ _ f e1)⟩))
theorem fm_w_231 {s0 : ST} {K K' : Int64 → ST → Prop} (p0 : Int32) (p1 : Int64) (p2 : Int64) (s : ST) (f : Fr fs0 s0 s) (h : w_231 p0 p1 p2 s K) (hK : ∀ (v0 : Int64) (s1 : ST), Fr fs0 s0 s1 → K v0 s1 → K' v0 s1) : w_231 p0 p1 p2 s K' := by
  unfold w_231 at h ⊢
  exact ⟨(fun c1 => ⟨(fun c2 => (hK _ _ f ((h.1 c1).1 c2))), (fun c3 => (hK _ _ f ((h.1 c1).2 c3)))⟩), (fun c4 => (hK _ _ f (h.2.1 c4))), (fun c5 => (hK _ _ f (h.2.2.1 c5))), (fun c6 => (hK _ _ f (h.2.2.2.1 c6))), (fun c7 => ⟨(h.2.2.2.2.1 c7).1, (hK _ _ f (h.2.2.2.2.1 c7).2)⟩), (fun c8 => ⟨(h.2.2.2.2.2.1 c8).1, (hK _ _ f (h.2.2.2.2.2.1 c8).2)⟩), (fun c9 => ⟨(fun c10 => (hK _ _ f ((h.2.2.2.2.2.2.1 c9).1 c10))), (fun c11 => (hK _ _ f ((h.2.2.2.2.2.2.1 c9).2 c11)))⟩), (fun c12 => ⟨(fun c13 => (hK _ _ f ((h.2.2.2.2.2.2.2 c12).1 c13))), (fun c14 => (hK _ _ f ((h.2.2.2.2.2.2.2 c12).2 c14)))⟩)⟩
theorem fm_w_232_L13 {s0 : ST} {X146 X146' : ST → Prop} {X125 X125' : ST → Prop} {K K' : Int32 → ST → Prop} (hX146 : ∀ (s1 : ST), Fr fs90 s0 s1 → X146 s1 → X146' s1) (hX125 : ∀ (s1 : ST), Fr fs90 s0 s1 → X125 s1 → X125' s1) (hK : ∀ (v0 : Int32) (s1 : ST), Fr fs90 s0 s1 → K v0 s1 → K' v0 s1) : ∀ (n : Nat) (x1 : Int32) (x2 : Int32) (x3 : Int32) (x4 : Int32) (s : ST), Fr fs90 s0 s → w_232_L13 n x1 x2 x3 x4 s X146 X125 K → w_232_L13 n x1 x2 x3 x4 s X146' X125' K' := by
  intro n
  induction n with
  | zero => intro x1 x2 x3 x4 s f h; exact h.elim
  | succ n ih =>
    intro x1 x2 x3 x4 s f h
    rw [w_232_L13] at h
    rw [w_232_L13]
    exact ⟨h.1, ⟨(fun c1 => (hX146 _ f (h.2.1 c1))), (fun c2 => ⟨(h.2.2 c2).1, ⟨(h.2.2 c2).2.1, ⟨(h.2.2 c2).2.2.1, ⟨(h.2.2 c2).2.2.2.1, ⟨(fun c3 => ⟨(fun c4 => ⟨(((h.2.2 c2).2.2.2.2.1 c3).1 c4).1, ⟨(((h.2.2 c2).2.2.2.2.1 c3).1 c4).2.1, (ih _ _ _ _ _ (fr_sL 92 f) (((h.2.2 c2).2.2.2.2.1 c3).1 c4).2.2)⟩⟩), (fun c5 => ⟨(((h.2.2 c2).2.2.2.2.1 c3).2 c5).1, (ih _ _ _ _ _ (fr_sL 92 f) (((h.2.2 c2).2.2.2.2.1 c3).2 c5).2)⟩)⟩), (fun c6 => ⟨(fun c7 => ⟨(fun c8 => ⟨(fun c9 => ⟨(((((h.2.2 c2).2.2.2.2.2 c6).1 c7).1 c8).1 c9).1, ⟨(fun c10 => ⟨(fun c11 => (ih _ _ _ _ _ f (((((((h.2.2 c2).2.2.2.2.2 c6).1 c7).1 c8).1 c9).2.1 c10).1 c11))), (fun c12 => (ih _ _ _ _ _ f (((((((h.2.2 c2).2.2.2.2.2 c6).1 c7).1 c8).1 c9).2.1 c10).2 c12)))⟩), (fun c13 => ⟨(fun c14 => (ih _ _ _ _ _ f (((((((h.2.2 c2).2.2.2.2.2 c6).1 c7).1 c8).1 c9).2.2 c13).1 c14))), (fun c15 => (ih _ _ _ _ _ f (((((((h.2.2 c2).2.2.2.2.2 c6).1 c7).1 c8).1 c9).2.2 c13).2 c15)))⟩)⟩⟩), (fun c16 => ⟨(fun c17 => ⟨(fun c18 => ⟨(((((((h.2.2 c2).2.2.2.2.2 c6).1 c7).1 c8).2 c16).1 c17).1 c18).1, ⟨(fun c19 => ⟨((((((((h.2.2 c2).2.2.2.2.2 c6).1 c7).1 c8).2 c16).1 c17).1 c18).2.1 c19).1, ⟨((((((((h.2.2 c2).2.2.2.2.2 c6).1 c7).1 c8).2 c16).1 c17).1 c18).2.1 c19).2.1, (fm_w_231 _ _ _ _ (fr_rfl _ _) ((((((((h.2.2 c2).2.2.2.2.2 c6).1 c7).1 c8).2 c16).1 c17).1 c18).2.1 c19).2.2 (fun r2 s1 gs1 h20 => ⟨h20.1, (ih _ _ _ _ _ (fr_sL 92 (fr_tr fsb_0_90 f gs1)) h20.2)⟩))⟩⟩), (fun c21 => (hX125 _ f ((((((((h.2.2 c2).2.2.2.2.2 c6).1 c7).1 c8).2 c16).1 c17).1 c18).2.2 c21)))⟩⟩), (fun c22 => ⟨(fun c23 => ⟨((((((((h.2.2 c2).2.2.2.2.2 c6).1 c7).1 c8).2 c16).1 c17).2 c22).1 c23).1, ⟨((((((((h.2.2 c2).2.2.2.2.2 c6).1 c7).1 c8).2 c16).1 c17).2 c22).1 c23).2.1, (fm_w_231 _ _ _ _ (fr_rfl _ _) ((((((((h.2.2 c2).2.2.2.2.2 c6).1 c7).1 c8).2 c16).1 c17).2 c22).1 c23).2.2 (fun r4 s3 gs3 h24 => ⟨h24.1, (ih _ _ _ _ _ (fr_sL 92 (fr_tr fsb_0_90 f gs3)) h24.2)⟩))⟩⟩), (fun c25 => ⟨((((((((h.2.2 c2).2.2.2.2.2 c6).1 c7).1 c8).2 c16).1 c17).2 c22).2 c25).1, ⟨(fun c26 => ⟨(((((((((h.2.2 c2).2.2.2.2.2 c6).1 c7).1 c8).2 c16).1 c17).2 c22).2 c25).2.1 c26).1, ⟨(((((((((h.2.2 c2).2.2.2.2.2 c6).1 c7).1 c8).2 c16).1 c17).2 c22).2 c25).2.1 c26).2.1, (fm_w_231 _ _ _ _ (fr_rfl _ _) (((((((((h.2.2 c2).2.2.2.2.2 c6).1 c7).1 c8).2 c16).1 c17).2 c22).2 c25).2.1 c26).2.2 (fun r6 s5 gs5 h27 => ⟨h27.1, (ih _ _ _ _ _ (fr_sL 92 (fr_tr fsb_0_90 f gs5)) h27.2)⟩))⟩⟩), (fun c28 => (hX125 _ f (((((((((h.2.2 c2).2.2.2.2.2 c6).1 c7).1 c8).2 c16).1 c17).2 c22).2 c25).2.2 c28)))⟩⟩)⟩)⟩), (fun c29 => ⟨((((((h.2.2 c2).2.2.2.2.2 c6).1 c7).1 c8).2 c16).2 c29).1, ⟨(fun c30 => ⟨(fun c31 => (ih _ _ _ _ _ f ((((((((h.2.2 c2).2.2.2.2.2 c6).1 c7).1 c8).2 c16).2 c29).2.1 c30).1 c31))), (fun c32 => (ih _ _ _ _ _ f ((((((((h.2.2 c2).2.2.2.2.2 c6).1 c7).1 c8).2 c16).2 c29).2.1 c30).2 c32)))⟩), (fun c33 => ⟨(fun c34 => (ih _ _ _ _ _ f ((((((((h.2.2 c2).2.2.2.2.2 c6).1 c7).1 c8).2 c16).2 c29).2.2 c33).1 c34))), (fun c35 => (ih _ _ _ _ _ f ((((((((h.2.2 c2).2.2.2.2.2 c6).1 c7).1 c8).2 c16).2 c29).2.2 c33).2 c35)))⟩)⟩⟩)⟩)⟩), (fun c36 => ⟨((((h.2.2 c2).2.2.2.2.2 c6).1 c7).2 c36).1, ⟨((((h.2.2 c2).2.2.2.2.2 c6).1 c7).2 c36).2.1, (ih _ _ _ _ _ (fr_sL 92 f) ((((h.2.2 c2).2.2.2.2.2 c6).1 c7).2 c36).2.2)⟩⟩)⟩), (fun c37 => ⟨(fun c38 => ⟨((((h.2.2 c2).2.2.2.2.2 c6).2 c37).1 c38).1, ⟨((((h.2.2 c2).2.2.2.2.2 c6).2 c37).1 c38).2.1, (ih _ _ _ _ _ (fr_sL 92 f) ((((h.2.2 c2).2.2.2.2.2 c6).2 c37).1 c38).2.2)⟩⟩), (fun c39 => ⟨((((h.2.2 c2).2.2.2.2.2 c6).2 c37).2 c39).1, (ih _ _ _ _ _ (fr_sL 92 f) ((((h.2.2 c2).2.2.2.2.2 c6).2 c37).2 c39).2)⟩)⟩)⟩)⟩⟩⟩⟩⟩)⟩⟩
theorem fm_w_232 {s0 : ST} {K K' : Int32 → ST → Prop} (p1 : Int32) (s : ST) (f : Fr fs90 s0 s) (h : w_232 p1 s K) (hK : ∀ (v0 : Int32) (s1 : ST), Fr fs90 s0 s1 → K v0 s1 → K' v0 s1) : w_232 p1 s K' := by
  unfold w_232 at h ⊢
  exact ⟨h.1, ⟨h.2.1, (Exists.elim h.2.2 (fun m e1 => ⟨m, (fm_w_232_L13 (fun s7 gs7 h2 => ⟨h2.1, ⟨(fun c3 => (hK _ _ gs7 (h2.2.1 c3))), (fun c4 => (hK _ _ gs7 (h2.2.2 c4)))⟩⟩) (fun s8 gs8 h5 => (hK _ _ gs8 h5)) hK m _ _ _ _ _ f e1)⟩))⟩⟩
theorem fm_w_233 {s0 : ST} {K K' : Int32 → ST → Prop} (p1 : Int32) (p2 : Int32) (s : ST) (f : Fr fs0 s0 s) (h : w_233 p1 p2 s K) (hK : ∀ (v0 : Int32) (s1 : ST), Fr fs0 s0 s1 → K v0 s1 → K' v0 s1) : w_233 p1 p2 s K' := by
  unfold w_233 at h ⊢
  exact ⟨h.1, ⟨h.2.1, (fm_w_186 _ _ _ _ (fr_rfl _ _) h.2.2 (fun r2 s1 gs1 h1 => (hK _ _ (fr_tr fsb_0_0 f gs1) h1)))⟩⟩
theorem fm_w_234_L2 {s0 : ST} {X12 X12' : Int32 → ST → Prop} {K K' : ST → Prop} (hX12 : ∀ (v0 : Int32) (s1 : ST), Fr fs91 s0 s1 → X12 v0 s1 → X12' v0 s1) (hK : ∀ (s1 : ST), Fr fs91 s0 s1 → K s1 → K' s1) : ∀ (n : Nat) (x1 : Int32) (x2 : Int32) (s : ST), Fr fs91 s0 s → w_234_L2 n x1 x2 s X12 K → w_234_L2 n x1 x2 s X12' K' := by
  intro n
  induction n with
  | zero => intro x1 x2 s f h; exact h.elim
  | succ n ih =>
    intro x1 x2 s f h
    rw [w_234_L2] at h
    rw [w_234_L2]
    exact ⟨(fun c1 => (hX12 _ _ f (h.1 c1))), (fun c2 => ⟨(h.2 c2).1, (ih _ _ _ (fr_sA 94 f) (h.2 c2).2)⟩)⟩
theorem fm_w_234_L21 {s0 : ST} {X80 X80' : Int32 → Int32 → ST → Prop} {K K' : ST → Prop} (hX80 : ∀ (v0 : Int32) (v1 : Int32) (s1 : ST), Fr fs91 s0 s1 → X80 v0 v1 s1 → X80' v0 v1 s1) (hK : ∀ (s1 : ST), Fr fs91 s0 s1 → K s1 → K' s1) : ∀ (n : Nat) (x1 : Int32) (x2 : Int32) (x3 : Int32) (s : ST), Fr fs91 s0 s → w_234_L21 n x1 x2 x3 s X80 K → w_234_L21 n x1 x2 x3 s X80' K' := by
  intro n
  induction n with
  | zero => intro x1 x2 x3 s f h; exact h.elim
  | succ n ih =>
    intro x1 x2 x3 s f h
    rw [w_234_L21] at h
    rw [w_234_L21]
    exact ⟨h.1, ⟨(fun c1 => (hX80 _ _ _ f (h.2.1 c1))), (fun c2 => (fm_w_233 _ _ _ (fr_rfl _ _) (h.2.2 c2) (fun r3 s2 gs2 h3 => ⟨(fun c4 => (hX80 _ _ _ (fr_tr fsb_0_91 f gs2) (h3.1 c4))), (fun c5 => ⟨(h3.2 c5).1, ⟨(fun c6 => (ih _ _ _ _ (fr_tr fsb_0_91 f gs2) ((h3.2 c5).2.1 c6))), (fun c7 => ⟨((h3.2 c5).2.2 c7).1, ⟨(fun c8 => (ih _ _ _ _ (fr_tr fsb_0_91 f gs2) (((h3.2 c5).2.2 c7).2.1 c8))), (fun c9 => ⟨(((h3.2 c5).2.2 c7).2.2 c9).1, ⟨(fun c10 => (ih _ _ _ _ (fr_tr fsb_0_91 f gs2) ((((h3.2 c5).2.2 c7).2.2 c9).2.1 c10))), (fun c11 => ⟨((((h3.2 c5).2.2 c7).2.2 c9).2.2 c11).1, (fm_w_233 _ _ _ (fr_rfl _ _) ((((h3.2 c5).2.2 c7).2.2 c9).2.2 c11).2 (fun r5 s4 gs4 h12 => ⟨(fun c13 => (ih _ _ _ _ (fr_tr fsb_0_91 (fr_tr fsb_0_91 f gs2) gs4) (h12.1 c13))), (fun c14 => ⟨(h12.2 c14).1, ⟨(h12.2 c14).2.1, ⟨(h12.2 c14).2.2.1, (ih _ _ _ _ (fr_sA 94 (fr_tr fsb_0_91 (fr_tr fsb_0_91 f gs2) gs4)) (h12.2 c14).2.2.2)⟩⟩⟩)⟩))⟩)⟩⟩)⟩⟩)⟩⟩)⟩)))⟩⟩
theorem fm_w_234_L17 {s0 : ST} {X82 X82' : ST → Prop} {K K' : ST → Prop} (hX82 : ∀ (s1 : ST), Fr fs91 s0 s1 → X82 s1 → X82' s1) (hK : ∀ (s1 : ST), Fr fs91 s0 s1 → K s1 → K' s1) : ∀ (n : Nat) (x1 : Int32) (x2 : Int32) (s : ST), Fr fs91 s0 s → w_234_L17 n x1 x2 s X82 K → w_234_L17 n x1 x2 s X82' K' := by
  intro n
  induction n with
  | zero => intro x1 x2 s f h; exact h.elim
  | succ n ih =>
    intro x1 x2 s f h
    rw [w_234_L17] at h
    rw [w_234_L17]
    exact ⟨(fun c1 => (hX82 _ f (h.1 c1))), (fun c2 => (Exists.elim (h.2 c2) (fun m e3 => ⟨m, (fm_w_234_L21 (fun y1 y2 s2 gs2 h4 => (ih _ _ _ gs2 h4)) hK m _ _ _ _ f e3)⟩)))⟩
theorem fm_w_234 {s0 : ST} {K K' : ST → Prop} (p1 : Int32) (s : ST) (f : Fr fs91 s0 s) (h : w_234 p1 s K) (hK : ∀ (s1 : ST), Fr fs91 s0 s1 → K s1 → K' s1) : w_234 p1 s K' := by
  unfold w_234 at h ⊢
  exact (Exists.elim h (fun m e1 => ⟨m, (fm_w_234_L2 (fun y1 s1 gs1 h2 => (Exists.elim h2 (fun m e3 => ⟨m, (fm_w_234_L17 (fun s3 gs3 h4 => (hK _ gs3 h4)) hK m _ _ _ gs1 e3)⟩))) hK m _ _ _ f e1)⟩))
theorem fm_w_235_L2 {s0 : ST} {X33 X33' : ST → Prop} {X29 X29' : ST → Prop} {K K' : Int32 → ST → Prop} (hX33 : ∀ (s1 : ST), Fr fs90 s0 s1 → X33 s1 → X33' s1) (hX29 : ∀ (s1 : ST), Fr fs90 s0 s1 → X29 s1 → X29' s1) (hK : ∀ (v0 : Int32) (s1 : ST), Fr fs90 s0 s1 → K v0 s1 → K' v0 s1) : ∀ (n : Nat) (x1 : Int32) (x2 : Int32) (x3 : Int32) (s : ST), Fr fs90 s0 s → w_235_L2 n x1 x2 x3 s X33 X29 K → w_235_L2 n x1 x2 x3 s X33' X29' K' := by
  intro n
  induction n with
  | zero => intro x1 x2 x3 s f h; exact h.elim
  | succ n ih =>
    intro x1 x2 x3 s f h
    rw [w_235_L2] at h
    rw [w_235_L2]
    exact ⟨h.1, ⟨(fun c1 => (hX33 _ f (h.2.1 c1))), (fun c2 => ⟨(h.2.2 c2).1, ⟨(fun c3 => (ih _ _ _ _ f ((h.2.2 c2).2.1 c3))), (fun c4 => ⟨((h.2.2 c2).2.2 c4).1, ⟨(fun c5 => (ih _ _ _ _ f (((h.2.2 c2).2.2 c4).2.1 c5))), (fun c6 => (fm_w_232 _ _ (fr_rfl _ _) (((h.2.2 c2).2.2 c4).2.2 c6) (fun r2 s1 gs1 h7 => ⟨(fun c8 => (ih _ _ _ _ (fr_tr fsb_90_90 f gs1) (h7.1 c8))), (fun c9 => (hX29 _ (fr_tr fsb_90_90 f gs1) (h7.2 c9)))⟩)))⟩⟩)⟩⟩)⟩⟩
theorem fm_w_235 {s0 : ST} {K K' : Int32 → ST → Prop} (p1 : Int32) (p2 : Int32) (s : ST) (f : Fr fs90 s0 s) (h : w_235 p1 p2 s K) (hK : ∀ (v0 : Int32) (s1 : ST), Fr fs90 s0 s1 → K v0 s1 → K' v0 s1) : w_235 p1 p2 s K' := by
  unfold w_235 at h ⊢
  exact (Exists.elim h (fun m e1 => ⟨m, (fm_w_235_L2 (fun s3 gs3 h2 => (hK _ _ gs3 h2)) (fun s4 gs4 h3 => (hK _ _ gs4 h3)) hK m _ _ _ _ f e1)⟩))
theorem fm_w_236_L14 {s0 : ST} {X41 X41' : ST → Prop} {X37 X37' : Int32 → ST → Prop} {X30 X30' : ST → Prop} {K K' : Int32 → ST → Prop} (hX41 : ∀ (s1 : ST), Fr fs92 s0 s1 → X41 s1 → X41' s1) (hX37 : ∀ (v0 : Int32) (s1 : ST), Fr fs92 s0 s1 → X37 v0 s1 → X37' v0 s1) (hX30 : ∀ (s1 : ST), Fr fs92 s0 s1 → X30 s1 → X30' s1) (hK : ∀ (v0 : Int32) (s1 : ST), Fr fs92 s0 s1 → K v0 s1 → K' v0 s1) : ∀ (n : Nat) (x1 : Int32) (x2 : Int32) (s : ST), Fr fs92 s0 s → w_236_L14 n x1 x2 s X41 X37 X30 K → w_236_L14 n x1 x2 s X41' X37' X30' K' := by
  intro n
  induction n with
  | zero => intro x1 x2 s f h; exact h.elim
  | succ n ih =>
    intro x1 x2 s f h
    rw [w_236_L14] at h
    rw [w_236_L14]
    exact ⟨(fun c1 => (hX41 _ f (h.1 c1))), (fun c2 => ⟨(h.2 c2).1, (fm_w_233 _ _ _ (fr_rfl _ _) (h.2 c2).2 (fun r6 s5 gs5 h3 => ⟨(fun c4 => (fm_w_235 _ _ _ (fr_rfl _ _) (h3.1 c4) (fun r8 s7 gs7 h5 => ⟨(fun c6 => (fm_w_235 _ _ _ (fr_rfl _ _) (h5.1 c6) (fun r10 s9 gs9 h7 => ⟨(fun c8 => (ih _ _ _ (fr_tr fsb_90_92 (fr_tr fsb_90_92 (fr_tr fsb_0_92 f gs5) gs7) gs9) (h7.1 c8))), (fun c9 => (hX37 _ _ (fr_tr fsb_90_92 (fr_tr fsb_90_92 (fr_tr fsb_0_92 f gs5) gs7) gs9) (h7.2 c9)))⟩))), (fun c10 => (hX30 _ (fr_tr fsb_90_92 (fr_tr fsb_0_92 f gs5) gs7) (h5.2 c10)))⟩))), (fun c11 => (ih _ _ _ (fr_tr fsb_0_92 f gs5) (h3.2 c11)))⟩))⟩)⟩
theorem fm_w_236 {s0 : ST} {K K' : Int32 → ST → Prop} (p1 : Int32) (s : ST) (f : Fr fs92 s0 s) (h : w_236 p1 s K) (hK : ∀ (v0 : Int32) (s1 : ST), Fr fs92 s0 s1 → K v0 s1 → K' v0 s1) : w_236 p1 s K' := by
  unfold w_236 at h ⊢
  exact ⟨h.1, (fm_w_234 _ _ (fr_rfl _ _) h.2 (fun s1 gs1 h1 => (fm_w_230 _ _ (fr_rfl _ _) h1 (fun s3 gs3 h2 => (Exists.elim h2 (fun m e3 => ⟨m, (fm_w_236_L14 (fun s11 gs11 h4 => (hK _ _ gs11 h4)) (fun y2 s12 gs12 h5 => (hK _ _ gs12 h5)) (fun s13 gs13 h6 => (hK _ _ gs13 h6)) hK m _ _ _ (fr_tr fsb_89_92 (fr_tr fsb_91_92 f gs1) gs3) e3)⟩))))))⟩
theorem fm_w_237 {s0 : ST} {K K' : Int32 → ST → Prop} (p1 : Int32) (p2 : Int32) (s : ST) (f : Fr fs93 s0 s) (h : w_237 p1 p2 s K) (hK : ∀ (v0 : Int32) (s1 : ST), Fr fs93 s0 s1 → K v0 s1 → K' v0 s1) : w_237 p1 p2 s K' := by
  unfold w_237 at h ⊢
  exact (fm_w_190 _ _ (fr_rfl _ _) h (fun r2 s1 gs1 h1 => ⟨(fun c2 => (hK _ _ (fr_tr fsb_0_93 f gs1) (h1.1 c2))), (fun c3 => (fm_w_187 _ _ (fr_rfl _ _) (h1.2 c3) (fun r4 s3 gs3 h4 => ⟨(fun c5 => (fm_w_197 _ _ (fr_rfl _ _) (h4.1 c5) (fun s5 gs5 h6 => ⟨h6.1, ⟨(fun c7 => (fm_w_236 _ _ (fr_rfl _ _) (h6.2.1 c7) (fun r8 s7 gs7 h8 => (hK _ _ (fr_tr fsb_92_93 (fr_tr fsb_72_93 (fr_tr fsb_0_93 (fr_tr fsb_0_93 f gs1) gs3) gs5) gs7) h8)))), (fun c9 => (hK _ _ (fr_tr fsb_72_93 (fr_tr fsb_0_93 (fr_tr fsb_0_93 f gs1) gs3) gs5) (h6.2.2 c9)))⟩⟩))), (fun c10 => (hK _ _ (fr_tr fsb_0_93 (fr_tr fsb_0_93 f gs1) gs3) (h4.2 c10)))⟩)))⟩))
theorem fm_w_238 {s0 : ST} {K K' : Int32 → ST → Prop} (p1 : Int32) (p2 : Int32) (s : ST) (f : Fr fs94 s0 s) (h : w_238 p1 p2 s K) (hK : ∀ (v0 : Int32) (s1 : ST), Fr fs94 s0 s1 → K v0 s1 → K' v0 s1) : w_238 p1 p2 s K' := by
  unfold w_238 at h ⊢
  exact (fm_w_190 _ _ (fr_rfl _ _) h (fun r2 s1 gs1 h1 => ⟨(fun c2 => (hK _ _ (fr_tr fsb_0_94 f gs1) (h1.1 c2))), (fun c3 => (fm_w_191 _ _ (fr_rfl _ _) (h1.2 c3) (fun r4 s3 gs3 h4 => ⟨(fun c5 => (hK _ _ (fr_tr fsb_0_94 (fr_tr fsb_0_94 f gs1) gs3) (h4.1 c5))), (fun c6 => ⟨(h4.2 c6).1, ⟨(fun c7 => ⟨((h4.2 c6).2.1 c7).1, (hK _ _ (fr_sA 67 (fr_tr fsb_0_94 (fr_tr fsb_0_94 f gs1) gs3)) ((h4.2 c6).2.1 c7).2)⟩), (fun c8 => (hK _ _ (fr_tr fsb_0_94 (fr_tr fsb_0_94 f gs1) gs3) ((h4.2 c6).2.2 c8)))⟩⟩)⟩)))⟩))
theorem fm_w_239 {s0 : ST} {K K' : Int32 → ST → Prop} (p1 : Int32) (p2 : Int32) (s : ST) (f : Fr fs92 s0 s) (h : w_239 p1 p2 s K) (hK : ∀ (v0 : Int32) (s1 : ST), Fr fs92 s0 s1 → K v0 s1 → K' v0 s1) : w_239 p1 p2 s K' := by
  unfold w_239 at h ⊢
  exact ⟨h.1, ⟨(fun c1 => (fm_w_236 _ _ (fr_rfl _ _) (h.2.1 c1) (fun r2 s1 gs1 h2 => ⟨(fun c3 => (hK _ _ (fr_tr fsb_92_92 f gs1) (h2.1 c3))), (fun c4 => (hK _ _ (fr_tr fsb_92_92 f gs1) (h2.2 c4)))⟩))), (fun c5 => ⟨(h.2.2 c5).1, ⟨(fun c6 => (hK _ _ f ((h.2.2 c5).2.1 c6))), (fun c7 => (fm_w_236 _ _ (fr_rfl _ _) ((h.2.2 c5).2.2 c7) (fun r4 s3 gs3 h8 => ⟨(fun c9 => (hK _ _ (fr_tr fsb_92_92 f gs3) (h8.1 c9))), (fun c10 => (hK _ _ (fr_tr fsb_92_92 f gs3) (h8.2 c10)))⟩)))⟩⟩)⟩⟩
theorem fm_w_240_L7 {s0 : ST} {X27 X27' : Int32 → ST → Prop} {K K' : Int32 → ST → Prop} (hX27 : ∀ (v0 : Int32) (s1 : ST), Fr fs93 s0 s1 → X27 v0 s1 → X27' v0 s1) (hK : ∀ (v0 : Int32) (s1 : ST), Fr fs93 s0 s1 → K v0 s1 → K' v0 s1) : ∀ (n : Nat) (x1 : Int32) (x2 : Int32) (x3 : Int32) (s : ST), Fr fs93 s0 s → w_240_L7 n x1 x2 x3 s X27 K → w_240_L7 n x1 x2 x3 s X27' K' := by
  intro n
  induction n with
  | zero => intro x1 x2 x3 s f h; exact h.elim
  | succ n ih =>
    intro x1 x2 x3 s f h
    rw [w_240_L7] at h
    rw [w_240_L7]
    exact ⟨(fun c1 => (hX27 _ _ f (h.1 c1))), (fun c2 => ⟨(h.2 c2).1, (fm_w_239 _ _ _ (fr_rfl _ _) (h.2 c2).2 (fun r4 s3 gs3 h3 => ⟨(fun c4 => (ih _ _ _ _ (fr_tr fsb_92_93 f gs3) (h3.1 c4))), (fun c5 => (ih _ _ _ _ (fr_tr fsb_92_93 f gs3) (h3.2 c5)))⟩))⟩)⟩
theorem fm_w_240 {s0 : ST} {K K' : Int32 → ST → Prop} (p1 : Int32) (s : ST) (f : Fr fs93 s0 s) (h : w_240 p1 s K) (hK : ∀ (v0 : Int32) (s1 : ST), Fr fs93 s0 s1 → K v0 s1 → K' v0 s1) : w_240 p1 s K' := by
  unfold w_240 at h ⊢
  exact (fm_w_197 _ _ (fr_rfl _ _) h (fun s1 gs1 h1 => (Exists.elim h1 (fun m e2 => ⟨m, (fm_w_240_L7 (fun y2 s5 gs5 h3 => (hK _ _ gs5 h3)) hK m _ _ _ _ (fr_tr fsb_72_93 f gs1) e2)⟩))))
theorem fm_w_241 {s0 : ST} {K K' : Int32 → ST → Prop} (p1 : Int32) (s : ST) (f : Fr fs93 s0 s) (h : w_241 p1 s K) (hK : ∀ (v0 : Int32) (s1 : ST), Fr fs93 s0 s1 → K v0 s1 → K' v0 s1) : w_241 p1 s K' := by
  unfold w_241 at h ⊢
  exact (fm_w_187 _ _ (fr_rfl _ _) h (fun r2 s1 gs1 h1 => ⟨(fun c2 => (hK _ _ (fr_tr fsb_0_93 f gs1) (h1.1 c2))), (fun c3 => (fm_w_240 _ _ (fr_rfl _ _) (h1.2 c3) (fun r4 s3 gs3 h4 => (hK _ _ (fr_tr fsb_93_93 (fr_tr fsb_0_93 f gs1) gs3) h4))))⟩))
theorem fm_w_242_L14 {s0 : ST} {X41 X41' : ST → Prop} {X30 X30' : Int32 → ST → Prop} {K K' : Int32 → ST → Prop} (hX41 : ∀ (s1 : ST), Fr fs93 s0 s1 → X41 s1 → X41' s1) (hX30 : ∀ (v0 : Int32) (s1 : ST), Fr fs93 s0 s1 → X30 v0 s1 → X30' v0 s1) (hK : ∀ (v0 : Int32) (s1 : ST), Fr fs93 s0 s1 → K v0 s1 → K' v0 s1) : ∀ (n : Nat) (x1 : Int32) (x2 : Int32) (x3 : Int32) (x4 : Int32) (s : ST), Fr fs93 s0 s → w_242_L14 n x1 x2 x3 x4 s X41 X30 K → w_242_L14 n x1 x2 x3 x4 s X41' X30' K' := by
  intro n
  induction n with
  | zero => intro x1 x2 x3 x4 s f h; exact h.elim
  | succ n ih =>
    intro x1 x2 x3 x4 s f h
    rw [w_242_L14] at h
    rw [w_242_L14]
    exact ⟨(fun c1 => (hX41 _ f (h.1 c1))), (fun c2 => ⟨(h.2 c2).1, (fm_w_239 _ _ _ (fr_rfl _ _) (h.2 c2).2 (fun r6 s5 gs5 h3 => ⟨(fun c4 => ⟨(fun c5 => (ih _ _ _ _ _ (fr_tr fsb_92_93 f gs5) ((h3.1 c4).1 c5))), (fun c6 => (hX30 _ _ (fr_tr fsb_92_93 f gs5) ((h3.1 c4).2 c6)))⟩), (fun c7 => (ih _ _ _ _ _ (fr_tr fsb_92_93 f gs5) (h3.2 c7)))⟩))⟩)⟩
theorem fm_w_242 {s0 : ST} {K K' : Int32 → ST → Prop} (p1 : Int32) (p2 : Int32) (s : ST) (f : Fr fs93 s0 s) (h : w_242 p1 p2 s K) (hK : ∀ (v0 : Int32) (s1 : ST), Fr fs93 s0 s1 → K v0 s1 → K' v0 s1) : w_242 p1 p2 s K' := by
  unfold w_242 at h ⊢
  exact (fm_w_187 _ _ (fr_rfl _ _) h (fun r2 s1 gs1 h1 => ⟨(fun c2 => (hK _ _ (fr_tr fsb_0_93 f gs1) (h1.1 c2))), (fun c3 => ⟨(fun c4 => (fm_w_197 _ _ (fr_rfl _ _) ((h1.2 c3).1 c4) (fun s3 gs3 h5 => (Exists.elim h5 (fun m e6 => ⟨m, (fm_w_242_L14 (fun s7 gs7 h7 => (hK _ _ gs7 h7)) (fun y4 s8 gs8 h8 => ⟨h8.1, (hK _ _ gs8 h8.2)⟩) hK m _ _ _ _ _ (fr_tr fsb_72_93 (fr_tr fsb_0_93 f gs1) gs3) e6)⟩))))), (fun c9 => (hK _ _ (fr_tr fsb_0_93 f gs1) ((h1.2 c3).2 c9)))⟩)⟩))
theorem fm_w_243 {s0 : ST} {K K' : Int32 → ST → Prop} (p1 : Int32) (s : ST) (f : Fr fs95 s0 s) (h : w_243 p1 s K) (hK : ∀ (v0 : Int32) (s1 : ST), Fr fs95 s0 s1 → K v0 s1 → K' v0 s1) : w_243 p1 s K' := by
  unfold w_243 at h ⊢
  exact (fm_w_191 _ _ (fr_rfl _ _) h (fun r2 s1 gs1 h1 => ⟨(fun c2 => (fm_w_240 _ _ (fr_rfl _ _) (h1.1 c2) (fun r4 s3 gs3 h3 => (hK _ _ (fr_sI 5552 (fr_tr fsb_93_95 (fr_sI 5552 (fr_tr fsb_0_95 f gs1)) gs3)) h3)))), (fun c4 => (hK _ _ (fr_tr fsb_0_95 f gs1) (h1.2 c4)))⟩))
theorem fm_w_244_L4 {s0 : ST} {X17 X17' : Int32 → ST → Prop} {K K' : Int32 → ST → Prop} (hX17 : ∀ (v0 : Int32) (s1 : ST), Fr fs0 s0 s1 → X17 v0 s1 → X17' v0 s1) (hK : ∀ (v0 : Int32) (s1 : ST), Fr fs0 s0 s1 → K v0 s1 → K' v0 s1) : ∀ (n : Nat) (x0 : Int32) (x1 : Int32) (x2 : Int32) (s : ST), Fr fs0 s0 s → w_244_L4 n x0 x1 x2 s X17 K → w_244_L4 n x0 x1 x2 s X17' K' := by
  intro n
  induction n with
  | zero => intro x0 x1 x2 s f h; exact h.elim
  | succ n ih =>
    intro x0 x1 x2 s f h
    rw [w_244_L4] at h
    rw [w_244_L4]
    exact ⟨(fun c1 => (hX17 _ _ f (h.1 c1))), (fun c2 => (ih _ _ _ _ f (h.2 c2)))⟩
theorem fm_w_244 {s0 : ST} {K K' : Int32 → ST → Prop} (p0 : Int32) (s : ST) (f : Fr fs0 s0 s) (h : w_244 p0 s K) (hK : ∀ (v0 : Int32) (s1 : ST), Fr fs0 s0 s1 → K v0 s1 → K' v0 s1) : w_244 p0 s K' := by
  unfold w_244 at h ⊢
  exact (Exists.elim h (fun m e1 => ⟨m, (fm_w_244_L4 (fun y1 s1 gs1 h2 => (hK _ _ gs1 h2)) hK m _ _ _ _ f e1)⟩))
theorem fm_w_245_L51 {s0 : ST} {X64 X64' : Int32 → Int32 → Int32 → Int32 → Int32 → ST → Prop} {X60 X60' : ST → Prop} {K K' : Int32 → ST → Prop} (hX64 : ∀ (v0 : Int32) (v1 : Int32) (v2 : Int32) (v3 : Int32) (v4 : Int32) (s1 : ST), Fr fs96 s0 s1 → X64 v0 v1 v2 v3 v4 s1 → X64' v0 v1 v2 v3 v4 s1) (hX60 : ∀ (s1 : ST), Fr fs96 s0 s1 → X60 s1 → X60' s1) (hK : ∀ (v0 : Int32) (s1 : ST), Fr fs96 s0 s1 → K v0 s1 → K' v0 s1) : ∀ (n : Nat) (x1 : Int32) (x2 : Int32) (x3 : Int32) (x4 : Int32) (x5 : Int32) (x6 : Int32) (s : ST), Fr fs96 s0 s → w_245_L51 n x1 x2 x3 x4 x5 x6 s X64 X60 K → w_245_L51 n x1 x2 x3 x4 x5 x6 s X64' X60' K' := by
  intro n
  induction n with
  | zero => intro x1 x2 x3 x4 x5 x6 s f h; exact h.elim
  | succ n ih =>
    intro x1 x2 x3 x4 x5 x6 s f h
    rw [w_245_L51] at h
    rw [w_245_L51]
    exact ⟨(fun c1 => (hX64 _ _ _ _ _ _ f (h.1 c1))), (fun c2 => ⟨(h.2 c2).1, ⟨(fun c3 => (ih _ _ _ _ _ _ _ f ((h.2 c2).2.1 c3))), (fun c4 => (hX60 _ f ((h.2 c2).2.2 c4)))⟩⟩)⟩
theorem fm_w_245_L27 {s0 : ST} {X78 X78' : Int32 → Int32 → Int32 → ST → Prop} {X47 X47' : ST → Prop} {X60 X60' : ST → Prop} {K K' : Int32 → ST → Prop} (hX78 : ∀ (v0 : Int32) (v1 : Int32) (v2 : Int32) (s1 : ST), Fr fs96 s0 s1 → X78 v0 v1 v2 s1 → X78' v0 v1 v2 s1) (hX47 : ∀ (s1 : ST), Fr fs96 s0 s1 → X47 s1 → X47' s1) (hX60 : ∀ (s1 : ST), Fr fs96 s0 s1 → X60 s1 → X60' s1) (hK : ∀ (v0 : Int32) (s1 : ST), Fr fs96 s0 s1 → K v0 s1 → K' v0 s1) : ∀ (n : Nat) (x1 : Int32) (x2 : Int32) (x3 : Int32) (x4 : Int32) (s : ST), Fr fs96 s0 s → w_245_L27 n x1 x2 x3 x4 s X78 X47 X60 K → w_245_L27 n x1 x2 x3 x4 s X78' X47' X60' K' := by
  intro n
  induction n with
  | zero => intro x1 x2 x3 x4 s f h; exact h.elim
  | succ n ih =>
    intro x1 x2 x3 x4 s f h
    rw [w_245_L27] at h
    rw [w_245_L27]
    exact ⟨(fun c1 => (hX78 _ _ _ _ f (h.1 c1))), (fun c2 => ⟨(h.2 c2).1, (fm_w_190 _ _ (fr_rfl _ _) (h.2 c2).2 (fun r8 s7 gs7 h3 => ⟨(fun c4 => (hX47 _ (fr_tr fsb_0_96 f gs7) (h3.1 c4))), (fun c5 => ⟨(h3.2 c5).1, ⟨(fun c6 => (Exists.elim ((h3.2 c5).2.1 c6) (fun m e7 => ⟨m, (fm_w_245_L51 (fun y1 y2 y3 y4 y5 s9 gs9 h8 => ⟨h8.1, ⟨h8.2.1, (ih _ _ _ _ _ (fr_sA 95 gs9) h8.2.2)⟩⟩) (fun s10 gs10 h9 => (hX60 _ gs10 h9)) hK m _ _ _ _ _ _ _ (fr_tr fsb_0_96 f gs7) e7)⟩))), (fun c10 => (hX47 _ (fr_tr fsb_0_96 f gs7) ((h3.2 c5).2.2 c10)))⟩⟩)⟩))⟩)⟩
theorem fm_w_245_L91 {s0 : ST} {X115 X115' : Int32 → Int32 → Int32 → Int32 → Int32 → Int32 → ST → Prop} {K K' : Int32 → ST → Prop} (hX115 : ∀ (v0 : Int32) (v1 : Int32) (v2 : Int32) (v3 : Int32) (v4 : Int32) (v5 : Int32) (s1 : ST), Fr fs96 s0 s1 → X115 v0 v1 v2 v3 v4 v5 s1 → X115' v0 v1 v2 v3 v4 v5 s1) (hK : ∀ (v0 : Int32) (s1 : ST), Fr fs96 s0 s1 → K v0 s1 → K' v0 s1) : ∀ (n : Nat) (x1 : Int32) (x2 : Int32) (x3 : Int32) (x4 : Int32) (x5 : Int32) (x6 : Int32) (x7 : Int32) (s : ST), Fr fs96 s0 s → w_245_L91 n x1 x2 x3 x4 x5 x6 x7 s X115 K → w_245_L91 n x1 x2 x3 x4 x5 x6 x7 s X115' K' := by
  intro n
  induction n with
  | zero => intro x1 x2 x3 x4 x5 x6 x7 s f h; exact h.elim
  | succ n ih =>
    intro x1 x2 x3 x4 x5 x6 x7 s f h
    rw [w_245_L91] at h
    rw [w_245_L91]
    exact ⟨(fun c1 => (hX115 _ _ _ _ _ _ _ f (h.1 c1))), (fun c2 => ⟨(fun c3 => (ih _ _ _ _ _ _ _ _ f ((h.2 c2).1 c3))), (fun c4 => ⟨((h.2 c2).2 c4).1, ⟨((h.2 c2).2 c4).2.1, (ih _ _ _ _ _ _ _ _ f ((h.2 c2).2 c4).2.2)⟩⟩)⟩)⟩
theorem fm_w_245_L82 {s0 : ST} {X132 X132' : Int32 → ST → Prop} {K K' : Int32 → ST → Prop} (hX132 : ∀ (v0 : Int32) (s1 : ST), Fr fs96 s0 s1 → X132 v0 s1 → X132' v0 s1) (hK : ∀ (v0 : Int32) (s1 : ST), Fr fs96 s0 s1 → K v0 s1 → K' v0 s1) : ∀ (n : Nat) (x1 : Int32) (x2 : Int32) (x3 : Int32) (x4 : Int32) (x5 : Int32) (s : ST), Fr fs96 s0 s → w_245_L82 n x1 x2 x3 x4 x5 s X132 K → w_245_L82 n x1 x2 x3 x4 x5 s X132' K' := by
  intro n
  induction n with
  | zero => intro x1 x2 x3 x4 x5 s f h; exact h.elim
  | succ n ih =>
    intro x1 x2 x3 x4 x5 s f h
    rw [w_245_L82] at h
    rw [w_245_L82]
    exact ⟨(fun c1 => (hX132 _ _ f (h.1 c1))), (fun c2 => (Exists.elim (h.2 c2) (fun m e3 => ⟨m, (fm_w_245_L91 (fun y1 y2 y3 y4 y5 y6 s12 gs12 h4 => ⟨(fun c5 => (ih _ _ _ _ _ _ gs12 (h4.1 c5))), (fun c6 => ⟨(fun c7 => (ih _ _ _ _ _ _ gs12 ((h4.2 c6).1 c7))), (fun c8 => (fm_w_244 _ _ (fr_rfl _ _) ((h4.2 c6).2 c8) (fun r14 s13 gs13 h9 => (fm_w_244 _ _ (fr_rfl _ _) h9 (fun r16 s15 gs15 h10 => ⟨(fun c11 => (ih _ _ _ _ _ _ (fr_tr fsb_0_96 (fr_tr fsb_0_96 gs12 gs13) gs15) (h10.1 c11))), (fun c12 => (ih _ _ _ _ _ _ (fr_tr fsb_0_96 (fr_tr fsb_0_96 gs12 gs13) gs15) (h10.2 c12)))⟩)))))⟩)⟩) hK m _ _ _ _ _ _ _ _ f e3)⟩)))⟩
theorem fm_w_245 {s0 : ST} {K K' : Int32 → ST → Prop} (p1 : Int32) (p2 : Int32) (s : ST) (f : Fr fs96 s0 s) (h : w_245 p1 p2 s K) (hK : ∀ (v0 : Int32) (s1 : ST), Fr fs96 s0 s1 → K v0 s1 → K' v0 s1) : w_245 p1 p2 s K' := by
  unfold w_245 at h ⊢
  exact (fm_w_186 _ _ _ _ (fr_rfl _ _) h (fun r2 s1 gs1 h1 => ⟨(fun c2 => (hK _ _ (fr_tr fsb_0_96 f gs1) (h1.1 c2))), (fun c3 => (fm_w_186 _ _ _ _ (fr_rfl _ _) (h1.2 c3) (fun r4 s3 gs3 h4 => ⟨(fun c5 => (hK _ _ (fr_tr fsb_0_96 (fr_tr fsb_0_96 f gs1) gs3) (h4.1 c5))), (fun c6 => ⟨(fun c7 => (fm_w_197 _ _ (fr_rfl _ _) ((h4.2 c6).1 c7) (fun s5 gs5 h8 => (Exists.elim h8 (fun m e9 => ⟨m, (fm_w_245_L27 (fun y1 y2 y3 s11 gs11 h10 => (Exists.elim h10 (fun m e11 => ⟨m, (fm_w_245_L82 (fun y4 s17 gs17 h12 => ⟨(fun c13 => (hK _ _ gs17 (h12.1 c13))), (fun c14 => (hK _ _ gs17 (h12.2 c14)))⟩) hK m _ _ _ _ _ _ gs11 e11)⟩))) (fun s18 gs18 h15 => (hK _ _ gs18 h15)) (fun s19 gs19 h16 => (hK _ _ gs19 h16)) hK m _ _ _ _ _ (fr_tr fsb_72_96 (fr_sI 5525 (fr_tr fsb_0_96 (fr_tr fsb_0_96 f gs1) gs3)) gs5) e9)⟩))))), (fun c17 => (hK _ _ (fr_tr fsb_0_96 (fr_tr fsb_0_96 f gs1) gs3) ((h4.2 c6).2 c17)))⟩)⟩)))⟩))
theorem fm_w_246 {s0 : ST} {K K' : ST → Prop} (p1 : Int32) (p2 : Int32) (p3 : Int32) (s : ST) (f : Fr fs97 s0 s) (h : w_246 p1 p2 p3 s K) (hK : ∀ (s1 : ST), Fr fs97 s0 s1 → K s1 → K' s1) : w_246 p1 p2 p3 s K' := by
  unfold w_246 at h ⊢
  exact ⟨h.1, ⟨h.2.1, ⟨h.2.2.1, ⟨h.2.2.2.1, (hK _ (fr_sA 99 (fr_sA 98 (fr_sA 97 (fr_sA 96 (fr_sI 5558 f))))) h.2.2.2.2)⟩⟩⟩⟩
theorem fm_w_247 {s0 : ST} {K K' : Int32 → ST → Prop} (s : ST) (f : Fr fs98 s0 s) (h : w_247  s K) (hK : ∀ (v0 : Int32) (s1 : ST), Fr fs98 s0 s1 → K v0 s1 → K' v0 s1) : w_247  s K' := by
  unfold w_247 at h ⊢
  exact (hK _ _ (fr_sI 5557 f) h)
theorem fm_w_248_L8 {s0 : ST} {X28 X28' : ST → Prop} {K K' : ST → Prop} (hX28 : ∀ (s1 : ST), Fr fs99 s0 s1 → X28 s1 → X28' s1) (hK : ∀ (s1 : ST), Fr fs99 s0 s1 → K s1 → K' s1) : ∀ (n : Nat) (x1 : Int32) (s : ST), Fr fs99 s0 s → w_248_L8 n x1 s X28 K → w_248_L8 n x1 s X28' K' := by
  intro n
  induction n with
  | zero => intro x1 s f h; exact h.elim
  | succ n ih =>
    intro x1 s f h
    rw [w_248_L8] at h
    rw [w_248_L8]
    exact ⟨(fun c1 => (hX28 _ f (h.1 c1))), (fun c2 => (fm_w_247 _ (fr_rfl _ _) (h.2 c2) (fun r2 s1 gs1 h3 => ⟨h3.1, ⟨h3.2.1, ⟨h3.2.2.1, (ih _ _ (fr_sA 102 (fr_sA 101 (fr_tr fsb_98_99 f gs1))) h3.2.2.2)⟩⟩⟩)))⟩
theorem fm_w_248_L30 {s0 : ST} {X191 X191' : ST → Prop} {K K' : ST → Prop} (hX191 : ∀ (s1 : ST), Fr fs99 s0 s1 → X191 s1 → X191' s1) (hK : ∀ (s1 : ST), Fr fs99 s0 s1 → K s1 → K' s1) : ∀ (n : Nat) (x1 : Int32) (s : ST), Fr fs99 s0 s → w_248_L30 n x1 s X191 K → w_248_L30 n x1 s X191' K' := by
  intro n
  induction n with
  | zero => intro x1 s f h; exact h.elim
  | succ n ih =>
    intro x1 s f h
    rw [w_248_L30] at h
    rw [w_248_L30]
    exact ⟨(fun c1 => (hX191 _ f (h.1 c1))), (fun c2 => ⟨(h.2 c2).1, ⟨(h.2 c2).2.1, ⟨(h.2 c2).2.2.1, ⟨(fun c3 => ⟨((h.2 c2).2.2.2.1 c3).1, ⟨(fun c4 => ⟨(((h.2 c2).2.2.2.1 c3).2.1 c4).1, ⟨(((h.2 c2).2.2.2.1 c3).2.1 c4).2.1, ⟨(fun c5 => ⟨((((h.2 c2).2.2.2.1 c3).2.1 c4).2.2.1 c5).1, ⟨((((h.2 c2).2.2.2.1 c3).2.1 c4).2.2.1 c5).2.1, (fm_w_247 _ (fr_rfl _ _) ((((h.2 c2).2.2.2.1 c3).2.1 c4).2.2.1 c5).2.2 (fun r5 s4 gs4 h6 => ⟨h6.1, ⟨h6.2.1, ⟨h6.2.2.1, (fm_w_246 _ _ _ _ (fr_rfl _ _) h6.2.2.2 (fun s6 gs6 h7 => ⟨h7.1, ⟨h7.2.1, ⟨h7.2.2.1, ⟨(fun c8 => ⟨(h7.2.2.2.1 c8).1, ⟨(h7.2.2.2.1 c8).2.1, (fm_w_247 _ (fr_rfl _ _) (h7.2.2.2.1 c8).2.2 (fun r9 s8 gs8 h9 => ⟨h9.1, ⟨h9.2.1, ⟨h9.2.2.1, (fm_w_246 _ _ _ _ (fr_rfl _ _) h9.2.2.2 (fun s10 gs10 h10 => ⟨h10.1, ⟨h10.2.1, (fm_w_246 _ _ _ _ (fr_rfl _ _) h10.2.2 (fun s12 gs12 h11 => ⟨h11.1, ⟨h11.2.1, ⟨h11.2.2.1, (ih _ _ (fr_sA 102 (fr_tr fsb_97_99 (fr_tr fsb_97_99 (fr_sA 101 (fr_tr fsb_98_99 (fr_sA 102 (fr_tr fsb_97_99 (fr_sA 101 (fr_tr fsb_98_99 f gs4)) gs6)) gs8)) gs10) gs12)) h11.2.2.2)⟩⟩⟩))⟩⟩))⟩⟩⟩))⟩⟩), (fun c12 => ⟨(h7.2.2.2.2 c12).1, (fm_w_246 _ _ _ _ (fr_rfl _ _) (h7.2.2.2.2 c12).2 (fun s14 gs14 h13 => (ih _ _ (fr_tr fsb_97_99 (fr_sA 102 (fr_tr fsb_97_99 (fr_sA 101 (fr_tr fsb_98_99 f gs4)) gs6)) gs14) h13)))⟩)⟩⟩⟩⟩))⟩⟩⟩))⟩⟩), (fun c14 => ⟨((((h.2 c2).2.2.2.1 c3).2.1 c4).2.2.2 c14).1, ⟨((((h.2 c2).2.2.2.1 c3).2.1 c4).2.2.2 c14).2.1, (fm_w_247 _ (fr_rfl _ _) ((((h.2 c2).2.2.2.1 c3).2.1 c4).2.2.2 c14).2.2 (fun r17 s16 gs16 h15 => ⟨h15.1, ⟨h15.2.1, ⟨h15.2.2.1, (fm_w_246 _ _ _ _ (fr_rfl _ _) h15.2.2.2 (fun s18 gs18 h16 => ⟨h16.1, ⟨h16.2.1, ⟨h16.2.2.1, ⟨(fun c17 => ⟨(h16.2.2.2.1 c17).1, ⟨(h16.2.2.2.1 c17).2.1, (fm_w_247 _ (fr_rfl _ _) (h16.2.2.2.1 c17).2.2 (fun r21 s20 gs20 h18 => ⟨h18.1, ⟨h18.2.1, ⟨h18.2.2.1, (fm_w_246 _ _ _ _ (fr_rfl _ _) h18.2.2.2 (fun s22 gs22 h19 => ⟨h19.1, ⟨h19.2.1, (fm_w_246 _ _ _ _ (fr_rfl _ _) h19.2.2 (fun s24 gs24 h20 => ⟨h20.1, ⟨h20.2.1, ⟨h20.2.2.1, (ih _ _ (fr_sA 102 (fr_tr fsb_97_99 (fr_tr fsb_97_99 (fr_sA 101 (fr_tr fsb_98_99 (fr_sA 102 (fr_tr fsb_97_99 (fr_sA 101 (fr_tr fsb_98_99 f gs16)) gs18)) gs20)) gs22) gs24)) h20.2.2.2)⟩⟩⟩))⟩⟩))⟩⟩⟩))⟩⟩), (fun c21 => ⟨(h16.2.2.2.2 c21).1, (fm_w_246 _ _ _ _ (fr_rfl _ _) (h16.2.2.2.2 c21).2 (fun s26 gs26 h22 => (ih _ _ (fr_tr fsb_97_99 (fr_sA 102 (fr_tr fsb_97_99 (fr_sA 101 (fr_tr fsb_98_99 f gs16)) gs18)) gs26) h22)))⟩)⟩⟩⟩⟩))⟩⟩⟩))⟩⟩)⟩⟩⟩), (fun c23 => ⟨(((h.2 c2).2.2.2.1 c3).2.2 c23).1, ⟨(((h.2 c2).2.2.2.1 c3).2.2 c23).2.1, ⟨(((h.2 c2).2.2.2.1 c3).2.2 c23).2.2.1, (ih _ _ (fr_sA 102 f) (((h.2 c2).2.2.2.1 c3).2.2 c23).2.2.2)⟩⟩⟩)⟩⟩), (fun c24 => (ih _ _ f ((h.2 c2).2.2.2.2 c24)))⟩⟩⟩⟩)⟩
theorem fm_w_248 {s0 : ST} {K K' : ST → Prop} (s : ST) (f : Fr fs99 s0 s) (h : w_248  s K) (hK : ∀ (s1 : ST), Fr fs99 s0 s1 → K s1 → K' s1) : w_248  s K' := by
  unfold w_248 at h ⊢
  exact (Exists.elim h (fun m e1 => ⟨m, (fm_w_248_L8 (fun s3 gs3 h2 => (Exists.elim h2 (fun m e3 => ⟨m, (fm_w_248_L30 (fun s28 gs28 h4 => (hK _ gs28 h4)) hK m _ _ gs3 e3)⟩))) hK m _ _ (fr_sI 5558 (fr_sI 5557 f)) e1)⟩))
theorem fm_w_249_L2 {s0 : ST} {X13 X13' : Int32 → Int32 → Int32 → ST → Prop} {K K' : Int32 → ST → Prop} (hX13 : ∀ (v0 : Int32) (v1 : Int32) (v2 : Int32) (s1 : ST), Fr fs100 s0 s1 → X13 v0 v1 v2 s1 → X13' v0 v1 v2 s1) (hK : ∀ (v0 : Int32) (s1 : ST), Fr fs100 s0 s1 → K v0 s1 → K' v0 s1) : ∀ (n : Nat) (x1 : Int32) (x2 : Int32) (x3 : Int32) (x4 : Int32) (s : ST), Fr fs100 s0 s → w_249_L2 n x1 x2 x3 x4 s X13 K → w_249_L2 n x1 x2 x3 x4 s X13' K' := by
  intro n
  induction n with
  | zero => intro x1 x2 x3 x4 s f h; exact h.elim
  | succ n ih =>
    intro x1 x2 x3 x4 s f h
    rw [w_249_L2] at h
    rw [w_249_L2]
    exact ⟨(fun c1 => (hX13 _ _ _ _ f (h.1 c1))), (fun c2 => ⟨(h.2 c2).1, (ih _ _ _ _ _ (fr_sA 100 f) (h.2 c2).2)⟩)⟩
