/-! ===== frames, printed by wip/whole/genfm.py ===== -/
theorem fm_w_249_L33 {s0 : ST} {X109 X109' : Int32 → Int32 → Int32 → Int32 → ST → Prop} {K K' : Int32 → ST → Prop} (hX109 : ∀ (v0 : Int32) (v1 : Int32) (v2 : Int32) (v3 : Int32) (s1 : ST), Fr fs100 s0 s1 → X109 v0 v1 v2 v3 s1 → X109' v0 v1 v2 v3 s1) (hK : ∀ (v0 : Int32) (s1 : ST), Fr fs100 s0 s1 → K v0 s1 → K' v0 s1) : ∀ (n : Nat) (x1 : Int32) (x2 : Int32) (x3 : Int32) (x4 : Int32) (x5 : Int32) (s : ST), Fr fs100 s0 s → w_249_L33 n x1 x2 x3 x4 x5 s X109 K → w_249_L33 n x1 x2 x3 x4 x5 s X109' K' := by
  intro n
  induction n with
  | zero => intro x1 x2 x3 x4 x5 s f h; exact h.elim
  | succ n ih =>
    intro x1 x2 x3 x4 x5 s f h
    rw [w_249_L33] at h
    rw [w_249_L33]
    exact ⟨(fun c1 => (hX109 _ _ _ _ _ f (h.1 c1))), (fun c2 => ⟨(h.2 c2).1, ⟨(h.2 c2).2.1, ⟨(fun c3 => ⟨((h.2 c2).2.2.1 c3).1, ⟨((h.2 c2).2.2.1 c3).2.1, ⟨(fun c4 => (ih _ _ _ _ _ _ f (((h.2 c2).2.2.1 c3).2.2.1 c4))), (fun c5 => ⟨(((h.2 c2).2.2.1 c3).2.2.2 c5).1, ⟨(((h.2 c2).2.2.1 c3).2.2.2 c5).2.1, ⟨(fun c6 => (ih _ _ _ _ _ _ f ((((h.2 c2).2.2.1 c3).2.2.2 c5).2.2.1 c6))), (fun c7 => ⟨((((h.2 c2).2.2.1 c3).2.2.2 c5).2.2.2 c7).1, ⟨(fun c8 => (ih _ _ _ _ _ _ f (((((h.2 c2).2.2.1 c3).2.2.2 c5).2.2.2 c7).2.1 c8))), (fun c9 => ⟨(((((h.2 c2).2.2.1 c3).2.2.2 c5).2.2.2 c7).2.2 c9).1, ⟨(((((h.2 c2).2.2.1 c3).2.2.2 c5).2.2.2 c7).2.2 c9).2.1, (ih _ _ _ _ _ _ (fr_sA 100 f) (((((h.2 c2).2.2.1 c3).2.2.2 c5).2.2.2 c7).2.2 c9).2.2)⟩⟩)⟩⟩)⟩⟩⟩)⟩⟩⟩), (fun c10 => ⟨((h.2 c2).2.2.2 c10).1, ⟨((h.2 c2).2.2.2 c10).2.1, ⟨(fun c11 => ⟨(((h.2 c2).2.2.2 c10).2.2.1 c11).1, ⟨(((h.2 c2).2.2.2 c10).2.2.1 c11).2.1, ⟨(fun c12 => (ih _ _ _ _ _ _ f ((((h.2 c2).2.2.2 c10).2.2.1 c11).2.2.1 c12))), (fun c13 => ⟨((((h.2 c2).2.2.2 c10).2.2.1 c11).2.2.2 c13).1, ⟨((((h.2 c2).2.2.2 c10).2.2.1 c11).2.2.2 c13).2.1, ⟨(fun c14 => (ih _ _ _ _ _ _ f (((((h.2 c2).2.2.2 c10).2.2.1 c11).2.2.2 c13).2.2.1 c14))), (fun c15 => ⟨(((((h.2 c2).2.2.2 c10).2.2.1 c11).2.2.2 c13).2.2.2 c15).1, ⟨(fun c16 => (ih _ _ _ _ _ _ f ((((((h.2 c2).2.2.2 c10).2.2.1 c11).2.2.2 c13).2.2.2 c15).2.1 c16))), (fun c17 => ⟨((((((h.2 c2).2.2.2 c10).2.2.1 c11).2.2.2 c13).2.2.2 c15).2.2 c17).1, ⟨((((((h.2 c2).2.2.2 c10).2.2.1 c11).2.2.2 c13).2.2.2 c15).2.2 c17).2.1, (ih _ _ _ _ _ _ (fr_sA 100 f) ((((((h.2 c2).2.2.2 c10).2.2.1 c11).2.2.2 c13).2.2.2 c15).2.2 c17).2.2)⟩⟩)⟩⟩)⟩⟩⟩)⟩⟩⟩), (fun c18 => ⟨(((h.2 c2).2.2.2 c10).2.2.2 c18).1, ⟨(((h.2 c2).2.2.2 c10).2.2.2 c18).2.1, ⟨(fun c19 => ⟨((((h.2 c2).2.2.2 c10).2.2.2 c18).2.2.1 c19).1, ⟨((((h.2 c2).2.2.2 c10).2.2.2 c18).2.2.1 c19).2.1, ⟨(fun c20 => (ih _ _ _ _ _ _ f (((((h.2 c2).2.2.2 c10).2.2.2 c18).2.2.1 c19).2.2.1 c20))), (fun c21 => ⟨(((((h.2 c2).2.2.2 c10).2.2.2 c18).2.2.1 c19).2.2.2 c21).1, ⟨(((((h.2 c2).2.2.2 c10).2.2.2 c18).2.2.1 c19).2.2.2 c21).2.1, ⟨(fun c22 => (ih _ _ _ _ _ _ f ((((((h.2 c2).2.2.2 c10).2.2.2 c18).2.2.1 c19).2.2.2 c21).2.2.1 c22))), (fun c23 => ⟨((((((h.2 c2).2.2.2 c10).2.2.2 c18).2.2.1 c19).2.2.2 c21).2.2.2 c23).1, ⟨(fun c24 => (ih _ _ _ _ _ _ f (((((((h.2 c2).2.2.2 c10).2.2.2 c18).2.2.1 c19).2.2.2 c21).2.2.2 c23).2.1 c24))), (fun c25 => ⟨(((((((h.2 c2).2.2.2 c10).2.2.2 c18).2.2.1 c19).2.2.2 c21).2.2.2 c23).2.2 c25).1, ⟨(((((((h.2 c2).2.2.2 c10).2.2.2 c18).2.2.1 c19).2.2.2 c21).2.2.2 c23).2.2 c25).2.1, (ih _ _ _ _ _ _ (fr_sA 100 f) (((((((h.2 c2).2.2.2 c10).2.2.2 c18).2.2.1 c19).2.2.2 c21).2.2.2 c23).2.2 c25).2.2)⟩⟩)⟩⟩)⟩⟩⟩)⟩⟩⟩), (fun c26 => ⟨((((h.2 c2).2.2.2 c10).2.2.2 c18).2.2.2 c26).1, ⟨((((h.2 c2).2.2.2 c10).2.2.2 c18).2.2.2 c26).2.1, ⟨((((h.2 c2).2.2.2 c10).2.2.2 c18).2.2.2 c26).2.2.1, ⟨((((h.2 c2).2.2.2 c10).2.2.2 c18).2.2.2 c26).2.2.2.1, ⟨(fun c27 => (ih _ _ _ _ _ _ (fr_sA 100 f) (((((h.2 c2).2.2.2 c10).2.2.2 c18).2.2.2 c26).2.2.2.2.1 c27))), (fun c28 => ⟨(((((h.2 c2).2.2.2 c10).2.2.2 c18).2.2.2 c26).2.2.2.2.2 c28).1, ⟨(((((h.2 c2).2.2.2 c10).2.2.2 c18).2.2.2 c26).2.2.2.2.2 c28).2.1, ⟨(fun c29 => (ih _ _ _ _ _ _ (fr_sA 100 f) ((((((h.2 c2).2.2.2 c10).2.2.2 c18).2.2.2 c26).2.2.2.2.2 c28).2.2.1 c29))), (fun c30 => ⟨((((((h.2 c2).2.2.2 c10).2.2.2 c18).2.2.2 c26).2.2.2.2.2 c28).2.2.2 c30).1, ⟨(fun c31 => (ih _ _ _ _ _ _ (fr_sA 100 f) (((((((h.2 c2).2.2.2 c10).2.2.2 c18).2.2.2 c26).2.2.2.2.2 c28).2.2.2 c30).2.1 c31))), (fun c32 => ⟨(((((((h.2 c2).2.2.2 c10).2.2.2 c18).2.2.2 c26).2.2.2.2.2 c28).2.2.2 c30).2.2 c32).1, ⟨(((((((h.2 c2).2.2.2 c10).2.2.2 c18).2.2.2 c26).2.2.2.2.2 c28).2.2.2 c30).2.2 c32).2.1, (ih _ _ _ _ _ _ (fr_sA 100 f) (((((((h.2 c2).2.2.2 c10).2.2.2 c18).2.2.2 c26).2.2.2.2.2 c28).2.2.2 c30).2.2 c32).2.2)⟩⟩)⟩⟩)⟩⟩⟩)⟩⟩⟩⟩⟩)⟩⟩⟩)⟩⟩⟩)⟩⟩⟩)⟩
theorem fm_w_249_L21 {s0 : ST} {X110 X110' : Int32 → Int32 → Int32 → ST → Prop} {K K' : Int32 → ST → Prop} (hX110 : ∀ (v0 : Int32) (v1 : Int32) (v2 : Int32) (s1 : ST), Fr fs100 s0 s1 → X110 v0 v1 v2 s1 → X110' v0 v1 v2 s1) (hK : ∀ (v0 : Int32) (s1 : ST), Fr fs100 s0 s1 → K v0 s1 → K' v0 s1) : ∀ (n : Nat) (x1 : Int32) (x2 : Int32) (x3 : Int32) (x4 : Int32) (s : ST), Fr fs100 s0 s → w_249_L21 n x1 x2 x3 x4 s X110 K → w_249_L21 n x1 x2 x3 x4 s X110' K' := by
  intro n
  induction n with
  | zero => intro x1 x2 x3 x4 s f h; exact h.elim
  | succ n ih =>
    intro x1 x2 x3 x4 s f h
    rw [w_249_L21] at h
    rw [w_249_L21]
    exact ⟨(fun c1 => (hX110 _ _ _ _ f (h.1 c1))), (fun c2 => ⟨(h.2 c2).1, ⟨(fun c3 => (hX110 _ _ _ _ f ((h.2 c2).2.1 c3))), (fun c4 => (Exists.elim ((h.2 c2).2.2 c4) (fun m e5 => ⟨m, (fm_w_249_L33 (fun y1 y2 y3 y4 s2 gs2 h6 => (ih _ _ _ _ _ gs2 h6)) hK m _ _ _ _ _ _ f e5)⟩)))⟩⟩)⟩
theorem fm_w_249_L122 {s0 : ST} {X175 X175' : Int32 → Int32 → Int32 → ST → Prop} {K K' : Int32 → ST → Prop} (hX175 : ∀ (v0 : Int32) (v1 : Int32) (v2 : Int32) (s1 : ST), Fr fs100 s0 s1 → X175 v0 v1 v2 s1 → X175' v0 v1 v2 s1) (hK : ∀ (v0 : Int32) (s1 : ST), Fr fs100 s0 s1 → K v0 s1 → K' v0 s1) : ∀ (n : Nat) (x1 : Int32) (x2 : Int32) (x5 : Int32) (x6 : Int32) (s : ST), Fr fs100 s0 s → w_249_L122 n x1 x2 x5 x6 s X175 K → w_249_L122 n x1 x2 x5 x6 s X175' K' := by
  intro n
  induction n with
  | zero => intro x1 x2 x5 x6 s f h; exact h.elim
  | succ n ih =>
    intro x1 x2 x5 x6 s f h
    rw [w_249_L122] at h
    rw [w_249_L122]
    exact ⟨(fun c1 => (hX175 _ _ _ _ f (h.1 c1))), (fun c2 => ⟨(h.2 c2).1, ⟨(h.2 c2).2.1, ⟨(fun c3 => ⟨((h.2 c2).2.2.1 c3).1, ⟨(fun c4 => ⟨(((h.2 c2).2.2.1 c3).2.1 c4).1, ⟨(fun c5 => ⟨((((h.2 c2).2.2.1 c3).2.1 c4).2.1 c5).1, (ih _ _ _ _ _ f ((((h.2 c2).2.2.1 c3).2.1 c4).2.1 c5).2)⟩), (fun c6 => ⟨((((h.2 c2).2.2.1 c3).2.1 c4).2.2 c6).1, (ih _ _ _ _ _ f ((((h.2 c2).2.2.1 c3).2.1 c4).2.2 c6).2)⟩)⟩⟩), (fun c7 => ⟨(((h.2 c2).2.2.1 c3).2.2 c7).1, ⟨(fun c8 => ⟨((((h.2 c2).2.2.1 c3).2.2 c7).2.1 c8).1, (ih _ _ _ _ _ f ((((h.2 c2).2.2.1 c3).2.2 c7).2.1 c8).2)⟩), (fun c9 => ⟨((((h.2 c2).2.2.1 c3).2.2 c7).2.2 c9).1, (ih _ _ _ _ _ f ((((h.2 c2).2.2.1 c3).2.2 c7).2.2 c9).2)⟩)⟩⟩)⟩⟩), (fun c10 => ⟨((h.2 c2).2.2.2 c10).1, ⟨((h.2 c2).2.2.2 c10).2.1, ⟨(fun c11 => ⟨(((h.2 c2).2.2.2 c10).2.2.1 c11).1, ⟨(fun c12 => ⟨((((h.2 c2).2.2.2 c10).2.2.1 c11).2.1 c12).1, (ih _ _ _ _ _ f ((((h.2 c2).2.2.2 c10).2.2.1 c11).2.1 c12).2)⟩), (fun c13 => ⟨((((h.2 c2).2.2.2 c10).2.2.1 c11).2.2 c13).1, (ih _ _ _ _ _ f ((((h.2 c2).2.2.2 c10).2.2.1 c11).2.2 c13).2)⟩)⟩⟩), (fun c14 => ⟨(((h.2 c2).2.2.2 c10).2.2.2 c14).1, ⟨(fun c15 => ⟨((((h.2 c2).2.2.2 c10).2.2.2 c14).2.1 c15).1, (ih _ _ _ _ _ f ((((h.2 c2).2.2.2 c10).2.2.2 c14).2.1 c15).2)⟩), (fun c16 => ⟨((((h.2 c2).2.2.2 c10).2.2.2 c14).2.2 c16).1, (ih _ _ _ _ _ f ((((h.2 c2).2.2.2 c10).2.2.2 c14).2.2 c16).2)⟩)⟩⟩)⟩⟩⟩)⟩⟩⟩)⟩
theorem fm_w_249_L177 {s0 : ST} {X227 X227' : Int32 → ST → Prop} {K K' : Int32 → ST → Prop} (hX227 : ∀ (v0 : Int32) (s1 : ST), Fr fs100 s0 s1 → X227 v0 s1 → X227' v0 s1) (hK : ∀ (v0 : Int32) (s1 : ST), Fr fs100 s0 s1 → K v0 s1 → K' v0 s1) : ∀ (n : Nat) (x1 : Int32) (x5 : Int32) (x6 : Int32) (s : ST), Fr fs100 s0 s → w_249_L177 n x1 x5 x6 s X227 K → w_249_L177 n x1 x5 x6 s X227' K' := by
  intro n
  induction n with
  | zero => intro x1 x5 x6 s f h; exact h.elim
  | succ n ih =>
    intro x1 x5 x6 s f h
    rw [w_249_L177] at h
    rw [w_249_L177]
    exact ⟨(fun c1 => (hX227 _ _ f (h.1 c1))), (fun c2 => ⟨(h.2 c2).1, ⟨(h.2 c2).2.1, ⟨(fun c3 => ⟨((h.2 c2).2.2.1 c3).1, ⟨((h.2 c2).2.2.1 c3).2.1, ⟨((h.2 c2).2.2.1 c3).2.2.1, (ih _ _ _ _ (fr_sA 99 f) ((h.2 c2).2.2.1 c3).2.2.2)⟩⟩⟩), (fun c4 => ⟨((h.2 c2).2.2.2 c4).1, ⟨((h.2 c2).2.2.2 c4).2.1, ⟨((h.2 c2).2.2.2 c4).2.2.1, (ih _ _ _ _ (fr_sA 99 f) ((h.2 c2).2.2.2 c4).2.2.2)⟩⟩⟩)⟩⟩⟩)⟩
theorem fm_w_249 {s0 : ST} {K K' : Int32 → ST → Prop} (p1 : Int32) (p2 : Int32) (p3 : Int32) (s : ST) (f : Fr fs100 s0 s) (h : w_249 p1 p2 p3 s K) (hK : ∀ (v0 : Int32) (s1 : ST), Fr fs100 s0 s1 → K v0 s1 → K' v0 s1) : w_249 p1 p2 p3 s K' := by
  unfold w_249 at h ⊢
  exact (Exists.elim h (fun m e1 => ⟨m, (fm_w_249_L2 (fun y1 y2 y3 s1 gs1 h2 => ⟨h2.1, (Exists.elim h2.2 (fun m e3 => ⟨m, (fm_w_249_L21 (fun y1 y2 y3 s3 gs3 h4 => ⟨h4.1, ⟨(fun c5 => (Exists.elim (h4.2.1 c5) (fun m e6 => ⟨m, (fm_w_249_L122 (fun y1 y2 y5 s4 gs4 h7 => (Exists.elim h7 (fun m e8 => ⟨m, (fm_w_249_L177 (fun y5 s5 gs5 h9 => (hK _ _ gs5 h9)) hK m _ _ _ _ gs4 e8)⟩))) hK m _ _ _ _ _ gs3 e6)⟩))), (fun c10 => (hK _ _ gs3 (h4.2.2 c10)))⟩⟩) hK m _ _ _ _ _ (fr_sA 100 gs1) e3)⟩))⟩) hK m _ _ _ _ _ f e1)⟩))
theorem fm_w_250_L21 {s0 : ST} {X46 X46' : Int32 → Int32 → Int32 → ST → Prop} {K K' : Int32 → ST → Prop} (hX46 : ∀ (v0 : Int32) (v1 : Int32) (v2 : Int32) (s1 : ST), Fr fs101 s0 s1 → X46 v0 v1 v2 s1 → X46' v0 v1 v2 s1) (hK : ∀ (v0 : Int32) (s1 : ST), Fr fs101 s0 s1 → K v0 s1 → K' v0 s1) : ∀ (n : Nat) (x1 : Int32) (x2 : Int32) (x3 : Int32) (x4 : Int32) (x5 : Int32) (s : ST), Fr fs101 s0 s → w_250_L21 n x1 x2 x3 x4 x5 s X46 K → w_250_L21 n x1 x2 x3 x4 x5 s X46' K' := by
  intro n
  induction n with
  | zero => intro x1 x2 x3 x4 x5 s f h; exact h.elim
  | succ n ih =>
    intro x1 x2 x3 x4 x5 s f h
    rw [w_250_L21] at h
    rw [w_250_L21]
    exact ⟨(fun c1 => (hX46 _ _ _ _ f (h.1 c1))), (fun c2 => ⟨(fun c3 => ⟨(fun c4 => (ih _ _ _ _ _ _ f (((h.2 c2).1 c3).1 c4))), (fun c5 => ⟨(((h.2 c2).1 c3).2 c5).1, ⟨(((h.2 c2).1 c3).2 c5).2.1, (fm_w_246 _ _ _ _ (fr_rfl _ _) (((h.2 c2).1 c3).2 c5).2.2 (fun s11 gs11 h6 => (ih _ _ _ _ _ _ (fr_tr fsb_97_101 f gs11) h6)))⟩⟩)⟩), (fun c7 => ⟨(fun c8 => (ih _ _ _ _ _ _ f (((h.2 c2).2 c7).1 c8))), (fun c9 => ⟨(((h.2 c2).2 c7).2 c9).1, ⟨(((h.2 c2).2 c7).2 c9).2.1, (fm_w_246 _ _ _ _ (fr_rfl _ _) (((h.2 c2).2 c7).2 c9).2.2 (fun s13 gs13 h10 => (ih _ _ _ _ _ _ (fr_tr fsb_97_101 f gs13) h10)))⟩⟩)⟩)⟩)⟩
theorem fm_w_250_L60 {s0 : ST} {X77 X77' : Int32 → Int32 → Int32 → ST → Prop} {K K' : Int32 → ST → Prop} (hX77 : ∀ (v0 : Int32) (v1 : Int32) (v2 : Int32) (s1 : ST), Fr fs101 s0 s1 → X77 v0 v1 v2 s1 → X77' v0 v1 v2 s1) (hK : ∀ (v0 : Int32) (s1 : ST), Fr fs101 s0 s1 → K v0 s1 → K' v0 s1) : ∀ (n : Nat) (x1 : Int32) (x3 : Int32) (x4 : Int32) (x5 : Int32) (x6 : Int32) (s : ST), Fr fs101 s0 s → w_250_L60 n x1 x3 x4 x5 x6 s X77 K → w_250_L60 n x1 x3 x4 x5 x6 s X77' K' := by
  intro n
  induction n with
  | zero => intro x1 x3 x4 x5 x6 s f h; exact h.elim
  | succ n ih =>
    intro x1 x3 x4 x5 x6 s f h
    rw [w_250_L60] at h
    rw [w_250_L60]
    exact ⟨(fun c1 => (hX77 _ _ _ _ f (h.1 c1))), (fun c2 => ⟨(fun c3 => (hX77 _ _ _ _ f ((h.2 c2).1 c3))), (fun c4 => (fm_w_249 _ _ _ _ (fr_rfl _ _) ((h.2 c2).2 c4) (fun r17 s16 gs16 h5 => (ih _ _ _ _ _ _ (fr_tr fsb_100_101 f gs16) h5))))⟩)⟩
theorem fm_w_250 {s0 : ST} {K K' : Int32 → ST → Prop} (p1 : Int32) (p2 : Int32) (p3 : Int32) (s : ST) (f : Fr fs101 s0 s) (h : w_250 p1 p2 p3 s K) (hK : ∀ (v0 : Int32) (s1 : ST), Fr fs101 s0 s1 → K v0 s1 → K' v0 s1) : w_250 p1 p2 p3 s K' := by
  unfold w_250 at h ⊢
  exact (fm_w_189 _ _ (fr_rfl _ _) h (fun r2 s1 gs1 h1 => ⟨(fun c2 => (hK _ _ (fr_tr fsb_0_101 f gs1) (h1.1 c2))), (fun c3 => (fm_w_189 _ _ (fr_rfl _ _) (h1.2 c3) (fun r4 s3 gs3 h4 => ⟨(fun c5 => (fm_w_197 _ _ (fr_rfl _ _) (h4.1 c5) (fun s5 gs5 h6 => (fm_w_248 _ (fr_rfl _ _) h6 (fun s7 gs7 h7 => (fm_w_247 _ (fr_rfl _ _) h7 (fun r10 s9 gs9 h8 => (Exists.elim h8 (fun m e9 => ⟨m, (fm_w_250_L21 (fun y1 y3 y4 s15 gs15 h10 => ⟨(fun c11 => ⟨(h10.1 c11).1, (Exists.elim (h10.1 c11).2 (fun m e12 => ⟨m, (fm_w_250_L60 (fun y1 y3 y5 s18 gs18 h13 => ⟨(fun c14 => (hK _ _ gs18 (h13.1 c14))), (fun c15 => ⟨(h13.2 c15).1, (hK _ _ gs18 (h13.2 c15).2)⟩)⟩) hK m _ _ _ _ _ _ gs15 e12)⟩))⟩), (fun c16 => (fm_w_246 _ _ _ _ (fr_rfl _ _) (h10.2 c16) (fun s19 gs19 h17 => ⟨h17.1, (Exists.elim h17.2 (fun m e18 => ⟨m, (fm_w_250_L60 (fun y1 y3 y5 s21 gs21 h19 => ⟨(fun c20 => (hK _ _ gs21 (h19.1 c20))), (fun c21 => ⟨(h19.2 c21).1, (hK _ _ gs21 (h19.2 c21).2)⟩)⟩) hK m _ _ _ _ _ _ (fr_tr fsb_97_101 gs15 gs19) e18)⟩))⟩)))⟩) hK m _ _ _ _ _ _ (fr_tr fsb_98_101 (fr_tr fsb_99_101 (fr_tr fsb_72_101 (fr_tr fsb_0_101 (fr_tr fsb_0_101 f gs1) gs3) gs5) gs7) gs9) e9)⟩))))))))), (fun c22 => (hK _ _ (fr_tr fsb_0_101 (fr_tr fsb_0_101 f gs1) gs3) (h4.2 c22)))⟩)))⟩))
theorem fm_w_251_L68 {s0 : ST} {X87 X87' : Int64 → ST → Prop} {X83 X83' : Int64 → ST → Prop} {K K' : Int32 → ST → Prop} (hX87 : ∀ (v0 : Int64) (s1 : ST), Fr fs0 s0 s1 → X87 v0 s1 → X87' v0 s1) (hX83 : ∀ (v0 : Int64) (s1 : ST), Fr fs0 s0 s1 → X83 v0 s1 → X83' v0 s1) (hK : ∀ (v0 : Int32) (s1 : ST), Fr fs0 s0 s1 → K v0 s1 → K' v0 s1) : ∀ (n : Nat) (x1 : Int32) (x2 : Int32) (x7 : Int64) (x9 : Int32) (s : ST), Fr fs0 s0 s → w_251_L68 n x1 x2 x7 x9 s X87 X83 K → w_251_L68 n x1 x2 x7 x9 s X87' X83' K' := by
  intro n
  induction n with
  | zero => intro x1 x2 x7 x9 s f h; exact h.elim
  | succ n ih =>
    intro x1 x2 x7 x9 s f h
    rw [w_251_L68] at h
    rw [w_251_L68]
    exact ⟨(fun c1 => (hX87 _ _ f (h.1 c1))), (fun c2 => ⟨(h.2 c2).1, ⟨(h.2 c2).2.1, ⟨(h.2 c2).2.2.1, ⟨(fun c3 => (ih _ _ _ _ _ f ((h.2 c2).2.2.2.1 c3))), (fun c4 => (hX83 _ _ f ((h.2 c2).2.2.2.2 c4)))⟩⟩⟩⟩)⟩
theorem fm_w_251 {s0 : ST} {K K' : Int32 → ST → Prop} (p1 : Int32) (p2 : Int32) (p3 : Int32) (p4 : Int32) (s : ST) (f : Fr fs0 s0 s) (h : w_251 p1 p2 p3 p4 s K) (hK : ∀ (v0 : Int32) (s1 : ST), Fr fs0 s0 s1 → K v0 s1 → K' v0 s1) : w_251 p1 p2 p3 p4 s K' := by
  unfold w_251 at h ⊢
  exact ⟨h.1, ⟨h.2.1, ⟨h.2.2.1, ⟨(fun c1 => (hK _ _ f (h.2.2.2.1 c1))), (fun c2 => ⟨(h.2.2.2.2 c2).1, ⟨(h.2.2.2.2 c2).2.1, ⟨(h.2.2.2.2 c2).2.2.1, ⟨(fun c3 => ⟨((h.2.2.2.2 c2).2.2.2.1 c3).1, ⟨((h.2.2.2.2 c2).2.2.2.1 c3).2.1, ⟨((h.2.2.2.2 c2).2.2.2.1 c3).2.2.1, ⟨((h.2.2.2.2 c2).2.2.2.1 c3).2.2.2.1, ⟨(fun c4 => (hK _ _ f (((h.2.2.2.2 c2).2.2.2.1 c3).2.2.2.2.1 c4))), (fun c5 => ⟨(fun c6 => (Exists.elim ((((h.2.2.2.2 c2).2.2.2.1 c3).2.2.2.2.2 c5).1 c6) (fun m e7 => ⟨m, (fm_w_251_L68 (fun y7 s1 gs1 h8 => (hK _ _ gs1 h8)) (fun y7 s2 gs2 h9 => (hK _ _ gs2 h9)) hK m _ _ _ _ _ f e7)⟩))), (fun c10 => (hK _ _ f ((((h.2.2.2.2 c2).2.2.2.1 c3).2.2.2.2.2 c5).2 c10)))⟩)⟩⟩⟩⟩⟩), (fun c11 => (hK _ _ f ((h.2.2.2.2 c2).2.2.2.2 c11)))⟩⟩⟩⟩)⟩⟩⟩⟩
theorem fm_w_252_L25 {s0 : ST} {X121 X121' : Int32 → ST → Prop} {K K' : Int32 → ST → Prop} (hX121 : ∀ (v0 : Int32) (s1 : ST), Fr fs102 s0 s1 → X121 v0 s1 → X121' v0 s1) (hK : ∀ (v0 : Int32) (s1 : ST), Fr fs102 s0 s1 → K v0 s1 → K' v0 s1) : ∀ (n : Nat) (x1 : Int32) (x2 : Int32) (x3 : Int32) (x4 : Int32) (s : ST), Fr fs102 s0 s → w_252_L25 n x1 x2 x3 x4 s X121 K → w_252_L25 n x1 x2 x3 x4 s X121' K' := by
  intro n
  induction n with
  | zero => intro x1 x2 x3 x4 s f h; exact h.elim
  | succ n ih =>
    intro x1 x2 x3 x4 s f h
    rw [w_252_L25] at h
    rw [w_252_L25]
    exact ⟨(fun c1 => (hX121 _ _ f (h.1 c1))), (fun c2 => ⟨(fun c3 => (hX121 _ _ f ((h.2 c2).1 c3))), (fun c4 => ⟨((h.2 c2).2 c4).1, ⟨((h.2 c2).2 c4).2.1, ⟨(fun c5 => ⟨(((h.2 c2).2 c4).2.2.1 c5).1, ⟨(((h.2 c2).2 c4).2.2.1 c5).2.1, ⟨(fun c6 => (ih _ _ _ _ _ (fr_sA 104 f) ((((h.2 c2).2 c4).2.2.1 c5).2.2.1 c6))), (fun c7 => ⟨(fun c8 => ⟨(((((h.2 c2).2 c4).2.2.1 c5).2.2.2 c7).1 c8).1, ⟨(fun c9 => ⟨(fun c10 => ⟨(((((((h.2 c2).2 c4).2.2.1 c5).2.2.2 c7).1 c8).2.1 c9).1 c10).1, (ih _ _ _ _ _ (fr_sA 104 (fr_sA 103 f)) (((((((h.2 c2).2 c4).2.2.1 c5).2.2.2 c7).1 c8).2.1 c9).1 c10).2)⟩), (fun c11 => (ih _ _ _ _ _ (fr_sA 103 (fr_sA 104 f)) (((((((h.2 c2).2 c4).2.2.1 c5).2.2.2 c7).1 c8).2.1 c9).2 c11)))⟩), (fun c12 => ⟨((((((h.2 c2).2 c4).2.2.1 c5).2.2.2 c7).1 c8).2.2 c12).1, ⟨((((((h.2 c2).2 c4).2.2.1 c5).2.2.2 c7).1 c8).2.2 c12).2.1, ⟨((((((h.2 c2).2 c4).2.2.1 c5).2.2.2 c7).1 c8).2.2 c12).2.2.1, ⟨(fun c13 => ⟨(fun c14 => ⟨((((((((h.2 c2).2 c4).2.2.1 c5).2.2.2 c7).1 c8).2.2 c12).2.2.2.1 c13).1 c14).1, (ih _ _ _ _ _ (fr_sA 104 (fr_sA 103 f)) ((((((((h.2 c2).2 c4).2.2.1 c5).2.2.2 c7).1 c8).2.2 c12).2.2.2.1 c13).1 c14).2)⟩), (fun c15 => (ih _ _ _ _ _ (fr_sA 103 (fr_sA 104 f)) ((((((((h.2 c2).2 c4).2.2.1 c5).2.2.2 c7).1 c8).2.2 c12).2.2.2.1 c13).2 c15)))⟩), (fun c16 => (ih _ _ _ _ _ (fr_sA 103 (fr_sA 104 f)) (((((((h.2 c2).2 c4).2.2.1 c5).2.2.2 c7).1 c8).2.2 c12).2.2.2.2 c16)))⟩⟩⟩⟩)⟩⟩), (fun c17 => (fm_w_251 _ _ _ _ _ (fr_rfl _ _) (((((h.2 c2).2 c4).2.2.1 c5).2.2.2 c7).2 c17) (fun r8 s7 gs7 h18 => ⟨(fun c19 => ⟨(h18.1 c19).1, ⟨(fun c20 => ⟨(fun c21 => ⟨(((h18.1 c19).2.1 c20).1 c21).1, (ih _ _ _ _ _ (fr_sA 104 (fr_sA 103 (fr_tr fsb_0_102 (fr_sA 104 f) gs7))) (((h18.1 c19).2.1 c20).1 c21).2)⟩), (fun c22 => (ih _ _ _ _ _ (fr_sA 103 (fr_tr fsb_0_102 (fr_sA 104 f) gs7)) (((h18.1 c19).2.1 c20).2 c22)))⟩), (fun c23 => ⟨((h18.1 c19).2.2 c23).1, ⟨((h18.1 c19).2.2 c23).2.1, ⟨((h18.1 c19).2.2 c23).2.2.1, ⟨(fun c24 => ⟨(fun c25 => ⟨((((h18.1 c19).2.2 c23).2.2.2.1 c24).1 c25).1, (ih _ _ _ _ _ (fr_sA 104 (fr_sA 103 (fr_tr fsb_0_102 (fr_sA 104 f) gs7))) ((((h18.1 c19).2.2 c23).2.2.2.1 c24).1 c25).2)⟩), (fun c26 => (ih _ _ _ _ _ (fr_sA 103 (fr_tr fsb_0_102 (fr_sA 104 f) gs7)) ((((h18.1 c19).2.2 c23).2.2.2.1 c24).2 c26)))⟩), (fun c27 => (ih _ _ _ _ _ (fr_sA 103 (fr_tr fsb_0_102 (fr_sA 104 f) gs7)) (((h18.1 c19).2.2 c23).2.2.2.2 c27)))⟩⟩⟩⟩)⟩⟩), (fun c28 => (ih _ _ _ _ _ (fr_tr fsb_0_102 (fr_sA 104 f) gs7) (h18.2 c28)))⟩)))⟩)⟩⟩⟩), (fun c29 => (ih _ _ _ _ _ (fr_sA 104 f) (((h.2 c2).2 c4).2.2.2 c29)))⟩⟩⟩)⟩)⟩
theorem fm_w_252 {s0 : ST} {K K' : Int32 → ST → Prop} (p1 : Int32) (p2 : Int32) (s : ST) (f : Fr fs102 s0 s) (h : w_252 p1 p2 s K) (hK : ∀ (v0 : Int32) (s1 : ST), Fr fs102 s0 s1 → K v0 s1 → K' v0 s1) : w_252 p1 p2 s K' := by
  unfold w_252 at h ⊢
  exact (fm_w_186 _ _ _ _ (fr_rfl _ _) h (fun r2 s1 gs1 h1 => ⟨(fun c2 => (hK _ _ (fr_tr fsb_0_102 f gs1) (h1.1 c2))), (fun c3 => (fm_w_186 _ _ _ _ (fr_rfl _ _) (h1.2 c3) (fun r4 s3 gs3 h4 => ⟨(fun c5 => (fm_w_197 _ _ (fr_rfl _ _) (h4.1 c5) (fun s5 gs5 h6 => ⟨h6.1, (Exists.elim h6.2 (fun m e7 => ⟨m, (fm_w_252_L25 (fun y3 s9 gs9 h8 => (hK _ _ gs9 h8)) hK m _ _ _ _ _ (fr_sA 104 (fr_tr fsb_72_102 (fr_tr fsb_0_102 (fr_tr fsb_0_102 f gs1) gs3) gs5)) e7)⟩))⟩))), (fun c9 => (hK _ _ (fr_tr fsb_0_102 (fr_tr fsb_0_102 f gs1) gs3) (h4.2 c9)))⟩)))⟩))
theorem fm_w_253 {s0 : ST} {K K' : Int32 → ST → Prop} (p1 : Int32) (p2 : Int32) (p3 : Int32) (s : ST) (f : Fr fs0 s0 s) (h : w_253 p1 p2 p3 s K) (hK : ∀ (v0 : Int32) (s1 : ST), Fr fs0 s0 s1 → K v0 s1 → K' v0 s1) : w_253 p1 p2 p3 s K' := by
  unfold w_253 at h ⊢
  exact ⟨h.1, ⟨h.2.1, ⟨(fun c1 => ⟨(fun c2 => ⟨(fun c3 => (hK _ _ f (((h.2.2.1 c1).1 c2).1 c3))), (fun c4 => ⟨(((h.2.2.1 c1).1 c2).2 c4).1, ⟨(((h.2.2.1 c1).1 c2).2 c4).2.1, ⟨(fun c5 => (hK _ _ f ((((h.2.2.1 c1).1 c2).2 c4).2.2.1 c5))), (fun c6 => (hK _ _ f ((((h.2.2.1 c1).1 c2).2 c4).2.2.2 c6)))⟩⟩⟩)⟩), (fun c7 => ⟨((h.2.2.1 c1).2 c7).1, ⟨((h.2.2.1 c1).2 c7).2.1, ⟨(fun c8 => ⟨(fun c9 => (hK _ _ f ((((h.2.2.1 c1).2 c7).2.2.1 c8).1 c9))), (fun c10 => ⟨((((h.2.2.1 c1).2 c7).2.2.1 c8).2 c10).1, ⟨((((h.2.2.1 c1).2 c7).2.2.1 c8).2 c10).2.1, ⟨(fun c11 => (hK _ _ f (((((h.2.2.1 c1).2 c7).2.2.1 c8).2 c10).2.2.1 c11))), (fun c12 => (hK _ _ f (((((h.2.2.1 c1).2 c7).2.2.1 c8).2 c10).2.2.2 c12)))⟩⟩⟩)⟩), (fun c13 => (hK _ _ f (((h.2.2.1 c1).2 c7).2.2.2 c13)))⟩⟩⟩)⟩), (fun c14 => (fm_w_229 _ _ (fr_rfl _ _) (h.2.2.2 c14) (fun r2 s1 gs1 h15 => (fm_w_229 _ _ (fr_rfl _ _) h15 (fun r4 s3 gs3 h16 => ⟨(fun c17 => ⟨(fun c18 => ⟨(fun c19 => (hK _ _ (fr_tr fsb_0_0 (fr_tr fsb_0_0 f gs1) gs3) (((h16.1 c17).1 c18).1 c19))), (fun c20 => ⟨(((h16.1 c17).1 c18).2 c20).1, ⟨(((h16.1 c17).1 c18).2 c20).2.1, ⟨(fun c21 => (hK _ _ (fr_tr fsb_0_0 (fr_tr fsb_0_0 f gs1) gs3) ((((h16.1 c17).1 c18).2 c20).2.2.1 c21))), (fun c22 => (hK _ _ (fr_tr fsb_0_0 (fr_tr fsb_0_0 f gs1) gs3) ((((h16.1 c17).1 c18).2 c20).2.2.2 c22)))⟩⟩⟩)⟩), (fun c23 => ⟨((h16.1 c17).2 c23).1, ⟨((h16.1 c17).2 c23).2.1, ⟨(fun c24 => ⟨(fun c25 => (hK _ _ (fr_tr fsb_0_0 (fr_tr fsb_0_0 f gs1) gs3) ((((h16.1 c17).2 c23).2.2.1 c24).1 c25))), (fun c26 => ⟨((((h16.1 c17).2 c23).2.2.1 c24).2 c26).1, ⟨((((h16.1 c17).2 c23).2.2.1 c24).2 c26).2.1, ⟨(fun c27 => (hK _ _ (fr_tr fsb_0_0 (fr_tr fsb_0_0 f gs1) gs3) (((((h16.1 c17).2 c23).2.2.1 c24).2 c26).2.2.1 c27))), (fun c28 => (hK _ _ (fr_tr fsb_0_0 (fr_tr fsb_0_0 f gs1) gs3) (((((h16.1 c17).2 c23).2.2.1 c24).2 c26).2.2.2 c28)))⟩⟩⟩)⟩), (fun c29 => (hK _ _ (fr_tr fsb_0_0 (fr_tr fsb_0_0 f gs1) gs3) (((h16.1 c17).2 c23).2.2.2 c29)))⟩⟩⟩)⟩), (fun c30 => (hK _ _ (fr_tr fsb_0_0 (fr_tr fsb_0_0 f gs1) gs3) (h16.2 c30)))⟩)))))⟩⟩⟩
theorem fm_w_254_L2 {s0 : ST} {X29 X29' : ST → Prop} {X14 X14' : Int32 → ST → Prop} {K K' : Int32 → ST → Prop} (hX29 : ∀ (s1 : ST), Fr fs0 s0 s1 → X29 s1 → X29' s1) (hX14 : ∀ (v0 : Int32) (s1 : ST), Fr fs0 s0 s1 → X14 v0 s1 → X14' v0 s1) (hK : ∀ (v0 : Int32) (s1 : ST), Fr fs0 s0 s1 → K v0 s1 → K' v0 s1) : ∀ (n : Nat) (x1 : Int32) (x2 : Int32) (s : ST), Fr fs0 s0 s → w_254_L2 n x1 x2 s X29 X14 K → w_254_L2 n x1 x2 s X29' X14' K' := by
  intro n
  induction n with
  | zero => intro x1 x2 s f h; exact h.elim
  | succ n ih =>
    intro x1 x2 s f h
    rw [w_254_L2] at h
    rw [w_254_L2]
    exact ⟨(fun c1 => (hX29 _ f (h.1 c1))), (fun c2 => ⟨(h.2 c2).1, ⟨(h.2 c2).2.1, ⟨(fun c3 => (ih _ _ _ f ((h.2 c2).2.2.1 c3))), (fun c4 => (hX14 _ _ f ((h.2 c2).2.2.2 c4)))⟩⟩⟩)⟩
theorem fm_w_254 {s0 : ST} {K K' : Int32 → ST → Prop} (p1 : Int32) (s : ST) (f : Fr fs0 s0 s) (h : w_254 p1 s K) (hK : ∀ (v0 : Int32) (s1 : ST), Fr fs0 s0 s1 → K v0 s1 → K' v0 s1) : w_254 p1 s K' := by
  unfold w_254 at h ⊢
  exact (Exists.elim h (fun m e1 => ⟨m, (fm_w_254_L2 (fun s1 gs1 h2 => (hK _ _ gs1 h2)) (fun y2 s2 gs2 h3 => ⟨h3.1, ⟨h3.2.1, ⟨(fun c4 => (hK _ _ gs2 (h3.2.2.1 c4))), (fun c5 => (hK _ _ gs2 (h3.2.2.2 c5)))⟩⟩⟩) hK m _ _ _ f e1)⟩))
theorem fm_w_255_L25 {s0 : ST} {X47 X47' : Int32 → Int32 → Int32 → Int32 → Int32 → Int32 → ST → Prop} {K K' : Int32 → ST → Prop} (hX47 : ∀ (v0 : Int32) (v1 : Int32) (v2 : Int32) (v3 : Int32) (v4 : Int32) (v5 : Int32) (s1 : ST), Fr fs103 s0 s1 → X47 v0 v1 v2 v3 v4 v5 s1 → X47' v0 v1 v2 v3 v4 v5 s1) (hK : ∀ (v0 : Int32) (s1 : ST), Fr fs103 s0 s1 → K v0 s1 → K' v0 s1) : ∀ (n : Nat) (x1 : Int32) (x2 : Int32) (x3 : Int32) (x4 : Int32) (x5 : Int32) (x6 : Int32) (x7 : Int32) (s : ST), Fr fs103 s0 s → w_255_L25 n x1 x2 x3 x4 x5 x6 x7 s X47 K → w_255_L25 n x1 x2 x3 x4 x5 x6 x7 s X47' K' := by
  intro n
  induction n with
  | zero => intro x1 x2 x3 x4 x5 x6 x7 s f h; exact h.elim
  | succ n ih =>
    intro x1 x2 x3 x4 x5 x6 x7 s f h
    rw [w_255_L25] at h
    rw [w_255_L25]
    exact ⟨(fun c1 => (hX47 _ _ _ _ _ _ _ f (h.1 c1))), (fun c2 => (fm_w_232 _ _ (fr_rfl _ _) (h.2 c2) (fun r6 s5 gs5 h3 => ⟨h3.1, (ih _ _ _ _ _ _ _ _ (fr_sA 105 (fr_tr fsb_90_103 f gs5)) h3.2)⟩)))⟩
theorem fm_w_255_L13 {s0 : ST} {X49 X49' : Int32 → Int32 → Int32 → Int32 → Int32 → ST → Prop} {K K' : Int32 → ST → Prop} (hX49 : ∀ (v0 : Int32) (v1 : Int32) (v2 : Int32) (v3 : Int32) (v4 : Int32) (s1 : ST), Fr fs103 s0 s1 → X49 v0 v1 v2 v3 v4 s1 → X49' v0 v1 v2 v3 v4 s1) (hK : ∀ (v0 : Int32) (s1 : ST), Fr fs103 s0 s1 → K v0 s1 → K' v0 s1) : ∀ (n : Nat) (x1 : Int32) (x2 : Int32) (x3 : Int32) (x4 : Int32) (x5 : Int32) (x6 : Int32) (s : ST), Fr fs103 s0 s → w_255_L13 n x1 x2 x3 x4 x5 x6 s X49 K → w_255_L13 n x1 x2 x3 x4 x5 x6 s X49' K' := by
  intro n
  induction n with
  | zero => intro x1 x2 x3 x4 x5 x6 s f h; exact h.elim
  | succ n ih =>
    intro x1 x2 x3 x4 x5 x6 s f h
    rw [w_255_L13] at h
    rw [w_255_L13]
    exact ⟨(fun c1 => (hX49 _ _ _ _ _ _ f (h.1 c1))), (fun c2 => ⟨(h.2 c2).1, (fm_w_230 _ _ (fr_rfl _ _) (h.2 c2).2 (fun s3 gs3 h3 => (Exists.elim h3 (fun m e4 => ⟨m, (fm_w_255_L25 (fun y1 y2 y3 y4 y5 y6 s5 gs5 h5 => (ih _ _ _ _ _ _ _ gs5 h5)) hK m _ _ _ _ _ _ _ _ (fr_tr fsb_89_103 f gs3) e4)⟩))))⟩)⟩
theorem fm_w_255_L149 {s0 : ST} {X164 X164' : Int32 → Int32 → Int32 → Int32 → Int32 → Int32 → Int32 → Int32 → ST → Prop} {K K' : Int32 → ST → Prop} (hX164 : ∀ (v0 : Int32) (v1 : Int32) (v2 : Int32) (v3 : Int32) (v4 : Int32) (v5 : Int32) (v6 : Int32) (v7 : Int32) (s1 : ST), Fr fs103 s0 s1 → X164 v0 v1 v2 v3 v4 v5 v6 v7 s1 → X164' v0 v1 v2 v3 v4 v5 v6 v7 s1) (hK : ∀ (v0 : Int32) (s1 : ST), Fr fs103 s0 s1 → K v0 s1 → K' v0 s1) : ∀ (n : Nat) (x1 : Int32) (x2 : Int32) (x3 : Int32) (x4 : Int32) (x5 : Int32) (x6 : Int32) (x7 : Int32) (x10 : Int32) (x11 : Int32) (s : ST), Fr fs103 s0 s → w_255_L149 n x1 x2 x3 x4 x5 x6 x7 x10 x11 s X164 K → w_255_L149 n x1 x2 x3 x4 x5 x6 x7 x10 x11 s X164' K' := by
  intro n
  induction n with
  | zero => intro x1 x2 x3 x4 x5 x6 x7 x10 x11 s f h; exact h.elim
  | succ n ih =>
    intro x1 x2 x3 x4 x5 x6 x7 x10 x11 s f h
    rw [w_255_L149] at h
    rw [w_255_L149]
    exact ⟨(fun c1 => (hX164 _ _ _ _ _ _ _ _ _ f (h.1 c1))), (fun c2 => ⟨(h.2 c2).1, ⟨(h.2 c2).2.1, (ih _ _ _ _ _ _ _ _ _ _ f (h.2 c2).2.2)⟩⟩)⟩
theorem fm_w_255_L176 {s0 : ST} {X189 X189' : Int32 → Int32 → Int32 → Int32 → Int32 → Int32 → Int32 → ST → Prop} {K K' : Int32 → ST → Prop} (hX189 : ∀ (v0 : Int32) (v1 : Int32) (v2 : Int32) (v3 : Int32) (v4 : Int32) (v5 : Int32) (v6 : Int32) (s1 : ST), Fr fs103 s0 s1 → X189 v0 v1 v2 v3 v4 v5 v6 s1 → X189' v0 v1 v2 v3 v4 v5 v6 s1) (hK : ∀ (v0 : Int32) (s1 : ST), Fr fs103 s0 s1 → K v0 s1 → K' v0 s1) : ∀ (n : Nat) (x1 : Int32) (x2 : Int32) (x3 : Int32) (x4 : Int32) (x5 : Int32) (x6 : Int32) (x7 : Int32) (x11 : Int32) (s : ST), Fr fs103 s0 s → w_255_L176 n x1 x2 x3 x4 x5 x6 x7 x11 s X189 K → w_255_L176 n x1 x2 x3 x4 x5 x6 x7 x11 s X189' K' := by
  intro n
  induction n with
  | zero => intro x1 x2 x3 x4 x5 x6 x7 x11 s f h; exact h.elim
  | succ n ih =>
    intro x1 x2 x3 x4 x5 x6 x7 x11 s f h
    rw [w_255_L176] at h
    rw [w_255_L176]
    exact ⟨(fun c1 => (hX189 _ _ _ _ _ _ _ _ f (h.1 c1))), (fun c2 => ⟨(h.2 c2).1, ⟨(h.2 c2).2.1, (ih _ _ _ _ _ _ _ _ _ (fr_sA 106 f) (h.2 c2).2.2)⟩⟩)⟩
theorem fm_w_255_L58 {s0 : ST} {X199 X199' : Int32 → ST → Prop} {K K' : Int32 → ST → Prop} (hX199 : ∀ (v0 : Int32) (s1 : ST), Fr fs103 s0 s1 → X199 v0 s1 → X199' v0 s1) (hK : ∀ (v0 : Int32) (s1 : ST), Fr fs103 s0 s1 → K v0 s1 → K' v0 s1) : ∀ (n : Nat) (x1 : Int32) (x2 : Int32) (x3 : Int32) (x4 : Int32) (x5 : Int32) (x6 : Int32) (x7 : Int32) (s : ST), Fr fs103 s0 s → w_255_L58 n x1 x2 x3 x4 x5 x6 x7 s X199 K → w_255_L58 n x1 x2 x3 x4 x5 x6 x7 s X199' K' := by
  intro n
  induction n with
  | zero => intro x1 x2 x3 x4 x5 x6 x7 s f h; exact h.elim
  | succ n ih =>
    intro x1 x2 x3 x4 x5 x6 x7 s f h
    rw [w_255_L58] at h
    rw [w_255_L58]
    exact ⟨(fun c1 => (hX199 _ _ f (h.1 c1))), (fun c2 => ⟨(fun c3 => ⟨((h.2 c2).1 c3).1, ⟨((h.2 c2).1 c3).2.1, ⟨(fun c4 => ⟨(((h.2 c2).1 c3).2.2.1 c4).1, ⟨(((h.2 c2).1 c3).2.2.1 c4).2.1, ⟨(fun c5 => (ih _ _ _ _ _ _ _ _ (fr_sA 104 f) ((((h.2 c2).1 c3).2.2.1 c4).2.2.1 c5))), (fun c6 => ⟨(fun c7 => ⟨(((((h.2 c2).1 c3).2.2.1 c4).2.2.2 c6).1 c7).1, ⟨(fun c8 => (Exists.elim ((((((h.2 c2).1 c3).2.2.1 c4).2.2.2 c6).1 c7).2.1 c8) (fun m e9 => ⟨m, (fm_w_255_L149 (fun y1 y2 y3 y4 y5 y6 y7 y10 s7 gs7 h10 => ⟨(fun c11 => ⟨(fun c12 => (Exists.elim ((h10.1 c11).1 c12) (fun m e13 => ⟨m, (fm_w_255_L176 (fun y1 y2 y3 y4 y5 y6 y7 s8 gs8 h14 => ⟨(fun c15 => (ih _ _ _ _ _ _ _ _ gs8 (h14.1 c15))), (fun c16 => (ih _ _ _ _ _ _ _ _ gs8 (h14.2 c16)))⟩) hK m _ _ _ _ _ _ _ _ _ gs7 e13)⟩))), (fun c17 => (fm_w_254 _ _ (fr_rfl _ _) ((h10.1 c11).2 c17) (fun r10 s9 gs9 h18 => ⟨(fun c19 => ⟨(fun c20 => (ih _ _ _ _ _ _ _ _ (fr_tr fsb_0_103 gs7 gs9) ((h18.1 c19).1 c20))), (fun c21 => (ih _ _ _ _ _ _ _ _ (fr_tr fsb_0_103 gs7 gs9) ((h18.1 c19).2 c21)))⟩), (fun c22 => (Exists.elim (h18.2 c22) (fun m e23 => ⟨m, (fm_w_255_L176 (fun y1 y2 y3 y4 y5 y6 y7 s11 gs11 h24 => ⟨(fun c25 => (ih _ _ _ _ _ _ _ _ gs11 (h24.1 c25))), (fun c26 => (ih _ _ _ _ _ _ _ _ gs11 (h24.2 c26)))⟩) hK m _ _ _ _ _ _ _ _ _ (fr_tr fsb_0_103 gs7 gs9) e23)⟩)))⟩)))⟩), (fun c27 => (ih _ _ _ _ _ _ _ _ gs7 (h10.2 c27)))⟩) hK m _ _ _ _ _ _ _ _ _ _ (fr_sA 103 (fr_sA 104 f)) e9)⟩))), (fun c28 => ⟨((((((h.2 c2).1 c3).2.2.1 c4).2.2.2 c6).1 c7).2.2 c28).1, (ih _ _ _ _ _ _ _ _ (fr_sA 104 (fr_sA 103 f)) ((((((h.2 c2).1 c3).2.2.1 c4).2.2.2 c6).1 c7).2.2 c28).2)⟩)⟩⟩), (fun c29 => ⟨(((((h.2 c2).1 c3).2.2.1 c4).2.2.2 c6).2 c29).1, ⟨(((((h.2 c2).1 c3).2.2.1 c4).2.2.2 c6).2 c29).2.1, ⟨(((((h.2 c2).1 c3).2.2.1 c4).2.2.2 c6).2 c29).2.2.1, ⟨(fun c30 => (ih _ _ _ _ _ _ _ _ (fr_sA 104 f) ((((((h.2 c2).1 c3).2.2.1 c4).2.2.2 c6).2 c29).2.2.2.1 c30))), (fun c31 => (fm_w_253 _ _ _ _ (fr_rfl _ _) ((((((h.2 c2).1 c3).2.2.1 c4).2.2.2 c6).2 c29).2.2.2.2 c31) (fun r13 s12 gs12 h32 => ⟨(fun c33 => ⟨(h32.1 c33).1, ⟨(fun c34 => (Exists.elim ((h32.1 c33).2.1 c34) (fun m e35 => ⟨m, (fm_w_255_L149 (fun y1 y2 y3 y4 y5 y6 y7 y10 s14 gs14 h36 => ⟨(fun c37 => ⟨(fun c38 => (Exists.elim ((h36.1 c37).1 c38) (fun m e39 => ⟨m, (fm_w_255_L176 (fun y1 y2 y3 y4 y5 y6 y7 s15 gs15 h40 => ⟨(fun c41 => (ih _ _ _ _ _ _ _ _ gs15 (h40.1 c41))), (fun c42 => (ih _ _ _ _ _ _ _ _ gs15 (h40.2 c42)))⟩) hK m _ _ _ _ _ _ _ _ _ gs14 e39)⟩))), (fun c43 => (fm_w_254 _ _ (fr_rfl _ _) ((h36.1 c37).2 c43) (fun r17 s16 gs16 h44 => ⟨(fun c45 => ⟨(fun c46 => (ih _ _ _ _ _ _ _ _ (fr_tr fsb_0_103 gs14 gs16) ((h44.1 c45).1 c46))), (fun c47 => (ih _ _ _ _ _ _ _ _ (fr_tr fsb_0_103 gs14 gs16) ((h44.1 c45).2 c47)))⟩), (fun c48 => (Exists.elim (h44.2 c48) (fun m e49 => ⟨m, (fm_w_255_L176 (fun y1 y2 y3 y4 y5 y6 y7 s18 gs18 h50 => ⟨(fun c51 => (ih _ _ _ _ _ _ _ _ gs18 (h50.1 c51))), (fun c52 => (ih _ _ _ _ _ _ _ _ gs18 (h50.2 c52)))⟩) hK m _ _ _ _ _ _ _ _ _ (fr_tr fsb_0_103 gs14 gs16) e49)⟩)))⟩)))⟩), (fun c53 => (ih _ _ _ _ _ _ _ _ gs14 (h36.2 c53)))⟩) hK m _ _ _ _ _ _ _ _ _ _ (fr_sA 103 (fr_tr fsb_0_103 (fr_sA 104 f) gs12)) e35)⟩))), (fun c54 => ⟨((h32.1 c33).2.2 c54).1, (ih _ _ _ _ _ _ _ _ (fr_sA 104 (fr_sA 103 (fr_tr fsb_0_103 (fr_sA 104 f) gs12))) ((h32.1 c33).2.2 c54).2)⟩)⟩⟩), (fun c55 => (ih _ _ _ _ _ _ _ _ (fr_tr fsb_0_103 (fr_sA 104 f) gs12) (h32.2 c55)))⟩)))⟩⟩⟩⟩)⟩)⟩⟩⟩), (fun c56 => (ih _ _ _ _ _ _ _ _ (fr_sA 104 f) (((h.2 c2).1 c3).2.2.2 c56)))⟩⟩⟩), (fun c57 => ⟨(fun c58 => (hX199 _ _ f (((h.2 c2).2 c57).1 c58))), (fun c59 => ⟨(((h.2 c2).2 c57).2 c59).1, ⟨(((h.2 c2).2 c57).2 c59).2.1, ⟨(fun c60 => ⟨((((h.2 c2).2 c57).2 c59).2.2.1 c60).1, ⟨((((h.2 c2).2 c57).2 c59).2.2.1 c60).2.1, ⟨(fun c61 => (ih _ _ _ _ _ _ _ _ (fr_sA 104 f) (((((h.2 c2).2 c57).2 c59).2.2.1 c60).2.2.1 c61))), (fun c62 => ⟨(fun c63 => ⟨((((((h.2 c2).2 c57).2 c59).2.2.1 c60).2.2.2 c62).1 c63).1, ⟨(fun c64 => (Exists.elim (((((((h.2 c2).2 c57).2 c59).2.2.1 c60).2.2.2 c62).1 c63).2.1 c64) (fun m e65 => ⟨m, (fm_w_255_L149 (fun y1 y2 y3 y4 y5 y6 y7 y10 s19 gs19 h66 => ⟨(fun c67 => ⟨(fun c68 => (Exists.elim ((h66.1 c67).1 c68) (fun m e69 => ⟨m, (fm_w_255_L176 (fun y1 y2 y3 y4 y5 y6 y7 s20 gs20 h70 => ⟨(fun c71 => (ih _ _ _ _ _ _ _ _ gs20 (h70.1 c71))), (fun c72 => (ih _ _ _ _ _ _ _ _ gs20 (h70.2 c72)))⟩) hK m _ _ _ _ _ _ _ _ _ gs19 e69)⟩))), (fun c73 => (fm_w_254 _ _ (fr_rfl _ _) ((h66.1 c67).2 c73) (fun r22 s21 gs21 h74 => ⟨(fun c75 => ⟨(fun c76 => (ih _ _ _ _ _ _ _ _ (fr_tr fsb_0_103 gs19 gs21) ((h74.1 c75).1 c76))), (fun c77 => (ih _ _ _ _ _ _ _ _ (fr_tr fsb_0_103 gs19 gs21) ((h74.1 c75).2 c77)))⟩), (fun c78 => (Exists.elim (h74.2 c78) (fun m e79 => ⟨m, (fm_w_255_L176 (fun y1 y2 y3 y4 y5 y6 y7 s23 gs23 h80 => ⟨(fun c81 => (ih _ _ _ _ _ _ _ _ gs23 (h80.1 c81))), (fun c82 => (ih _ _ _ _ _ _ _ _ gs23 (h80.2 c82)))⟩) hK m _ _ _ _ _ _ _ _ _ (fr_tr fsb_0_103 gs19 gs21) e79)⟩)))⟩)))⟩), (fun c83 => (ih _ _ _ _ _ _ _ _ gs19 (h66.2 c83)))⟩) hK m _ _ _ _ _ _ _ _ _ _ (fr_sA 103 (fr_sA 104 f)) e65)⟩))), (fun c84 => ⟨(((((((h.2 c2).2 c57).2 c59).2.2.1 c60).2.2.2 c62).1 c63).2.2 c84).1, (ih _ _ _ _ _ _ _ _ (fr_sA 104 (fr_sA 103 f)) (((((((h.2 c2).2 c57).2 c59).2.2.1 c60).2.2.2 c62).1 c63).2.2 c84).2)⟩)⟩⟩), (fun c85 => ⟨((((((h.2 c2).2 c57).2 c59).2.2.1 c60).2.2.2 c62).2 c85).1, ⟨((((((h.2 c2).2 c57).2 c59).2.2.1 c60).2.2.2 c62).2 c85).2.1, ⟨((((((h.2 c2).2 c57).2 c59).2.2.1 c60).2.2.2 c62).2 c85).2.2.1, ⟨(fun c86 => (ih _ _ _ _ _ _ _ _ (fr_sA 104 f) (((((((h.2 c2).2 c57).2 c59).2.2.1 c60).2.2.2 c62).2 c85).2.2.2.1 c86))), (fun c87 => (fm_w_253 _ _ _ _ (fr_rfl _ _) (((((((h.2 c2).2 c57).2 c59).2.2.1 c60).2.2.2 c62).2 c85).2.2.2.2 c87) (fun r25 s24 gs24 h88 => ⟨(fun c89 => ⟨(h88.1 c89).1, ⟨(fun c90 => (Exists.elim ((h88.1 c89).2.1 c90) (fun m e91 => ⟨m, (fm_w_255_L149 (fun y1 y2 y3 y4 y5 y6 y7 y10 s26 gs26 h92 => ⟨(fun c93 => ⟨(fun c94 => (Exists.elim ((h92.1 c93).1 c94) (fun m e95 => ⟨m, (fm_w_255_L176 (fun y1 y2 y3 y4 y5 y6 y7 s27 gs27 h96 => ⟨(fun c97 => (ih _ _ _ _ _ _ _ _ gs27 (h96.1 c97))), (fun c98 => (ih _ _ _ _ _ _ _ _ gs27 (h96.2 c98)))⟩) hK m _ _ _ _ _ _ _ _ _ gs26 e95)⟩))), (fun c99 => (fm_w_254 _ _ (fr_rfl _ _) ((h92.1 c93).2 c99) (fun r29 s28 gs28 h100 => ⟨(fun c101 => ⟨(fun c102 => (ih _ _ _ _ _ _ _ _ (fr_tr fsb_0_103 gs26 gs28) ((h100.1 c101).1 c102))), (fun c103 => (ih _ _ _ _ _ _ _ _ (fr_tr fsb_0_103 gs26 gs28) ((h100.1 c101).2 c103)))⟩), (fun c104 => (Exists.elim (h100.2 c104) (fun m e105 => ⟨m, (fm_w_255_L176 (fun y1 y2 y3 y4 y5 y6 y7 s30 gs30 h106 => ⟨(fun c107 => (ih _ _ _ _ _ _ _ _ gs30 (h106.1 c107))), (fun c108 => (ih _ _ _ _ _ _ _ _ gs30 (h106.2 c108)))⟩) hK m _ _ _ _ _ _ _ _ _ (fr_tr fsb_0_103 gs26 gs28) e105)⟩)))⟩)))⟩), (fun c109 => (ih _ _ _ _ _ _ _ _ gs26 (h92.2 c109)))⟩) hK m _ _ _ _ _ _ _ _ _ _ (fr_sA 103 (fr_tr fsb_0_103 (fr_sA 104 f) gs24)) e91)⟩))), (fun c110 => ⟨((h88.1 c89).2.2 c110).1, (ih _ _ _ _ _ _ _ _ (fr_sA 104 (fr_sA 103 (fr_tr fsb_0_103 (fr_sA 104 f) gs24))) ((h88.1 c89).2.2 c110).2)⟩)⟩⟩), (fun c111 => (ih _ _ _ _ _ _ _ _ (fr_tr fsb_0_103 (fr_sA 104 f) gs24) (h88.2 c111)))⟩)))⟩⟩⟩⟩)⟩)⟩⟩⟩), (fun c112 => (ih _ _ _ _ _ _ _ _ (fr_sA 104 f) ((((h.2 c2).2 c57).2 c59).2.2.2 c112)))⟩⟩⟩)⟩)⟩)⟩
theorem fm_w_255 {s0 : ST} {K K' : Int32 → ST → Prop} (p1 : Int32) (p2 : Int32) (p3 : Int32) (p4 : Int32) (s : ST) (f : Fr fs103 s0 s) (h : w_255 p1 p2 p3 p4 s K) (hK : ∀ (v0 : Int32) (s1 : ST), Fr fs103 s0 s1 → K v0 s1 → K' v0 s1) : w_255 p1 p2 p3 p4 s K' := by
  unfold w_255 at h ⊢
  exact (fm_w_197 _ _ (fr_rfl _ _) h (fun s1 gs1 h1 => ⟨h1.1, (Exists.elim h1.2 (fun m e2 => ⟨m, (fm_w_255_L13 (fun y1 y2 y3 y4 y5 s6 gs6 h3 => ⟨h3.1, (Exists.elim h3.2 (fun m e4 => ⟨m, (fm_w_255_L58 (fun y6 s31 gs31 h5 => (hK _ _ gs31 h5)) hK m _ _ _ _ _ _ _ _ (fr_sA 104 gs6) e4)⟩))⟩) hK m _ _ _ _ _ _ _ (fr_tr fsb_72_103 f gs1) e2)⟩))⟩))
theorem fm_w_256 {s0 : ST} {K K' : Int32 → ST → Prop} (p1 : Int32) (p2 : Int32) (p3 : Int32) (s : ST) (f : Fr fs0 s0 s) (h : w_256 p1 p2 p3 s K) (hK : ∀ (v0 : Int32) (s1 : ST), Fr fs0 s0 s1 → K v0 s1 → K' v0 s1) : w_256 p1 p2 p3 s K' := by
  unfold w_256 at h ⊢
  exact ⟨(fun c1 => (hK _ _ f (h.1 c1))), (fun c2 => ⟨(fun c3 => (hK _ _ f ((h.2 c2).1 c3))), (fun c4 => (fm_w_186 _ _ _ _ (fr_rfl _ _) ((h.2 c2).2 c4) (fun r2 s1 gs1 h5 => ⟨(fun c6 => (hK _ _ (fr_tr fsb_0_0 f gs1) (h5.1 c6))), (fun c7 => (fm_w_186 _ _ _ _ (fr_rfl _ _) (h5.2 c7) (fun r4 s3 gs3 h8 => ⟨(fun c9 => (hK _ _ (fr_tr fsb_0_0 (fr_tr fsb_0_0 f gs1) gs3) (h8.1 c9))), (fun c10 => (hK _ _ (fr_tr fsb_0_0 (fr_tr fsb_0_0 f gs1) gs3) (h8.2 c10)))⟩)))⟩)))⟩)⟩
theorem fm_w_257 {s0 : ST} {K K' : Int32 → ST → Prop} (p1 : Int32) (p2 : Int32) (p3 : Int32) (s : ST) (f : Fr fs103 s0 s) (h : w_257 p1 p2 p3 s K) (hK : ∀ (v0 : Int32) (s1 : ST), Fr fs103 s0 s1 → K v0 s1 → K' v0 s1) : w_257 p1 p2 p3 s K' := by
  unfold w_257 at h ⊢
  exact (fm_w_256 _ _ _ _ (fr_rfl _ _) h (fun r2 s1 gs1 h1 => ⟨(fun c2 => (hK _ _ (fr_tr fsb_0_103 f gs1) (h1.1 c2))), (fun c3 => (fm_w_255 _ _ _ _ _ (fr_rfl _ _) (h1.2 c3) (fun r4 s3 gs3 h4 => (hK _ _ (fr_tr fsb_103_103 (fr_tr fsb_0_103 f gs1) gs3) h4))))⟩))
theorem fm_w_258 {s0 : ST} {K K' : Int32 → ST → Prop} (p1 : Int32) (p2 : Int32) (p3 : Int32) (p4 : Int32) (s : ST) (f : Fr fs103 s0 s) (h : w_258 p1 p2 p3 p4 s K) (hK : ∀ (v0 : Int32) (s1 : ST), Fr fs103 s0 s1 → K v0 s1 → K' v0 s1) : w_258 p1 p2 p3 p4 s K' := by
  unfold w_258 at h ⊢
  exact (fm_w_256 _ _ _ _ (fr_rfl _ _) h (fun r2 s1 gs1 h1 => ⟨(fun c2 => (hK _ _ (fr_tr fsb_0_103 f gs1) (h1.1 c2))), (fun c3 => ⟨(h1.2 c3).1, (fm_w_186 _ _ _ _ (fr_rfl _ _) (h1.2 c3).2 (fun r4 s3 gs3 h4 => ⟨(fun c5 => (hK _ _ (fr_tr fsb_0_103 (fr_tr fsb_0_103 f gs1) gs3) (h4.1 c5))), (fun c6 => (fm_w_255 _ _ _ _ _ (fr_rfl _ _) (h4.2 c6) (fun r6 s5 gs5 h7 => ⟨(fun c8 => ⟨(h7.1 c8).1, (hK _ _ (fr_tr fsb_103_103 (fr_tr fsb_0_103 (fr_tr fsb_0_103 f gs1) gs3) gs5) (h7.1 c8).2)⟩), (fun c9 => (hK _ _ (fr_tr fsb_103_103 (fr_tr fsb_0_103 (fr_tr fsb_0_103 f gs1) gs3) gs5) (h7.2 c9)))⟩)))⟩))⟩)⟩))
theorem fm_w_259_L7 {s0 : ST} {X51 X51' : Int32 → ST → Prop} {K K' : ST → Prop} (hX51 : ∀ (v0 : Int32) (s1 : ST), Fr fs104 s0 s1 → X51 v0 s1 → X51' v0 s1) (hK : ∀ (s1 : ST), Fr fs104 s0 s1 → K s1 → K' s1) : ∀ (n : Nat) (x1 : Int32) (x2 : Int32) (s : ST), Fr fs104 s0 s → w_259_L7 n x1 x2 s X51 K → w_259_L7 n x1 x2 s X51' K' := by
  intro n
  induction n with
  | zero => intro x1 x2 s f h; exact h.elim
  | succ n ih =>
    intro x1 x2 s f h
    rw [w_259_L7] at h
    rw [w_259_L7]
    exact ⟨(fun c1 => (hX51 _ _ f (h.1 c1))), (fun c2 => ⟨(fun c3 => ⟨(fun c4 => ⟨(((h.2 c2).1 c3).1 c4).1, ⟨(((h.2 c2).1 c3).1 c4).2.1, ⟨(((h.2 c2).1 c3).1 c4).2.2.1, (ih _ _ _ (fr_sL 107 f) (((h.2 c2).1 c3).1 c4).2.2.2)⟩⟩⟩), (fun c5 => ⟨(((h.2 c2).1 c3).2 c5).1, (ih _ _ _ (fr_sL 107 f) (((h.2 c2).1 c3).2 c5).2)⟩)⟩), (fun c6 => ⟨((h.2 c2).2 c6).1, (ih _ _ _ (fr_sL 107 f) ((h.2 c2).2 c6).2)⟩)⟩)⟩
theorem fm_w_259_L2 {s0 : ST} {X53 X53' : ST → Prop} {K K' : ST → Prop} (hX53 : ∀ (s1 : ST), Fr fs104 s0 s1 → X53 s1 → X53' s1) (hK : ∀ (s1 : ST), Fr fs104 s0 s1 → K s1 → K' s1) : ∀ (n : Nat) (x1 : Int32) (s : ST), Fr fs104 s0 s → w_259_L2 n x1 s X53 K → w_259_L2 n x1 s X53' K' := by
  intro n
  induction n with
  | zero => intro x1 s f h; exact h.elim
  | succ n ih =>
    intro x1 s f h
    rw [w_259_L2] at h
    rw [w_259_L2]
    exact ⟨(fun c1 => (hX53 _ f (h.1 c1))), (fun c2 => (Exists.elim (h.2 c2) (fun m e3 => ⟨m, (fm_w_259_L7 (fun y1 s1 gs1 h4 => (ih _ _ gs1 h4)) hK m _ _ _ f e3)⟩)))⟩
theorem fm_w_259 {s0 : ST} {K K' : ST → Prop} (s : ST) (f : Fr fs104 s0 s) (h : w_259  s K) (hK : ∀ (s1 : ST), Fr fs104 s0 s1 → K s1 → K' s1) : w_259  s K' := by
  unfold w_259 at h ⊢
  exact (Exists.elim h (fun m e1 => ⟨m, (fm_w_259_L2 (fun s2 gs2 h2 => (hK _ gs2 h2)) hK m _ _ f e1)⟩))
theorem fm_w_260_L29 {s0 : ST} {X43 X43' : Int32 → Int32 → Int32 → Int32 → ST → Prop} {K K' : Int32 → ST → Prop} (hX43 : ∀ (v0 : Int32) (v1 : Int32) (v2 : Int32) (v3 : Int32) (s1 : ST), Fr fs105 s0 s1 → X43 v0 v1 v2 v3 s1 → X43' v0 v1 v2 v3 s1) (hK : ∀ (v0 : Int32) (s1 : ST), Fr fs105 s0 s1 → K v0 s1 → K' v0 s1) : ∀ (n : Nat) (x1 : Int32) (x2 : Int32) (x4 : Int32) (x5 : Int32) (s : ST), Fr fs105 s0 s → w_260_L29 n x1 x2 x4 x5 s X43 K → w_260_L29 n x1 x2 x4 x5 s X43' K' := by
  intro n
  induction n with
  | zero => intro x1 x2 x4 x5 s f h; exact h.elim
  | succ n ih =>
    intro x1 x2 x4 x5 s f h
    rw [w_260_L29] at h
    rw [w_260_L29]
    exact ⟨(fun c1 => (hX43 _ _ _ _ _ f (h.1 c1))), (fun c2 => ⟨(h.2 c2).1, ⟨(fun c3 => (hX43 _ _ _ _ _ f ((h.2 c2).2.1 c3))), (fun c4 => (ih _ _ _ _ _ f ((h.2 c2).2.2 c4)))⟩⟩)⟩
theorem fm_w_260_L66 {s0 : ST} {X135 X135' : ST → Prop} {K K' : Int32 → ST → Prop} (hX135 : ∀ (s1 : ST), Fr fs105 s0 s1 → X135 s1 → X135' s1) (hK : ∀ (v0 : Int32) (s1 : ST), Fr fs105 s0 s1 → K v0 s1 → K' v0 s1) : ∀ (n : Nat) (x1 : Int32) (x2 : Int32) (x4 : Int32) (x6 : Int32) (s : ST), Fr fs105 s0 s → w_260_L66 n x1 x2 x4 x6 s X135 K → w_260_L66 n x1 x2 x4 x6 s X135' K' := by
  intro n
  induction n with
  | zero => intro x1 x2 x4 x6 s f h; exact h.elim
  | succ n ih =>
    intro x1 x2 x4 x6 s f h
    rw [w_260_L66] at h
    rw [w_260_L66]
    exact ⟨(fun c1 => (hX135 _ f (h.1 c1))), (fun c2 => ⟨(h.2 c2).1, ⟨(h.2 c2).2.1, ⟨(fun c3 => (fm_w_230 _ _ (fr_rfl _ _) ((h.2 c2).2.2.1 c3) (fun s10 gs10 h4 => (fm_w_232 _ _ (fr_rfl _ _) h4 (fun r13 s12 gs12 h5 => ⟨(fun c6 => ⟨(h5.1 c6).1, ⟨(fun c7 => ⟨((h5.1 c6).2.1 c7).1, ⟨(fun c8 => (ih _ _ _ _ _ (fr_sI 5574 (fr_sI 5573 (fr_sI 5572 (fr_sI 5571 (fr_tr fsb_90_105 (fr_tr fsb_89_105 f gs10) gs12))))) (((h5.1 c6).2.1 c7).2.1 c8))), (fun c9 => (ih _ _ _ _ _ (fr_sI 5574 (fr_sI 5573 (fr_sI 5572 (fr_sI 5571 (fr_tr fsb_90_105 (fr_tr fsb_89_105 f gs10) gs12))))) (((h5.1 c6).2.1 c7).2.2 c9)))⟩⟩), (fun c10 => ⟨((h5.1 c6).2.2 c10).1, ⟨(fun c11 => (ih _ _ _ _ _ (fr_sI 5574 (fr_sI 5573 (fr_sI 5572 (fr_sI 5571 (fr_tr fsb_90_105 (fr_tr fsb_89_105 f gs10) gs12))))) (((h5.1 c6).2.2 c10).2.1 c11))), (fun c12 => (ih _ _ _ _ _ (fr_sI 5574 (fr_sI 5573 (fr_sI 5572 (fr_sI 5571 (fr_tr fsb_90_105 (fr_tr fsb_89_105 f gs10) gs12))))) (((h5.1 c6).2.2 c10).2.2 c12)))⟩⟩)⟩⟩), (fun c13 => ⟨(h5.2 c13).1, ⟨(fun c14 => ⟨((h5.2 c13).2.1 c14).1, ⟨(fun c15 => (ih _ _ _ _ _ (fr_sI 5574 (fr_sI 5573 (fr_sI 5572 (fr_sI 5571 (fr_tr fsb_90_105 (fr_tr fsb_89_105 f gs10) gs12))))) (((h5.2 c13).2.1 c14).2.1 c15))), (fun c16 => (ih _ _ _ _ _ (fr_sI 5574 (fr_sI 5573 (fr_sI 5572 (fr_sI 5571 (fr_tr fsb_90_105 (fr_tr fsb_89_105 f gs10) gs12))))) (((h5.2 c13).2.1 c14).2.2 c16)))⟩⟩), (fun c17 => ⟨((h5.2 c13).2.2 c17).1, ⟨(fun c18 => (ih _ _ _ _ _ (fr_sI 5574 (fr_sI 5573 (fr_sI 5572 (fr_sI 5571 (fr_tr fsb_90_105 (fr_tr fsb_89_105 f gs10) gs12))))) (((h5.2 c13).2.2 c17).2.1 c18))), (fun c19 => (ih _ _ _ _ _ (fr_sI 5574 (fr_sI 5573 (fr_sI 5572 (fr_sI 5571 (fr_tr fsb_90_105 (fr_tr fsb_89_105 f gs10) gs12))))) (((h5.2 c13).2.2 c17).2.2 c19)))⟩⟩)⟩⟩)⟩))))), (fun c20 => (ih _ _ _ _ _ f ((h.2 c2).2.2.2 c20)))⟩⟩⟩)⟩
theorem fm_w_260 {s0 : ST} {K K' : Int32 → ST → Prop} (p1 : Int32) (p2 : Int32) (p3 : Int32) (s : ST) (f : Fr fs105 s0 s) (h : w_260 p1 p2 p3 s K) (hK : ∀ (v0 : Int32) (s1 : ST), Fr fs105 s0 s1 → K v0 s1 → K' v0 s1) : w_260 p1 p2 p3 s K' := by
  unfold w_260 at h ⊢
  exact (fm_w_191 _ _ (fr_rfl _ _) h (fun r2 s1 gs1 h1 => ⟨(fun c2 => (hK _ _ (fr_tr fsb_0_105 f gs1) (h1.1 c2))), (fun c3 => (fm_w_186 _ _ _ _ (fr_rfl _ _) (h1.2 c3) (fun r4 s3 gs3 h4 => ⟨(fun c5 => (hK _ _ (fr_tr fsb_0_105 (fr_tr fsb_0_105 f gs1) gs3) (h4.1 c5))), (fun c6 => (fm_w_186 _ _ _ _ (fr_rfl _ _) (h4.2 c6) (fun r6 s5 gs5 h7 => ⟨(fun c8 => ⟨(h7.1 c8).1, (Exists.elim (h7.1 c8).2 (fun m e9 => ⟨m, (fm_w_260_L29 (fun y1 y2 y4 y5 s7 gs7 h10 => ⟨(fun c11 => (fm_w_197 _ _ (fr_rfl _ _) (h10.1 c11) (fun s8 gs8 h12 => (Exists.elim h12 (fun m e13 => ⟨m, (fm_w_260_L66 (fun s14 gs14 h14 => ⟨(fun c15 => (hK _ _ gs14 (h14.1 c15))), (fun c16 => (hK _ _ gs14 (h14.2 c16)))⟩) hK m _ _ _ _ _ (fr_sI 5574 (fr_sI 5573 (fr_sI 5572 (fr_sI 5571 (fr_tr fsb_72_105 gs7 gs8))))) e13)⟩))))), (fun c17 => (hK _ _ gs7 (h10.2 c17)))⟩) hK m _ _ _ _ _ (fr_tr fsb_0_105 (fr_tr fsb_0_105 (fr_tr fsb_0_105 f gs1) gs3) gs5) e9)⟩))⟩), (fun c18 => (hK _ _ (fr_tr fsb_0_105 (fr_tr fsb_0_105 (fr_tr fsb_0_105 f gs1) gs3) gs5) (h7.2 c18)))⟩)))⟩)))⟩))
theorem fm_w_261_L7 {s0 : ST} {X41 X41' : Int64 → ST → Prop} {K K' : Int64 → ST → Prop} (hX41 : ∀ (v0 : Int64) (s1 : ST), Fr fs104 s0 s1 → X41 v0 s1 → X41' v0 s1) (hK : ∀ (v0 : Int64) (s1 : ST), Fr fs104 s0 s1 → K v0 s1 → K' v0 s1) : ∀ (n : Nat) (x1 : Int64) (x3 : Int32) (s : ST), Fr fs104 s0 s → w_261_L7 n x1 x3 s X41 K → w_261_L7 n x1 x3 s X41' K' := by
  intro n
  induction n with
  | zero => intro x1 x3 s f h; exact h.elim
  | succ n ih =>
    intro x1 x3 s f h
    rw [w_261_L7] at h
    rw [w_261_L7]
    exact ⟨(fun c1 => (hX41 _ _ f (h.1 c1))), (fun c2 => ⟨(h.2 c2).1, ⟨(h.2 c2).2.1, (ih _ _ _ f (h.2 c2).2.2)⟩⟩)⟩
theorem fm_w_261 {s0 : ST} {K K' : Int64 → ST → Prop} (s : ST) (f : Fr fs104 s0 s) (h : w_261  s K) (hK : ∀ (v0 : Int64) (s1 : ST), Fr fs104 s0 s1 → K v0 s1 → K' v0 s1) : w_261  s K' := by
  unfold w_261 at h ⊢
  exact (fm_w_259 _ (fr_rfl _ _) h (fun s1 gs1 h1 => (Exists.elim h1 (fun m e2 => ⟨m, (fm_w_261_L7 (fun y1 s3 gs3 h3 => (hK _ _ gs3 h3)) hK m _ _ _ (fr_tr fsb_104_104 f gs1) e2)⟩))))
theorem fm_w_262 {s0 : ST} {K K' : Int64 → ST → Prop} (p1 : Int32) (p2 : Int32) (p3 : Int32) (p4 : Int32) (s : ST) (f : Fr fs106 s0 s) (h : w_262 p1 p2 p3 p4 s K) (hK : ∀ (v0 : Int64) (s1 : ST), Fr fs106 s0 s1 → K v0 s1 → K' v0 s1) : w_262 p1 p2 p3 p4 s K' := by
  unfold w_262 at h ⊢
  exact (fm_w_186 _ _ _ _ (fr_rfl _ _) h (fun r2 s1 gs1 h1 => ⟨(fun c2 => (hK _ _ (fr_tr fsb_0_106 f gs1) (h1.1 c2))), (fun c3 => (fm_w_260 _ _ _ _ (fr_rfl _ _) (h1.2 c3) (fun r4 s3 gs3 h4 => ⟨(fun c5 => ⟨(fun c6 => (hK _ _ (fr_tr fsb_105_106 (fr_tr fsb_0_106 f gs1) gs3) ((h4.1 c5).1 c6))), (fun c7 => (fm_w_261 _ (fr_rfl _ _) ((h4.1 c5).2.1 c7) (fun r6 s5 gs5 h8 => (hK _ _ (fr_tr fsb_104_106 (fr_tr fsb_105_106 (fr_tr fsb_0_106 f gs1) gs3) gs5) h8)))), (fun c9 => (fm_w_259 _ (fr_rfl _ _) ((h4.1 c5).2.2.1 c9) (fun s7 gs7 h10 => ⟨h10.1, (hK _ _ (fr_tr fsb_104_106 (fr_tr fsb_105_106 (fr_tr fsb_0_106 f gs1) gs3) gs7) h10.2)⟩))), (fun c11 => (hK _ _ (fr_tr fsb_105_106 (fr_tr fsb_0_106 f gs1) gs3) ((h4.1 c5).2.2.2.1 c11))), (fun c12 => (hK _ _ (fr_tr fsb_105_106 (fr_tr fsb_0_106 f gs1) gs3) ((h4.1 c5).2.2.2.2.1 c12))), (fun c13 => (hK _ _ (fr_tr fsb_105_106 (fr_tr fsb_0_106 f gs1) gs3) ((h4.1 c5).2.2.2.2.2 c13)))⟩), (fun c14 => (hK _ _ (fr_tr fsb_105_106 (fr_tr fsb_0_106 f gs1) gs3) (h4.2 c14)))⟩)))⟩))
theorem fm_w_263 {s0 : ST} {K K' : Int32 → ST → Prop} (p1 : Int32) (p2 : Int32) (p3 : Int32) (p4 : Int32) (s : ST) (f : Fr fs106 s0 s) (h : w_263 p1 p2 p3 p4 s K) (hK : ∀ (v0 : Int32) (s1 : ST), Fr fs106 s0 s1 → K v0 s1 → K' v0 s1) : w_263 p1 p2 p3 p4 s K' := by
  unfold w_263 at h ⊢
  exact (fm_w_186 _ _ _ _ (fr_rfl _ _) h (fun r2 s1 gs1 h1 => ⟨(fun c2 => (hK _ _ (fr_tr fsb_0_106 f gs1) (h1.1 c2))), (fun c3 => (fm_w_260 _ _ _ _ (fr_rfl _ _) (h1.2 c3) (fun r4 s3 gs3 h4 => ⟨(fun c5 => (fm_w_261 _ (fr_rfl _ _) (h4.1 c5) (fun r6 s5 gs5 h6 => ⟨h6.1, ⟨(fun c7 => (hK _ _ (fr_tr fsb_104_106 (fr_tr fsb_105_106 (fr_tr fsb_0_106 f gs1) gs3) gs5) (h6.2.1 c7))), (fun c8 => (hK _ _ (fr_tr fsb_104_106 (fr_tr fsb_105_106 (fr_tr fsb_0_106 f gs1) gs3) gs5) (h6.2.2 c8)))⟩⟩))), (fun c9 => (hK _ _ (fr_tr fsb_105_106 (fr_tr fsb_0_106 f gs1) gs3) (h4.2 c9)))⟩)))⟩))
theorem fm_w_264 {s0 : ST} {K K' : Int32 → ST → Prop} (p0 : Int32) (p1 : Int32) (s : ST) (f : Fr fs0 s0 s) (h : w_264 p0 p1 s K) (hK : ∀ (v0 : Int32) (s1 : ST), Fr fs0 s0 s1 → K v0 s1 → K' v0 s1) : w_264 p0 p1 s K' := by
  unfold w_264 at h ⊢
  exact ⟨(fun c1 => (hK _ _ f (h.1 c1))), (fun c2 => ⟨(fun c3 => ⟨(fun c4 => (hK _ _ f (((h.2 c2).1 c3).1 c4))), (fun c5 => (hK _ _ f (((h.2 c2).1 c3).2 c5)))⟩), (fun c6 => ⟨(fun c7 => (hK _ _ f (((h.2 c2).2 c6).1 c7))), (fun c8 => (hK _ _ f (((h.2 c2).2 c6).2 c8)))⟩)⟩)⟩
theorem fm_w_265 {s0 : ST} {K K' : Int32 → ST → Prop} (p1 : Int32) (p2 : Int32) (p3 : Int32) (s : ST) (f : Fr fs107 s0 s) (h : w_265 p1 p2 p3 s K) (hK : ∀ (v0 : Int32) (s1 : ST), Fr fs107 s0 s1 → K v0 s1 → K' v0 s1) : w_265 p1 p2 p3 s K' := by
  unfold w_265 at h ⊢
  exact (fm_w_264 _ _ _ (fr_rfl _ _) h (fun r2 s1 gs1 h1 => ⟨(fun c2 => (hK _ _ (fr_tr fsb_0_107 f gs1) (h1.1 c2))), (fun c3 => (fm_w_186 _ _ _ _ (fr_rfl _ _) (h1.2 c3) (fun r4 s3 gs3 h4 => ⟨(fun c5 => ⟨(fun c6 => ⟨((h4.1 c5).1 c6).1, (hK _ _ (fr_sA 108 (fr_tr fsb_0_107 (fr_tr fsb_0_107 f gs1) gs3)) ((h4.1 c5).1 c6).2)⟩), (fun c7 => ⟨((h4.1 c5).2 c7).1, (hK _ _ (fr_sA 108 (fr_tr fsb_0_107 (fr_tr fsb_0_107 f gs1) gs3)) ((h4.1 c5).2 c7).2)⟩)⟩), (fun c8 => (hK _ _ (fr_tr fsb_0_107 (fr_tr fsb_0_107 f gs1) gs3) (h4.2 c8)))⟩)))⟩))
theorem fm_w_266_L2 {s0 : ST} {X17 X17' : ST → Prop} {K K' : ST → Prop} (hX17 : ∀ (s1 : ST), Fr fs108 s0 s1 → X17 s1 → X17' s1) (hK : ∀ (s1 : ST), Fr fs108 s0 s1 → K s1 → K' s1) : ∀ (n : Nat) (x1 : Int32) (x2 : Int32) (s : ST), Fr fs108 s0 s → w_266_L2 n x1 x2 s X17 K → w_266_L2 n x1 x2 s X17' K' := by
  intro n
  induction n with
  | zero => intro x1 x2 s f h; exact h.elim
  | succ n ih =>
    intro x1 x2 s f h
    rw [w_266_L2] at h
    rw [w_266_L2]
    exact ⟨(fun c1 => (hX17 _ f (h.1 c1))), (fun c2 => ⟨(fun c3 => ⟨((h.2 c2).1 c3).1, (ih _ _ _ (fr_sA 109 f) ((h.2 c2).1 c3).2)⟩), (fun c4 => ⟨((h.2 c2).2 c4).1, (ih _ _ _ (fr_sA 109 f) ((h.2 c2).2 c4).2)⟩)⟩)⟩
theorem fm_w_266_L29 {s0 : ST} {X61 X61' : Int32 → Int32 → ST → Prop} {K K' : ST → Prop} (hX61 : ∀ (v0 : Int32) (v1 : Int32) (s1 : ST), Fr fs108 s0 s1 → X61 v0 v1 s1 → X61' v0 v1 s1) (hK : ∀ (s1 : ST), Fr fs108 s0 s1 → K s1 → K' s1) : ∀ (n : Nat) (x2 : Int32) (x3 : Int32) (x4 : Int32) (s : ST), Fr fs108 s0 s → w_266_L29 n x2 x3 x4 s X61 K → w_266_L29 n x2 x3 x4 s X61' K' := by
  intro n
  induction n with
  | zero => intro x2 x3 x4 s f h; exact h.elim
  | succ n ih =>
    intro x2 x3 x4 s f h
    rw [w_266_L29] at h
    rw [w_266_L29]
    exact ⟨(fun c1 => (hX61 _ _ _ f (h.1 c1))), (fun c2 => ⟨(h.2 c2).1, ⟨(fun c3 => (hX61 _ _ _ f ((h.2 c2).2.1 c3))), (fun c4 => ⟨((h.2 c2).2.2 c4).1, ⟨(fun c5 => ⟨(((h.2 c2).2.2 c4).2.1 c5).1, (ih _ _ _ _ (fr_sA 109 f) (((h.2 c2).2.2 c4).2.1 c5).2)⟩), (fun c6 => ⟨(((h.2 c2).2.2 c4).2.2 c6).1, ⟨(((h.2 c2).2.2 c4).2.2 c6).2.1, ⟨(fun c7 => ⟨((((h.2 c2).2.2 c4).2.2 c6).2.2.1 c7).1, (ih _ _ _ _ (fr_sA 109 f) ((((h.2 c2).2.2 c4).2.2 c6).2.2.1 c7).2)⟩), (fun c8 => ⟨((((h.2 c2).2.2 c4).2.2 c6).2.2.2 c8).1, (ih _ _ _ _ (fr_sA 109 f) ((((h.2 c2).2.2 c4).2.2 c6).2.2.2 c8).2)⟩)⟩⟩⟩)⟩⟩)⟩⟩)⟩
theorem fm_w_266_L24 {s0 : ST} {X63 X63' : Int32 → ST → Prop} {K K' : ST → Prop} (hX63 : ∀ (v0 : Int32) (s1 : ST), Fr fs108 s0 s1 → X63 v0 s1 → X63' v0 s1) (hK : ∀ (s1 : ST), Fr fs108 s0 s1 → K s1 → K' s1) : ∀ (n : Nat) (x2 : Int32) (x3 : Int32) (s : ST), Fr fs108 s0 s → w_266_L24 n x2 x3 s X63 K → w_266_L24 n x2 x3 s X63' K' := by
  intro n
  induction n with
  | zero => intro x2 x3 s f h; exact h.elim
  | succ n ih =>
    intro x2 x3 s f h
    rw [w_266_L24] at h
    rw [w_266_L24]
    exact ⟨(fun c1 => (hX63 _ _ f (h.1 c1))), (fun c2 => (Exists.elim (h.2 c2) (fun m e3 => ⟨m, (fm_w_266_L29 (fun y2 y3 s2 gs2 h4 => (ih _ _ _ gs2 h4)) hK m _ _ _ _ f e3)⟩)))⟩
theorem fm_w_266_L19 {s0 : ST} {X65 X65' : ST → Prop} {K K' : ST → Prop} (hX65 : ∀ (s1 : ST), Fr fs108 s0 s1 → X65 s1 → X65' s1) (hK : ∀ (s1 : ST), Fr fs108 s0 s1 → K s1 → K' s1) : ∀ (n : Nat) (x2 : Int32) (s : ST), Fr fs108 s0 s → w_266_L19 n x2 s X65 K → w_266_L19 n x2 s X65' K' := by
  intro n
  induction n with
  | zero => intro x2 s f h; exact h.elim
  | succ n ih =>
    intro x2 s f h
    rw [w_266_L19] at h
    rw [w_266_L19]
    exact ⟨(fun c1 => (hX65 _ f (h.1 c1))), (fun c2 => (Exists.elim (h.2 c2) (fun m e3 => ⟨m, (fm_w_266_L24 (fun y2 s2 gs2 h4 => (ih _ _ gs2 h4)) hK m _ _ _ f e3)⟩)))⟩
theorem fm_w_266 {s0 : ST} {K K' : ST → Prop} (p1 : Int32) (s : ST) (f : Fr fs108 s0 s) (h : w_266 p1 s K) (hK : ∀ (s1 : ST), Fr fs108 s0 s1 → K s1 → K' s1) : w_266 p1 s K' := by
  unfold w_266 at h ⊢
  exact (Exists.elim h (fun m e1 => ⟨m, (fm_w_266_L2 (fun s1 gs1 h2 => (Exists.elim h2 (fun m e3 => ⟨m, (fm_w_266_L19 (fun s3 gs3 h4 => (hK _ gs3 h4)) hK m _ _ gs1 e3)⟩))) hK m _ _ _ f e1)⟩))
theorem fm_w_267 {s0 : ST} {K K' : Int32 → ST → Prop} (p1 : Int32) (p2 : Int32) (p3 : Int32) (p4 : Int32) (s : ST) (f : Fr fs108 s0 s) (h : w_267 p1 p2 p3 p4 s K) (hK : ∀ (v0 : Int32) (s1 : ST), Fr fs108 s0 s1 → K v0 s1 → K' v0 s1) : w_267 p1 p2 p3 p4 s K' := by
  unfold w_267 at h ⊢
  exact (fm_w_264 _ _ _ (fr_rfl _ _) h (fun r2 s1 gs1 h1 => ⟨(fun c2 => (hK _ _ (fr_tr fsb_0_108 f gs1) (h1.1 c2))), (fun c3 => (fm_w_264 _ _ _ (fr_rfl _ _) (h1.2 c3) (fun r4 s3 gs3 h4 => ⟨(fun c5 => ⟨(fun c6 => (fm_w_266 _ _ (fr_rfl _ _) ((h4.1 c5).1 c6) (fun s5 gs5 h7 => ⟨(fun c8 => ⟨(h7.1 c8).1, ⟨(fun c9 => (hK _ _ (fr_tr fsb_108_108 (fr_tr fsb_0_108 (fr_tr fsb_0_108 f gs1) gs3) gs5) ((h7.1 c8).2.1 c9))), (fun c10 => (hK _ _ (fr_tr fsb_108_108 (fr_tr fsb_0_108 (fr_tr fsb_0_108 f gs1) gs3) gs5) ((h7.1 c8).2.2 c10)))⟩⟩), (fun c11 => ⟨(h7.2 c11).1, ⟨(fun c12 => (hK _ _ (fr_tr fsb_108_108 (fr_tr fsb_0_108 (fr_tr fsb_0_108 f gs1) gs3) gs5) ((h7.2 c11).2.1 c12))), (fun c13 => (hK _ _ (fr_tr fsb_108_108 (fr_tr fsb_0_108 (fr_tr fsb_0_108 f gs1) gs3) gs5) ((h7.2 c11).2.2 c13)))⟩⟩)⟩))), (fun c14 => (fm_w_266 _ _ (fr_rfl _ _) ((h4.1 c5).2 c14) (fun s7 gs7 h15 => ⟨(fun c16 => ⟨(h15.1 c16).1, ⟨(fun c17 => (hK _ _ (fr_tr fsb_108_108 (fr_tr fsb_0_108 (fr_tr fsb_0_108 f gs1) gs3) gs7) ((h15.1 c16).2.1 c17))), (fun c18 => (hK _ _ (fr_tr fsb_108_108 (fr_tr fsb_0_108 (fr_tr fsb_0_108 f gs1) gs3) gs7) ((h15.1 c16).2.2 c18)))⟩⟩), (fun c19 => ⟨(h15.2 c19).1, ⟨(fun c20 => (hK _ _ (fr_tr fsb_108_108 (fr_tr fsb_0_108 (fr_tr fsb_0_108 f gs1) gs3) gs7) ((h15.2 c19).2.1 c20))), (fun c21 => (hK _ _ (fr_tr fsb_108_108 (fr_tr fsb_0_108 (fr_tr fsb_0_108 f gs1) gs3) gs7) ((h15.2 c19).2.2 c21)))⟩⟩)⟩)))⟩), (fun c22 => (hK _ _ (fr_tr fsb_0_108 (fr_tr fsb_0_108 f gs1) gs3) (h4.2 c22)))⟩)))⟩))
theorem fm_w_268_L16 {s0 : ST} {X62 X62' : Int32 → ST → Prop} {K K' : Int32 → ST → Prop} (hX62 : ∀ (v0 : Int32) (s1 : ST), Fr fs109 s0 s1 → X62 v0 s1 → X62' v0 s1) (hK : ∀ (v0 : Int32) (s1 : ST), Fr fs109 s0 s1 → K v0 s1 → K' v0 s1) : ∀ (n : Nat) (x2 : Int32) (x3 : Int32) (s : ST), Fr fs109 s0 s → w_268_L16 n x2 x3 s X62 K → w_268_L16 n x2 x3 s X62' K' := by
  intro n
  induction n with
  | zero => intro x2 x3 s f h; exact h.elim
  | succ n ih =>
    intro x2 x3 s f h
    rw [w_268_L16] at h
    rw [w_268_L16]
    exact ⟨(fun c1 => (hX62 _ _ f (h.1 c1))), (fun c2 => ⟨(h.2 c2).1, (fm_w_229 _ _ (fr_rfl _ _) (h.2 c2).2 (fun r8 s7 gs7 h3 => ⟨(fun c4 => (ih _ _ _ (fr_tr fsb_0_109 f gs7) (h3.1 c4))), (fun c5 => ⟨(h3.2 c5).1, ⟨(h3.2 c5).2.1, ⟨(fun c6 => ⟨((h3.2 c5).2.2.1 c6).1, ⟨(fun c7 => ⟨(((h3.2 c5).2.2.1 c6).2.1 c7).1, (ih _ _ _ (fr_tr fsb_0_109 f gs7) (((h3.2 c5).2.2.1 c6).2.1 c7).2)⟩), (fun c8 => ⟨(((h3.2 c5).2.2.1 c6).2.2 c8).1, (ih _ _ _ (fr_tr fsb_0_109 f gs7) (((h3.2 c5).2.2.1 c6).2.2 c8).2)⟩)⟩⟩), (fun c9 => (ih _ _ _ (fr_tr fsb_0_109 f gs7) ((h3.2 c5).2.2.2 c9)))⟩⟩⟩)⟩))⟩)⟩
theorem fm_w_268 {s0 : ST} {K K' : Int32 → ST → Prop} (p1 : Int32) (s : ST) (f : Fr fs109 s0 s) (h : w_268 p1 s K) (hK : ∀ (v0 : Int32) (s1 : ST), Fr fs109 s0 s1 → K v0 s1 → K' v0 s1) : w_268 p1 s K' := by
  unfold w_268 at h ⊢
  exact (fm_w_191 _ _ (fr_rfl _ _) h (fun r2 s1 gs1 h1 => ⟨(fun c2 => (fm_w_266 _ _ (fr_rfl _ _) (h1.1 c2) (fun s3 gs3 h3 => (fm_w_197 _ _ (fr_rfl _ _) h3 (fun s5 gs5 h4 => (Exists.elim h4 (fun m e5 => ⟨m, (fm_w_268_L16 (fun y2 s9 gs9 h6 => (hK _ _ gs9 h6)) hK m _ _ _ (fr_tr fsb_72_109 (fr_tr fsb_108_109 (fr_tr fsb_0_109 f gs1) gs3) gs5) e5)⟩))))))), (fun c7 => (hK _ _ (fr_tr fsb_0_109 f gs1) (h1.2 c7)))⟩))
theorem fm_w_269_L25 {s0 : ST} {X47 X47' : Int32 → Int32 → Int32 → Int64 → ST → Prop} {K K' : Int32 → ST → Prop} (hX47 : ∀ (v0 : Int32) (v1 : Int32) (v2 : Int32) (v3 : Int64) (s1 : ST), Fr fs110 s0 s1 → X47 v0 v1 v2 v3 s1 → X47' v0 v1 v2 v3 s1) (hK : ∀ (v0 : Int32) (s1 : ST), Fr fs110 s0 s1 → K v0 s1 → K' v0 s1) : ∀ (n : Nat) (x1 : Int32) (x2 : Int32) (x3 : Int32) (x4 : Int64) (x6 : Int32) (s : ST), Fr fs110 s0 s → w_269_L25 n x1 x2 x3 x4 x6 s X47 K → w_269_L25 n x1 x2 x3 x4 x6 s X47' K' := by
  intro n
  induction n with
  | zero => intro x1 x2 x3 x4 x6 s f h; exact h.elim
  | succ n ih =>
    intro x1 x2 x3 x4 x6 s f h
    rw [w_269_L25] at h
    rw [w_269_L25]
    exact ⟨(fun c1 => (hX47 _ _ _ _ _ f (h.1 c1))), (fun c2 => ⟨(h.2 c2).1, ⟨(h.2 c2).2.1, ⟨(h.2 c2).2.2.1, (ih _ _ _ _ _ _ (fr_sA 110 f) (h.2 c2).2.2.2)⟩⟩⟩)⟩
theorem fm_w_269_L77 {s0 : ST} {X104 X104' : Int32 → Int32 → Int64 → Int32 → Int32 → Int32 → Int64 → Int32 → Int64 → Int32 → ST → Prop} {K K' : Int32 → ST → Prop} (hX104 : ∀ (v0 : Int32) (v1 : Int32) (v2 : Int64) (v3 : Int32) (v4 : Int32) (v5 : Int32) (v6 : Int64) (v7 : Int32) (v8 : Int64) (v9 : Int32) (s1 : ST), Fr fs110 s0 s1 → X104 v0 v1 v2 v3 v4 v5 v6 v7 v8 v9 s1 → X104' v0 v1 v2 v3 v4 v5 v6 v7 v8 v9 s1) (hK : ∀ (v0 : Int32) (s1 : ST), Fr fs110 s0 s1 → K v0 s1 → K' v0 s1) : ∀ (n : Nat) (x1 : Int32) (x3 : Int32) (x4 : Int64) (x6 : Int32) (x7 : Int32) (x8 : Int32) (x9 : Int64) (x11 : Int32) (x12 : Int64) (x14 : Int32) (s : ST), Fr fs110 s0 s → w_269_L77 n x1 x3 x4 x6 x7 x8 x9 x11 x12 x14 s X104 K → w_269_L77 n x1 x3 x4 x6 x7 x8 x9 x11 x12 x14 s X104' K' := by
  intro n
  induction n with
  | zero => intro x1 x3 x4 x6 x7 x8 x9 x11 x12 x14 s f h; exact h.elim
  | succ n ih =>
    intro x1 x3 x4 x6 x7 x8 x9 x11 x12 x14 s f h
    rw [w_269_L77] at h
    rw [w_269_L77]
    exact ⟨h.1, ⟨h.2.1, ⟨(fun c1 => (hX104 _ _ _ _ _ _ _ _ _ _ _ f (h.2.2.1 c1))), (fun c2 => ⟨(h.2.2.2 c2).1, ⟨(h.2.2.2 c2).2.1, (ih _ _ _ _ _ _ _ _ _ _ _ f (h.2.2.2 c2).2.2)⟩⟩)⟩⟩⟩
theorem fm_w_269_L57 {s0 : ST} {X162 X162' : Int32 → Int64 → Int32 → Int32 → Int64 → Value → ST → Prop} {X120 X120' : Int64 → Int64 → Int64 → Int32 → ST → Prop} {K K' : Int32 → ST → Prop} (hX162 : ∀ (v0 : Int32) (v1 : Int64) (v2 : Int32) (v3 : Int32) (v4 : Int64) (v5 : Value) (s1 : ST), Fr fs110 s0 s1 → X162 v0 v1 v2 v3 v4 v5 s1 → X162' v0 v1 v2 v3 v4 v5 s1) (hX120 : ∀ (v0 : Int64) (v1 : Int64) (v2 : Int64) (v3 : Int32) (s1 : ST), Fr fs110 s0 s1 → X120 v0 v1 v2 v3 s1 → X120' v0 v1 v2 v3 s1) (hK : ∀ (v0 : Int32) (s1 : ST), Fr fs110 s0 s1 → K v0 s1 → K' v0 s1) : ∀ (n : Nat) (x1 : Int32) (x3 : Int32) (x4 : Int64) (x6 : Int32) (x7 : Int32) (x8 : Int32) (x9 : Int64) (x11 : Int32) (x12 : Value) (s : ST), Fr fs110 s0 s → w_269_L57 n x1 x3 x4 x6 x7 x8 x9 x11 x12 s X162 X120 K → w_269_L57 n x1 x3 x4 x6 x7 x8 x9 x11 x12 s X162' X120' K' := by
  intro n
  induction n with
  | zero => intro x1 x3 x4 x6 x7 x8 x9 x11 x12 s f h; exact h.elim
  | succ n ih =>
    intro x1 x3 x4 x6 x7 x8 x9 x11 x12 s f h
    rw [w_269_L57] at h
    rw [w_269_L57]
    exact ⟨(fun c1 => (hX162 _ _ _ _ _ _ _ f (h.1 c1))), (fun c2 => ⟨(h.2 c2).1, ⟨(h.2 c2).2.1, (Exists.elim (h.2 c2).2.2 (fun m e3 => ⟨m, (fm_w_269_L77 (fun y1 y3 y4 y6 y7 y8 y9 y11 y12 y14 s8 gs8 h4 => ⟨h4.1, ⟨(fun c5 => ⟨(h4.2.1 c5).1, ⟨(fun c6 => ⟨((h4.2.1 c5).2.1 c6).1, (fm_w_239 _ _ _ (fr_rfl _ _) ((h4.2.1 c5).2.1 c6).2 (fun r10 s9 gs9 h7 => ⟨(fun c8 => ⟨(h7.1 c8).1, ⟨(h7.1 c8).2.1, (ih _ _ _ _ _ _ _ _ _ _ (fr_tr fsb_92_110 (fr_sA 110 gs8) gs9) (h7.1 c8).2.2)⟩⟩), (fun c9 => ⟨(h7.2 c9).1, ⟨(h7.2 c9).2.1, (ih _ _ _ _ _ _ _ _ _ _ (fr_tr fsb_92_110 (fr_sA 110 gs8) gs9) (h7.2 c9).2.2)⟩⟩)⟩))⟩), (fun c10 => (hX120 _ _ _ _ _ (fr_sA 110 gs8) ((h4.2.1 c5).2.2 c10)))⟩⟩), (fun c11 => (ih _ _ _ _ _ _ _ _ _ _ gs8 (h4.2.2 c11)))⟩⟩) hK m _ _ _ _ _ _ _ _ _ _ _ f e3)⟩))⟩⟩)⟩
theorem fm_w_269 {s0 : ST} {K K' : Int32 → ST → Prop} (p1 : Int32) (p2 : Int32) (p3 : Int32) (s : ST) (f : Fr fs110 s0 s) (h : w_269 p1 p2 p3 s K) (hK : ∀ (v0 : Int32) (s1 : ST), Fr fs110 s0 s1 → K v0 s1 → K' v0 s1) : w_269 p1 p2 p3 s K' := by
  unfold w_269 at h ⊢
  exact (fm_w_197 _ _ (fr_rfl _ _) h (fun s1 gs1 h1 => (fm_w_186 _ _ _ _ (fr_rfl _ _) h1 (fun r4 s3 gs3 h2 => ⟨(fun c3 => (hK _ _ (fr_tr fsb_0_110 (fr_tr fsb_72_110 f gs1) gs3) (h2.1 c3))), (fun c4 => (fm_w_186 _ _ _ _ (fr_rfl _ _) (h2.2 c4) (fun r6 s5 gs5 h5 => ⟨(fun c6 => (hK _ _ (fr_tr fsb_0_110 (fr_tr fsb_0_110 (fr_tr fsb_72_110 f gs1) gs3) gs5) (h5.1 c6))), (fun c7 => ⟨(fun c8 => (hK _ _ (fr_tr fsb_0_110 (fr_tr fsb_0_110 (fr_tr fsb_72_110 f gs1) gs3) gs5) ((h5.2 c7).1 c8))), (fun c9 => ⟨(fun c10 => (Exists.elim (((h5.2 c7).2 c9).1 c10) (fun m e11 => ⟨m, (fm_w_269_L25 (fun y1 y2 y3 y4 s7 gs7 h12 => (Exists.elim h12 (fun m e13 => ⟨m, (fm_w_269_L57 (fun y3 y4 y7 y8 y9 y12 s11 gs11 h14 => ⟨(fun c15 => ⟨(fun c16 => ⟨(fun c17 => (hK _ _ gs11 (((h14.1 c15).1 c16).1 c17))), (fun c18 => (hK _ _ gs11 (((h14.1 c15).1 c16).2 c18)))⟩), (fun c19 => (hK _ _ gs11 ((h14.1 c15).2 c19)))⟩), (fun c20 => (hK _ _ gs11 (h14.2 c20)))⟩) (fun y4 y9 y12 y14 s12 gs12 h21 => ⟨h21.1, (hK _ _ gs12 h21.2)⟩) hK m _ _ _ _ _ _ _ _ _ _ gs7 e13)⟩))) hK m _ _ _ _ _ _ (fr_tr fsb_0_110 (fr_tr fsb_0_110 (fr_tr fsb_72_110 f gs1) gs3) gs5) e11)⟩))), (fun c22 => (hK _ _ (fr_tr fsb_0_110 (fr_tr fsb_0_110 (fr_tr fsb_72_110 f gs1) gs3) gs5) (((h5.2 c7).2 c9).2 c22)))⟩)⟩)⟩)))⟩))))
theorem fm_w_270 {s0 : ST} {K K' : Int32 → ST → Prop} (p1 : Int32) (p2 : Int32) (p3 : Int32) (s : ST) (f : Fr fs111 s0 s) (h : w_270 p1 p2 p3 s K) (hK : ∀ (v0 : Int32) (s1 : ST), Fr fs111 s0 s1 → K v0 s1 → K' v0 s1) : w_270 p1 p2 p3 s K' := by
  unfold w_270 at h ⊢
  exact (fm_w_191 _ _ (fr_rfl _ _) h (fun r2 s1 gs1 h1 => ⟨(fun c2 => (hK _ _ (fr_tr fsb_0_111 f gs1) (h1.1 c2))), (fun c3 => (fm_w_190 _ _ (fr_rfl _ _) (h1.2 c3) (fun r4 s3 gs3 h4 => ⟨(fun c5 => (hK _ _ (fr_tr fsb_0_111 (fr_tr fsb_0_111 f gs1) gs3) (h4.1 c5))), (fun c6 => (fm_w_186 _ _ _ _ (fr_rfl _ _) (h4.2 c6) (fun r6 s5 gs5 h7 => ⟨(fun c8 => (hK _ _ (fr_tr fsb_0_111 (fr_tr fsb_0_111 (fr_tr fsb_0_111 f gs1) gs3) gs5) (h7.1 c8))), (fun c9 => ⟨(fun c10 => ⟨((h7.2 c9).1 c10).1, ⟨((h7.2 c9).1 c10).2.1, ⟨((h7.2 c9).1 c10).2.2.1, ⟨((h7.2 c9).1 c10).2.2.2.1, (hK _ _ (fr_sA 114 (fr_sA 113 (fr_sA 112 (fr_sA 111 (fr_sI 5578 (fr_tr fsb_0_111 (fr_tr fsb_0_111 (fr_tr fsb_0_111 f gs1) gs3) gs5)))))) ((h7.2 c9).1 c10).2.2.2.2)⟩⟩⟩⟩), (fun c11 => (hK _ _ (fr_tr fsb_0_111 (fr_tr fsb_0_111 (fr_tr fsb_0_111 f gs1) gs3) gs5) ((h7.2 c9).2 c11)))⟩)⟩)))⟩)))⟩))
theorem fm_w_271 {s0 : ST} {K K' : Int32 → ST → Prop} (p1 : Int32) (s : ST) (f : Fr fs0 s0 s) (h : w_271 p1 s K) (hK : ∀ (v0 : Int32) (s1 : ST), Fr fs0 s0 s1 → K v0 s1 → K' v0 s1) : w_271 p1 s K' := by
  unfold w_271 at h ⊢
  exact ⟨(fun c1 => (hK _ _ f (h.1 c1))), (fun c2 => ⟨(fun c3 => (hK _ _ f ((h.2 c2).1 c3))), (fun c4 => (hK _ _ f ((h.2 c2).2 c4)))⟩)⟩
theorem fm_w_272 {s0 : ST} {K K' : Int32 → ST → Prop} (p1 : Int32) (p2 : Int32) (s : ST) (f : Fr fs112 s0 s) (h : w_272 p1 p2 s K) (hK : ∀ (v0 : Int32) (s1 : ST), Fr fs112 s0 s1 → K v0 s1 → K' v0 s1) : w_272 p1 p2 s K' := by
  unfold w_272 at h ⊢
  exact (fm_w_271 _ _ (fr_rfl _ _) h (fun r2 s1 gs1 h1 => ⟨(fun c2 => (hK _ _ (fr_tr fsb_0_112 f gs1) (h1.1 c2))), (fun c3 => (fm_w_186 _ _ _ _ (fr_rfl _ _) (h1.2 c3) (fun r4 s3 gs3 h4 => ⟨(fun c5 => (hK _ _ (fr_tr fsb_0_112 (fr_tr fsb_0_112 f gs1) gs3) (h4.1 c5))), (fun c6 => ⟨(h4.2 c6).1, ⟨(fun c7 => ⟨((h4.2 c6).2.1 c7).1, (hK _ _ (fr_sA 114 (fr_tr fsb_0_112 (fr_tr fsb_0_112 f gs1) gs3)) ((h4.2 c6).2.1 c7).2)⟩), (fun c8 => (hK _ _ (fr_tr fsb_0_112 (fr_tr fsb_0_112 f gs1) gs3) ((h4.2 c6).2.2 c8)))⟩⟩)⟩)))⟩))
theorem fm_w_273 {s0 : ST} {K K' : Int32 → ST → Prop} (p1 : Int32) (s : ST) (f : Fr fs0 s0 s) (h : w_273 p1 s K) (hK : ∀ (v0 : Int32) (s1 : ST), Fr fs0 s0 s1 → K v0 s1 → K' v0 s1) : w_273 p1 s K' := by
  unfold w_273 at h ⊢
  exact (fm_w_271 _ _ (fr_rfl _ _) h (fun r2 s1 gs1 h1 => ⟨(fun c2 => ⟨(h1.1 c2).1, ⟨(fun c3 => ⟨((h1.1 c2).2.1 c3).1, (fm_w_194 _ _ _ (fr_rfl _ _) ((h1.1 c2).2.1 c3).2 (fun r4 s3 gs3 h4 => ⟨(fun c5 => (hK _ _ (fr_tr fsb_0_0 (fr_tr fsb_0_0 f gs1) gs3) (h4.1 c5))), (fun c6 => ⟨(h4.2 c6).1, ⟨(fun c7 => (hK _ _ (fr_tr fsb_0_0 (fr_tr fsb_0_0 f gs1) gs3) ((h4.2 c6).2.1 c7))), (fun c8 => (hK _ _ (fr_tr fsb_0_0 (fr_tr fsb_0_0 f gs1) gs3) ((h4.2 c6).2.2 c8)))⟩⟩)⟩))⟩), (fun c9 => ⟨((h1.1 c2).2.2 c9).1, ⟨(fun c10 => (hK _ _ (fr_tr fsb_0_0 f gs1) (((h1.1 c2).2.2 c9).2.1 c10))), (fun c11 => (hK _ _ (fr_tr fsb_0_0 f gs1) (((h1.1 c2).2.2 c9).2.2 c11)))⟩⟩)⟩⟩), (fun c12 => (hK _ _ (fr_tr fsb_0_0 f gs1) (h1.2 c12)))⟩))
theorem fm_w_274 {s0 : ST} {K K' : Int32 → ST → Prop} (p1 : Int32) (s : ST) (f : Fr fs113 s0 s) (h : w_274 p1 s K) (hK : ∀ (v0 : Int32) (s1 : ST), Fr fs113 s0 s1 → K v0 s1 → K' v0 s1) : w_274 p1 s K' := by
  unfold w_274 at h ⊢
  exact (fm_w_190 _ _ (fr_rfl _ _) h (fun r2 s1 gs1 h1 => ⟨(fun c2 => (hK _ _ (fr_tr fsb_0_113 f gs1) (h1.1 c2))), (fun c3 => ⟨(h1.2 c3).1, ⟨(fun c4 => ⟨((h1.2 c3).2.1 c4).1, (hK _ _ (fr_sA 68 (fr_tr fsb_0_113 f gs1)) ((h1.2 c3).2.1 c4).2)⟩), (fun c5 => (hK _ _ (fr_tr fsb_0_113 f gs1) ((h1.2 c3).2.2 c5)))⟩⟩)⟩))
theorem fm_w_275_L15 {s0 : ST} {X46 X46' : Int32 → ST → Prop} {K K' : Int32 → ST → Prop} (hX46 : ∀ (v0 : Int32) (s1 : ST), Fr fs93 s0 s1 → X46 v0 s1 → X46' v0 s1) (hK : ∀ (v0 : Int32) (s1 : ST), Fr fs93 s0 s1 → K v0 s1 → K' v0 s1) : ∀ (n : Nat) (x1 : Int32) (x2 : Int32) (x3 : Int32) (s : ST), Fr fs93 s0 s → w_275_L15 n x1 x2 x3 s X46 K → w_275_L15 n x1 x2 x3 s X46' K' := by
  intro n
  induction n with
  | zero => intro x1 x2 x3 s f h; exact h.elim
  | succ n ih =>
    intro x1 x2 x3 s f h
    rw [w_275_L15] at h
    rw [w_275_L15]
    exact ⟨(fun c1 => (hX46 _ _ f (h.1 c1))), (fun c2 => ⟨(h.2 c2).1, ⟨(h.2 c2).2.1, ⟨(fun c3 => (ih _ _ _ _ f ((h.2 c2).2.2.1 c3))), (fun c4 => ⟨(fun c5 => (ih _ _ _ _ f (((h.2 c2).2.2.2 c4).1 c5))), (fun c6 => ⟨(((h.2 c2).2.2.2 c4).2 c6).1, (fm_w_239 _ _ _ (fr_rfl _ _) (((h.2 c2).2.2.2 c4).2 c6).2 (fun r6 s5 gs5 h7 => ⟨(fun c8 => (ih _ _ _ _ (fr_tr fsb_92_93 f gs5) (h7.1 c8))), (fun c9 => (ih _ _ _ _ (fr_tr fsb_92_93 f gs5) (h7.2 c9)))⟩))⟩)⟩)⟩⟩⟩)⟩
theorem fm_w_275 {s0 : ST} {K K' : Int32 → ST → Prop} (p1 : Int32) (s : ST) (f : Fr fs93 s0 s) (h : w_275 p1 s K) (hK : ∀ (v0 : Int32) (s1 : ST), Fr fs93 s0 s1 → K v0 s1 → K' v0 s1) : w_275 p1 s K' := by
  unfold w_275 at h ⊢
  exact (fm_w_186 _ _ _ _ (fr_rfl _ _) h (fun r2 s1 gs1 h1 => ⟨(fun c2 => (fm_w_197 _ _ (fr_rfl _ _) (h1.1 c2) (fun s3 gs3 h3 => (Exists.elim h3 (fun m e4 => ⟨m, (fm_w_275_L15 (fun y2 s7 gs7 h5 => (hK _ _ gs7 h5)) hK m _ _ _ _ (fr_tr fsb_72_93 (fr_tr fsb_0_93 f gs1) gs3) e4)⟩))))), (fun c6 => (hK _ _ (fr_tr fsb_0_93 f gs1) (h1.2 c6)))⟩))
theorem fm_w_276 {s0 : ST} {K K' : Int32 → ST → Prop} (p1 : Int32) (p2 : Int32) (p3 : Int32) (s : ST) (f : Fr fs114 s0 s) (h : w_276 p1 p2 p3 s K) (hK : ∀ (v0 : Int32) (s1 : ST), Fr fs114 s0 s1 → K v0 s1 → K' v0 s1) : w_276 p1 p2 p3 s K' := by
  unfold w_276 at h ⊢
  exact (fm_w_186 _ _ _ _ (fr_rfl _ _) h (fun r2 s1 gs1 h1 => ⟨(fun c2 => (hK _ _ (fr_tr fsb_0_114 f gs1) (h1.1 c2))), (fun c3 => (fm_w_186 _ _ _ _ (fr_rfl _ _) (h1.2 c3) (fun r4 s3 gs3 h4 => ⟨(fun c5 => (hK _ _ (fr_tr fsb_0_114 (fr_tr fsb_0_114 f gs1) gs3) (h4.1 c5))), (fun c6 => (fm_w_186 _ _ _ _ (fr_rfl _ _) (h4.2 c6) (fun r6 s5 gs5 h7 => ⟨(fun c8 => (hK _ _ (fr_tr fsb_0_114 (fr_tr fsb_0_114 (fr_tr fsb_0_114 f gs1) gs3) gs5) (h7.1 c8))), (fun c9 => ⟨(fun c10 => ⟨((h7.2 c9).1 c10).1, ⟨((h7.2 c9).1 c10).2.1, ⟨((h7.2 c9).1 c10).2.2.1, (hK _ _ (fr_sA 117 (fr_sA 116 (fr_sA 115 (fr_sI 5579 (fr_tr fsb_0_114 (fr_tr fsb_0_114 (fr_tr fsb_0_114 f gs1) gs3) gs5))))) ((h7.2 c9).1 c10).2.2.2)⟩⟩⟩), (fun c11 => (hK _ _ (fr_tr fsb_0_114 (fr_tr fsb_0_114 (fr_tr fsb_0_114 f gs1) gs3) gs5) ((h7.2 c9).2 c11)))⟩)⟩)))⟩)))⟩))
theorem fm_w_277_L2 {s0 : ST} {X32 X32' : ST → Prop} {X28 X28' : ST → Prop} {K K' : Int32 → ST → Prop} (hX32 : ∀ (s1 : ST), Fr fs0 s0 s1 → X32 s1 → X32' s1) (hX28 : ∀ (s1 : ST), Fr fs0 s0 s1 → X28 s1 → X28' s1) (hK : ∀ (v0 : Int32) (s1 : ST), Fr fs0 s0 s1 → K v0 s1 → K' v0 s1) : ∀ (n : Nat) (x1 : Int32) (x2 : Int32) (s : ST), Fr fs0 s0 s → w_277_L2 n x1 x2 s X32 X28 K → w_277_L2 n x1 x2 s X32' X28' K' := by
  intro n
  induction n with
  | zero => intro x1 x2 s f h; exact h.elim
  | succ n ih =>
    intro x1 x2 s f h
    rw [w_277_L2] at h
    rw [w_277_L2]
    exact ⟨(fun c1 => (hX32 _ f (h.1 c1))), (fun c2 => ⟨(fun c3 => (ih _ _ _ f ((h.2 c2).1 c3))), (fun c4 => ⟨((h.2 c2).2 c4).1, ⟨(fun c5 => (ih _ _ _ f (((h.2 c2).2 c4).2.1 c5))), (fun c6 => ⟨(((h.2 c2).2 c4).2.2 c6).1, ⟨(fun c7 => (ih _ _ _ f ((((h.2 c2).2 c4).2.2 c6).2.1 c7))), (fun c8 => (hX28 _ f ((((h.2 c2).2 c4).2.2 c6).2.2 c8)))⟩⟩)⟩⟩)⟩)⟩
theorem fm_w_277 {s0 : ST} {K K' : Int32 → ST → Prop} (p1 : Int32) (s : ST) (f : Fr fs0 s0 s) (h : w_277 p1 s K) (hK : ∀ (v0 : Int32) (s1 : ST), Fr fs0 s0 s1 → K v0 s1 → K' v0 s1) : w_277 p1 s K' := by
  unfold w_277 at h ⊢
  exact (Exists.elim h (fun m e1 => ⟨m, (fm_w_277_L2 (fun s1 gs1 h2 => (hK _ _ gs1 h2)) (fun s2 gs2 h3 => (hK _ _ gs2 h3)) hK m _ _ _ f e1)⟩))
theorem fm_w_278_L4 {s0 : ST} {X32 X32' : Int32 → ST → Prop} {K K' : Int32 → ST → Prop} (hX32 : ∀ (v0 : Int32) (s1 : ST), Fr fs0 s0 s1 → X32 v0 s1 → X32' v0 s1) (hK : ∀ (v0 : Int32) (s1 : ST), Fr fs0 s0 s1 → K v0 s1 → K' v0 s1) : ∀ (n : Nat) (x1 : Int32) (x2 : Int32) (x3 : Int32) (x4 : Int32) (s : ST), Fr fs0 s0 s → w_278_L4 n x1 x2 x3 x4 s X32 K → w_278_L4 n x1 x2 x3 x4 s X32' K' := by
  intro n
  induction n with
  | zero => intro x1 x2 x3 x4 s f h; exact h.elim
  | succ n ih =>
    intro x1 x2 x3 x4 s f h
    rw [w_278_L4] at h
    rw [w_278_L4]
    exact ⟨(fun c1 => (hX32 _ _ f (h.1 c1))), (fun c2 => ⟨(fun c3 => ⟨(fun c4 => ⟨(((h.2 c2).1 c3).1 c4).1, (ih _ _ _ _ _ f (((h.2 c2).1 c3).1 c4).2)⟩), (fun c5 => ⟨(((h.2 c2).1 c3).2 c5).1, (ih _ _ _ _ _ f (((h.2 c2).1 c3).2 c5).2)⟩)⟩), (fun c6 => (ih _ _ _ _ _ f ((h.2 c2).2 c6)))⟩)⟩
theorem fm_w_278 {s0 : ST} {K K' : Int32 → ST → Prop} (p1 : Int32) (p2 : Int32) (s : ST) (f : Fr fs0 s0 s) (h : w_278 p1 p2 s K) (hK : ∀ (v0 : Int32) (s1 : ST), Fr fs0 s0 s1 → K v0 s1 → K' v0 s1) : w_278 p1 p2 s K' := by
  unfold w_278 at h ⊢
  exact (Exists.elim h (fun m e1 => ⟨m, (fm_w_278_L4 (fun y3 s1 gs1 h2 => (hK _ _ gs1 h2)) hK m _ _ _ _ _ f e1)⟩))
