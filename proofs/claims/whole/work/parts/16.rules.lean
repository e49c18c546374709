/-! ===== runs of the pure machine by rules ===== -/
section EX
variable {sc : Nat × (Nat → Int32)}
theorem pex_up : ∀ (f d μ i : Nat) (L S : List Value) (h : PH) (r : Option Value × PH), pex prog sc f d μ i L S h = some r → pex prog sc (f + 1) d μ i L S h = some r := by
  intro f
  induction f with
  | zero => intro d μ i L S h r hx; cases hx
  | succ f ih =>
    intro d μ i L S h r hx
    rw [pex] at hx ⊢
    cases hq : prog[μ]? with
    | none => rw [hq] at hx; cases hx
    | some q =>
      simp only [hq] at hx ⊢
      cases he : q.2.2.2.2[i]? with
      | none => rw [he] at hx; cases hx
      | some e =>
        simp only [he] at hx ⊢
        cases hst : stp sc q.2.2.2.1 d e.2.1 e.2.2 L S h with
        | none => rw [hst] at hx; cases hx
        | some R =>
          simp only [hst] at hx ⊢
          rcases R with ⟨j, L', S', h'⟩ | ⟨μ', as, S'⟩ | v
          · cases j with
            | zero => exact ih _ _ _ _ _ _ _ hx
            | succ t => exact ih _ _ _ _ _ _ _ hx
          · cases d with
            | zero => cases hx
            | succ d' =>
              simp only at hx ⊢
              cases hq' : prog[μ']? with
              | none => rw [hq'] at hx; cases hx
              | some q' =>
                simp only [hq'] at hx ⊢
                by_cases hent : (pent as q'.2.2.1).length = q'.2.2.1
                · rw [if_pos hent] at hx ⊢
                  cases hc : pex prog sc f d' μ' 0 (pent as q'.2.2.1) [] h with
                  | none => rw [hc] at hx; cases hx
                  | some vh =>
                    rw [ih _ _ _ _ _ _ _ hc]
                    rw [hc] at hx
                    exact ih _ _ _ _ _ _ _ hx
                · rw [if_neg hent] at hx
                  cases hx
          · exact hx
theorem pex_le {f g d μ i : Nat} {L S : List Value} {h : PH} {r : Option Value × PH} (hfg : f ≤ g) (hx : pex prog sc f d μ i L S h = some r) : pex prog sc g d μ i L S h = some r := by
  induction hfg with
  | refl => exact hx
  | step _ ih => exact pex_up _ _ _ _ _ _ _ _ ih
/-- from this place on the run ends, and what it answers and leaves is K -/
def Ex (sc : Nat × (Nat → Int32)) (d μ i : Nat) (L S : List Value) (h : PH) (K : Option Value → PH → Prop) : Prop := ∃ (f : Nat) (v : Option Value) (h' : PH), pex prog sc f d μ i L S h = some (v, h') ∧ K v h'
/-- the method, called with as -/
def Rn (sc : Nat × (Nat → Int32)) (d μ : Nat) (as : List Value) (h : PH) (K : Option Value → PH → Prop) : Prop := ∃ q, prog[μ]? = some q ∧ (pent as q.2.2.1).length = q.2.2.1 ∧ Ex sc d μ 0 (pent as q.2.2.1) [] h K
theorem Ex.mono {d μ i : Nat} {L S : List Value} {h : PH} {K K' : Option Value → PH → Prop} (k : Ex sc d μ i L S h K) (hk : ∀ v h', K v h' → K' v h') : Ex sc d μ i L S h K' := by
  obtain ⟨f, v, h', h1, h2⟩ := k
  exact ⟨f, v, h', h1, hk v h' h2⟩
theorem Rn.mono {d μ : Nat} {as : List Value} {h : PH} {K K' : Option Value → PH → Prop} (k : Rn sc d μ as h K) (hk : ∀ v h', K v h' → K' v h') : Rn sc d μ as h K' := by
  obtain ⟨q, h1, h2, h3⟩ := k
  exact ⟨q, h1, h2, h3.mono hk⟩
theorem Rn.of {d μ : Nat} {as L : List Value} {h : PH} {K : Option Value → PH → Prop} {q : PM} (hq : prog[μ]? = some q) (hl : pent as q.2.2.1 = L) (hn : L.length = q.2.2.1) (k : Ex sc d μ 0 L [] h K) : Rn sc d μ as h K := by
  subst hl
  exact ⟨q, hq, hn, k⟩
theorem Ex.nx {d μ i : Nat} {L S L' S' : List Value} {h h' : PH} {K : Option Value → PH → Prop} {q : PM} {pc : Nat} {ins : Instr} {ex : List Nat} (hq : prog[μ]? = some q) (he : q.2.2.2.2[i]? = some (pc, ins, ex)) (hs : stp sc q.2.2.2.1 d ins ex L S h = some (.inl (0, L', S', h'))) (k : Ex sc d μ (i + 1) L' S' h' K) : Ex sc d μ i L S h K := by
  obtain ⟨f, v, h2, h3, h4⟩ := k
  refine ⟨f + 1, v, h2, ?_, h4⟩
  rw [pex]
  simp only [hq, he, hs]
  exact h3
theorem Ex.jp {d μ i t : Nat} {L S L' S' : List Value} {h h' : PH} {K : Option Value → PH → Prop} {q : PM} {pc : Nat} {ins : Instr} {ex : List Nat} (hq : prog[μ]? = some q) (he : q.2.2.2.2[i]? = some (pc, ins, ex)) (hs : stp sc q.2.2.2.1 d ins ex L S h = some (.inl (t + 1, L', S', h'))) (k : Ex sc d μ t L' S' h' K) : Ex sc d μ i L S h K := by
  obtain ⟨f, v, h2, h3, h4⟩ := k
  refine ⟨f + 1, v, h2, ?_, h4⟩
  rw [pex]
  simp only [hq, he, hs]
  exact h3
theorem Ex.rt {d μ i : Nat} {L S : List Value} {h : PH} {v : Option Value} {K : Option Value → PH → Prop} {q : PM} {pc : Nat} {ins : Instr} {ex : List Nat} (hq : prog[μ]? = some q) (he : q.2.2.2.2[i]? = some (pc, ins, ex)) (hs : stp sc q.2.2.2.1 d ins ex L S h = some (.inr (.inr v))) (k : K v h) : Ex sc d μ i L S h K := by
  refine ⟨1, v, h, ?_, k⟩
  rw [pex]
  simp only [hq, he, hs]
theorem Ex.cl {d μ i μ' : Nat} {L S as S' : List Value} {h : PH} {K : Option Value → PH → Prop} {q : PM} {pc : Nat} {ins : Instr} {ex : List Nat} (hq : prog[μ]? = some q) (he : q.2.2.2.2[i]? = some (pc, ins, ex)) (hs : stp sc q.2.2.2.1 (d + 1) ins ex L S h = some (.inr (.inl (μ', as, S')))) (k : Rn sc d μ' as h (fun v h' => Ex sc (d + 1) μ (i + 1) L (v.toList ++ S') h' K)) : Ex sc (d + 1) μ i L S h K := by
  obtain ⟨q', h1, h2, f, v, h3, h4, g, w, h5, h6, h7⟩ := k
  refine ⟨max f g + 1, w, h5, ?_, h7⟩
  rw [pex]
  simp only [hq, he, hs, h1]
  rw [if_pos h2, pex_le (Nat.le_max_left f g) h4]
  exact pex_le (Nat.le_max_right f g) h6
theorem Ex.br {d μ i t : Nat} {L S L' S' : List Value} {h h' : PH} {K : Option Value → PH → Prop} {q : PM} {pc : Nat} {ins : Instr} {ex : List Nat} {b : Bool} (hq : prog[μ]? = some q) (he : q.2.2.2.2[i]? = some (pc, ins, ex)) (hs : stp sc q.2.2.2.1 d ins ex L S h = pif b [t] L' S' h') (kt : b = true → Ex sc d μ t L' S' h' K) (kf : b = false → Ex sc d μ (i + 1) L' S' h' K) : Ex sc d μ i L S h K := by
  cases b with
  | true => exact Ex.jp hq he hs (kt rfl)
  | false => exact Ex.nx hq he hs (kf rfl)
def pcp (o : ClassFile.Cond) (x y : Int32) : Prop := match o with
  | .eq => x = y
  | .ne => ¬ x = y
  | .lt => x < y
  | .ge => y ≤ x
  | .gt => y < x
  | .le => x ≤ y
theorem pcp_t {o : ClassFile.Cond} {x y : Int32} (h : pcmp o x y = true) : pcp o x y := by
  cases o <;> simpa [pcmp, pcp] using h
theorem pcp_f {o : ClassFile.Cond} {x y : Int32} (h : pcmp o x y = false) : ¬ pcp o x y := by
  cases o <;> simpa [pcmp, pcp] using h
theorem Ex.i2 {d μ i t : Nat} {L S : List Value} {h : PH} {K : Option Value → PH → Prop} {q : PM} {pc : Nat} {o : ClassFile.Cond} {off : Int} {x y : Int32} (hq : prog[μ]? = some q) (he : q.2.2.2.2[i]? = some (pc, .if_icmp o off, [t])) (kt : pcp o x y → Ex sc d μ t L S h K) (kf : ¬ pcp o x y → Ex sc d μ (i + 1) L S h K) : Ex sc d μ i L (.int y :: .int x :: S) h K :=
  Ex.br hq he (b := pcmp o x y) rfl (fun z => kt (pcp_t z)) (fun z => kf (pcp_f z))
theorem Ex.i1 {d μ i t : Nat} {L S : List Value} {h : PH} {K : Option Value → PH → Prop} {q : PM} {pc : Nat} {o : ClassFile.Cond} {off : Int} {x : Int32} (hq : prog[μ]? = some q) (he : q.2.2.2.2[i]? = some (pc, .ifCond o off, [t])) (kt : pcp o x 0 → Ex sc d μ t L S h K) (kf : ¬ pcp o x 0 → Ex sc d μ (i + 1) L S h K) : Ex sc d μ i L (.int x :: S) h K :=
  Ex.br hq he (b := pcmp o x 0) rfl (fun z => kt (pcp_t z)) (fun z => kf (pcp_f z))
/-- an index within -/
theorem Ex.ial {d μ i n : Nat} {L S : List Value} {h : PH} {K : Option Value → PH → Prop} {q : PM} {pc a : Nat} {ex : List Nat} {x : Int32} {f : Nat → Int32} (hq : prog[μ]? = some q) (he : q.2.2.2.2[i]? = some (pc, .iaload, ex)) (hr : prow h a 0 = some (n, f)) (hin : pin x n = true) (k : Ex sc d μ (i + 1) L (.int (f x.toNatClampNeg) :: S) h K) : Ex sc d μ i L (.int x :: .ref a :: S) h K :=
  Ex.nx hq he (by simp only [stp, pial, hr, hin, if_true]) k
theorem Ex.ias {d μ i n : Nat} {L S : List Value} {h h' : PH} {K : Option Value → PH → Prop} {q : PM} {pc a : Nat} {ex : List Nat} {x v : Int32} {f : Nat → Int32} (hq : prog[μ]? = some q) (he : q.2.2.2.2[i]? = some (pc, .iastore, ex)) (hr : prow h a 0 = some (n, f)) (hin : pin x n = true) (hh : h.set a (.inl (0, n, .inl (upd f x.toNatClampNeg v))) = h') (k : Ex sc d μ (i + 1) L S h' K) : Ex sc d μ i L (.int v :: .int x :: .ref a :: S) h K :=
  Ex.nx hq he (by simp only [stp, pias, hr, hin, if_true, hh]) k
theorem Ex.lal {d μ i n : Nat} {L S : List Value} {h : PH} {K : Option Value → PH → Prop} {q : PM} {pc a : Nat} {ex : List Nat} {x : Int32} {f : Nat → Int64} (hq : prog[μ]? = some q) (he : q.2.2.2.2[i]? = some (pc, .laload, ex)) (hr : prowL h a = some (n, f)) (hin : pin x n = true) (k : Ex sc d μ (i + 1) L (.long (f x.toNatClampNeg) :: S) h K) : Ex sc d μ i L (.int x :: .ref a :: S) h K :=
  Ex.nx hq he (by simp only [stp, plal, hr, hin, if_true]) k
theorem Ex.las {d μ i n : Nat} {L S : List Value} {h h' : PH} {K : Option Value → PH → Prop} {q : PM} {pc a : Nat} {ex : List Nat} {x : Int32} {v : Int64} {f : Nat → Int64} (hq : prog[μ]? = some q) (he : q.2.2.2.2[i]? = some (pc, .lastore, ex)) (hr : prowL h a = some (n, f)) (hin : pin x n = true) (hh : h.set a (.inl (1, n, .inr (.inl (vp_updL f x.toNatClampNeg v)))) = h') (k : Ex sc d μ (i + 1) L S h' K) : Ex sc d μ i L (.long v :: .int x :: .ref a :: S) h K :=
  Ex.nx hq he (by simp only [stp, plas, hr, hin, if_true, hh]) k
theorem Ex.zal {d μ i n : Nat} {L S : List Value} {h : PH} {K : Option Value → PH → Prop} {q : PM} {pc a : Nat} {ex : List Nat} {x : Int32} {f : Nat → Int32} (hq : prog[μ]? = some q) (he : q.2.2.2.2[i]? = some (pc, .baload, ex)) (hr : prow h a 2 = some (n, f)) (hin : pin x n = true) (k : Ex sc d μ (i + 1) L (.int (f x.toNatClampNeg) :: S) h K) : Ex sc d μ i L (.int x :: .ref a :: S) h K :=
  Ex.nx hq he (by simp only [stp, pbal, hr, hin, if_true]) k
theorem Ex.zas {d μ i n : Nat} {L S : List Value} {h h' : PH} {K : Option Value → PH → Prop} {q : PM} {pc a : Nat} {ex : List Nat} {x v : Int32} {f : Nat → Int32} (hq : prog[μ]? = some q) (he : q.2.2.2.2[i]? = some (pc, .bastore, ex)) (hr : prow h a 2 = some (n, f)) (hin : pin x n = true) (hh : h.set a (.inl (2, n, .inl (upd f x.toNatClampNeg (vp_nar .boolean v)))) = h') (k : Ex sc d μ (i + 1) L S h' K) : Ex sc d μ i L (.int v :: .int x :: .ref a :: S) h K :=
  Ex.nx hq he (by simp only [stp, pbas, hr, hin, if_true, hh]) k
theorem Ex.zr {d μ i : Nat} {L : List Value} {h : PH} {x : Int32} {K : Option Value → PH → Prop} {q : PM} {pc : Nat} {ex : List Nat} (hq : prog[μ]? = some q) (he : q.2.2.2.2[i]? = some (pc, .ireturn, ex)) (hrt : q.2.2.2.1 = some .boolean) (hx : x = 0 ∨ x = 1) (k : K (some (.int x)) h) : Ex sc d μ i L [.int x] h K :=
  Ex.rt hq he (by simp only [stp, piret, hrt, hx, if_true]) k
theorem Ex.dv {d μ i : Nat} {L S : List Value} {h : PH} {K : Option Value → PH → Prop} {q : PM} {pc : Nat} {ex : List Nat} {x y : Int32} (hq : prog[μ]? = some q) (he : q.2.2.2.2[i]? = some (pc, .idiv, ex)) (hy : ¬ y = 0) (k : Ex sc d μ (i + 1) L (.int (x / y) :: S) h K) : Ex sc d μ i L (.int y :: .int x :: S) h K :=
  Ex.nx hq he (by simp only [stp, pb2n, hy, if_false]) k
theorem Ex.bal {d μ i n : Nat} {L S : List Value} {h : PH} {K : Option Value → PH → Prop} {q : PM} {pc a : Nat} {ex : List Nat} {x : Int32} {f : Nat → Int32} (hq : prog[μ]? = some q) (he : q.2.2.2.2[i]? = some (pc, .baload, ex)) (hr : prow h a 2 = none ∧ prow h a 3 = some (n, f)) (hin : pin x n = true) (k : Ex sc d μ (i + 1) L (.int (f x.toNatClampNeg) :: S) h K) : Ex sc d μ i L (.int x :: .ref a :: S) h K :=
  Ex.nx hq he (by simp only [stp, pbal, hr.1, hr.2, hin, if_true]) k
theorem Ex.bas {d μ i n : Nat} {L S : List Value} {h h' : PH} {K : Option Value → PH → Prop} {q : PM} {pc a : Nat} {ex : List Nat} {x v : Int32} {f : Nat → Int32} (hq : prog[μ]? = some q) (he : q.2.2.2.2[i]? = some (pc, .bastore, ex)) (hr : prow h a 2 = none ∧ prow h a 3 = some (n, f)) (hin : pin x n = true) (hh : h.set a (.inl (3, n, .inl (upd f x.toNatClampNeg (vp_nar .byte v)))) = h') (k : Ex sc d μ (i + 1) L S h' K) : Ex sc d μ i L (.int v :: .int x :: .ref a :: S) h K :=
  Ex.nx hq he (by simp only [stp, pbas, hr.1, hr.2, hin, if_true, hh]) k
theorem Ex.rm {d μ i : Nat} {L S : List Value} {h : PH} {K : Option Value → PH → Prop} {q : PM} {pc : Nat} {ex : List Nat} {x y : Int32} (hq : prog[μ]? = some q) (he : q.2.2.2.2[i]? = some (pc, .irem, ex)) (hy : ¬ y = 0) (k : Ex sc d μ (i + 1) L (.int (x - x / y * y) :: S) h K) : Ex sc d μ i L (.int y :: .int x :: S) h K :=
  Ex.nx hq he (by simp only [stp, pb2n, hy, if_false]) k
theorem Ex.ldv {d μ i : Nat} {L S : List Value} {h : PH} {K : Option Value → PH → Prop} {q : PM} {pc : Nat} {ex : List Nat} {x y : Int64} (hq : prog[μ]? = some q) (he : q.2.2.2.2[i]? = some (pc, .ldiv, ex)) (hy : ¬ y = 0) (k : Ex sc d μ (i + 1) L (.long (x / y) :: S) h K) : Ex sc d μ i L (.long y :: .long x :: S) h K :=
  Ex.nx hq he (by simp only [stp, pl2n, hy, if_false]) k
theorem Ex.lrm {d μ i : Nat} {L S : List Value} {h : PH} {K : Option Value → PH → Prop} {q : PM} {pc : Nat} {ex : List Nat} {x y : Int64} (hq : prog[μ]? = some q) (he : q.2.2.2.2[i]? = some (pc, .lrem, ex)) (hy : ¬ y = 0) (k : Ex sc d μ (i + 1) L (.long (x - x / y * y) :: S) h K) : Ex sc d μ i L (.long y :: .long x :: S) h K :=
  Ex.nx hq he (by simp only [stp, pl2n, hy, if_false]) k
/-- a switch -/
theorem Ex.tsw {d μ i t0 : Nat} {L S : List Value} {h : PH} {K : Option Value → PH → Prop} {q : PM} {pc : Nat} {df lo hi : Int} {offs : Array Int} {ts : List Nat} {x : Int32} (hq : prog[μ]? = some q) (he : q.2.2.2.2[i]? = some (pc, .tableswitch df lo hi offs, t0 :: ts)) (ko : x.toInt < lo ∨ hi < x.toInt → Ex sc d μ t0 L S h K) (ki : ∀ t, ¬ (x.toInt < lo ∨ hi < x.toInt) → ts[(x.toInt - lo).toNat]? = some t → Ex sc d μ t L S h K) (hl : ((hi - lo).toNat < ts.length)) : Ex sc d μ i L (.int x :: S) h K := by
  by_cases hc : x.toInt < lo ∨ hi < x.toInt
  · exact Ex.jp hq he (by simp only [stp, ptab, hc, if_true]) (ko hc)
  · have hlt : (x.toInt - lo).toNat < ts.length := by omega
    have ht : ts[(x.toInt - lo).toNat]? = some ts[(x.toInt - lo).toNat] := List.getElem?_eq_getElem hlt
    exact Ex.jp hq he (by simp only [stp, ptab, hc, if_false, ht]) (ki _ hc ht)
theorem Ex.lsw {d μ i t0 t : Nat} {L S : List Value} {h : PH} {K : Option Value → PH → Prop} {q : PM} {pc : Nat} {df : Int} {ps : Array (Int × Int)} {ts : List Nat} {x : Int32} (hq : prog[μ]? = some q) (he : q.2.2.2.2[i]? = some (pc, .lookupswitch df ps, t0 :: ts)) (ht : plook ps.toList ts t0 x.toInt = t) (k : Ex sc d μ t L S h K) : Ex sc d μ i L (.int x :: S) h K :=
  Ex.jp hq he (by simp only [stp, ht]) k
/-- a stretch without branches or calls, at once -/
def pseg (q : PM) (sc : Nat × (Nat → Int32)) (d : Nat) : Nat → Nat → List Value → List Value → PH → Option (Nat × List Value × List Value × PH)
  | 0, i, L, S, h => some (i, L, S, h)
  | n + 1, i, L, S, h => match q.2.2.2.2[i]? with
    | none => none
    | some e => match stp sc q.2.2.2.1 d e.2.1 e.2.2 L S h with
      | some (.inl (0, L', S', h')) => pseg q sc d n (i + 1) L' S' h'
      | some (.inl (t + 1, L', S', h')) => pseg q sc d n t L' S' h'
      | _ => none
theorem Ex.seg {d μ : Nat} {K : Option Value → PH → Prop} {q : PM} (hq : prog[μ]? = some q) : ∀ (n : Nat) {i j : Nat} {L S L' S' : List Value} {h h' : PH}, pseg q sc d n i L S h = some (j, L', S', h') → Ex sc d μ j L' S' h' K → Ex sc d μ i L S h K
  | 0, i, j, L, S, L', S', h, h', hs, k => by
    cases hs
    exact k
  | n + 1, i, j, L, S, L', S', h, h', hs, k => by
    rw [pseg] at hs
    split at hs
    · cases hs
    · rename_i e he
      obtain ⟨pc, ins, ex⟩ := e
      split at hs
      · rename_i hst
        exact Ex.nx hq he hst (Ex.seg hq n hs k)
      · rename_i hst
        exact Ex.jp hq he hst (Ex.seg hq n hs k)
      · cases hs
/-- what nobody reads may be anything -/
def Lw : List Value → List Value → Prop
  | [], [] => True
  | a :: l, b :: m => (a = b ∨ (a = pu ∧ b.category = 1)) ∧ Lw l m
  | _, _ => False
theorem Lw.rf : ∀ L : List Value, Lw L L
  | [] => trivial
  | _ :: l => ⟨Or.inl rfl, Lw.rf l⟩
theorem Lw.len : ∀ {L M : List Value}, Lw L M → L.length = M.length
  | [], [], _ => rfl
  | [], _ :: _, h => h.elim
  | _ :: _, [], h => h.elim
  | _ :: l, _ :: m, h => by
    simp only [List.length_cons]
    rw [Lw.len h.2]
theorem Lw.at : ∀ {L M : List Value} {i : Nat} {v : Value}, Lw L M → L[i]? = some v → v ≠ pu → M[i]? = some v
  | [], _, i, v, _, hi, _ => by simp at hi
  | _ :: _, [], _, _, h, _, _ => h.elim
  | a :: l, b :: m, 0, v, h, hi, hv => by
    simp at hi
    subst hi
    rcases h.1 with e | e
    · rw [e]; rfl
    · exact absurd e.1 hv
  | a :: l, b :: m, i + 1, v, h, hi, hv => by
    simp at hi
    simpa using Lw.at h.2 hi hv
theorem Lw.set : ∀ {L M : List Value} (i : Nat) (v : Value), Lw L M → Lw (L.set i v) (M.set i v)
  | [], [], _, _, _ => trivial
  | [], _ :: _, _, _, h => h.elim
  | _ :: _, [], _, _, h => h.elim
  | a :: l, b :: m, 0, v, h => ⟨Or.inl rfl, h.2⟩
  | a :: l, b :: m, i + 1, v, h => ⟨h.1, Lw.set i v h.2⟩
theorem Lw.cat : ∀ {L M : List Value} {k : Nat}, Lw L M → (∀ x, M[k]? = some (.long x) → L[k]? = some (.long x)) ∧ (∀ x, M[k]? = some (.double x) → L[k]? = some (.double x))
  | [], [], k, _ => by simp
  | [], _ :: _, _, h => h.elim
  | _ :: _, [], _, h => h.elim
  | a :: l, b :: m, 0, h => by
    rcases h.1 with e | e
    · rw [e]; simp
    · constructor
      · intro x hx
        simp at hx
        rw [hx] at e
        exact absurd e.2 (by simp [Value.category])
      · intro x hx
        simp at hx
        rw [hx] at e
        exact absurd e.2 (by simp [Value.category])
  | a :: l, b :: m, k + 1, h => by
    simpa using Lw.cat (k := k) h.2
theorem Lw.pc {L M : List Value} {i : Nat} (h : Lw L M) (hc : pcat L i = true) : pcat M i = true := by
  cases i with
  | zero => rfl
  | succ k =>
    unfold pcat at hc ⊢
    simp only at hc ⊢
    have hk := Lw.cat (k := k) h
    cases hm : M[k]? with
    | none => rfl
    | some v =>
      cases v <;> first | rfl | skip
      · rw [hk.1 _ hm] at hc
        simp at hc
      · rw [hk.2 _ hm] at hc
        simp at hc
theorem Lw.st1 {L M L' : List Value} {i : Nat} {v : Value} (h : Lw L M) (hs : pst L i v = some L') : ∃ M', pst M i v = some M' ∧ Lw L' M' := by
  obtain ⟨h1, h2, rfl⟩ := pst_spec hs
  refine ⟨M.set i v, ?_, h.set i v⟩
  unfold pst
  rw [if_pos ⟨by rw [← h.len]; exact h1, h.pc h2⟩]
theorem Lw.st2 {L M L' : List Value} {i : Nat} {v : Value} (h : Lw L M) (hs : pst2 L i v = some L') : ∃ M', pst2 M i v = some M' ∧ Lw L' M' := by
  obtain ⟨h1, h2, rfl⟩ := pst2_spec hs
  refine ⟨(M.set i v).set (i + 1) pu, ?_, (h.set i v).set (i + 1) pu⟩
  unfold pst2
  rw [if_pos ⟨by rw [← h.len]; exact h1, h.pc h2⟩]
def pswap (M : List Value) : PR → PR
  | .inl (j, _, S, h) => .inl (j, M, S, h)
  | r => r
def isLoc : Instr → Bool
  | .iload _ | .iload_n _ | .lload _ | .lload_n _ | .aload _ | .aload_n _ => true
  | .istore _ | .istore_n _ | .lstore _ | .lstore_n _ | .astore _ | .astore_n _ | .iinc _ _ => true
  | _ => false
theorem pmath_L {d w : Nat} {L M S : List Value} {h : PH} {R : PR} (hs : pmath d w L S h = some R) : pmath d w M S h = some (pswap M R) ∧ ∀ j L' S' h', R = .inl (j, L', S', h') → L' = L := by
  unfold pmath at hs ⊢
  split at hs
  · split at hs
    · rename_i hc
      cases hs
      exact ⟨by simp only [hc, and_self, if_true, pswap], fun _ _ _ _ e => by cases e; rfl⟩
    · cases hs
  · split at hs
    · rename_i hc
      cases hs
      exact ⟨by simp only [hc, and_self, if_true, pswap], fun _ _ _ _ e => by cases e; rfl⟩
    · cases hs
  · split at hs
    · rename_i hc
      cases hs
      exact ⟨by simp only [hc, and_self, if_true, pswap], fun _ _ _ _ e => by cases e; rfl⟩
    · cases hs
  · cases hs
theorem ptab_L {lo hi : Int} {ex : List Nat} {L M S : List Value} {h : PH} {R : PR} (hs : ptab lo hi ex L S h = some R) : ptab lo hi ex M S h = some (pswap M R) ∧ ∀ j L' S' h', R = .inl (j, L', S', h') → L' = L := by
  unfold ptab at hs ⊢
  split at hs
  · split at hs
    · rename_i hc
      cases hs
      exact ⟨by simp only [hc, if_true, pswap], fun _ _ _ _ e => by cases e; rfl⟩
    · rename_i hc
      split at hs
      · rename_i ht
        cases hs
        exact ⟨by simp only [hc, if_false, ht, pswap], fun _ _ _ _ e => by cases e; rfl⟩
      · cases hs
  · cases hs
set_option maxHeartbeats 4000000 in
theorem stp_L {rt : Option FieldType} {d : Nat} {ins : Instr} {ex : List Nat} {L M S : List Value} {h : PH} (hl : isLoc ins = false) {R : PR} (hs : stp sc rt d ins ex L S h = some R) : stp sc rt d ins ex M S h = some (pswap M R) ∧ ∀ j L' S' h', R = .inl (j, L', S', h') → L' = L := by
  cases ins <;> first | (simp [isLoc] at hl; done) | exact ptab_L hs | skip
  all_goals
    simp only [stp, pldc, pldcL, pial, plal, pbal, paal, pias, plas, pbas, paas, plen, pb1, pb2, pb2n, pl2, pl2n, pgets, pgetf, pputf, pcast, pnew, pnewa, panew, pif, pinvV, pinvS, pinvI, pcopy, pclone, pgetC, piret, plret, paret] at hs ⊢
    first
    | (cases hs; done)
    | (cases hs; exact ⟨rfl, fun _ _ _ _ e => by cases e; rfl⟩)
    | ((repeat' split at hs) <;> first | (cases hs; done) | exact pmath_L hs | (cases hs; simp_all [pswap]))
theorem stp_Lw {rt : Option FieldType} {d : Nat} {ins : Instr} {ex : List Nat} {L M S : List Value} {h : PH} (hw : Lw L M) {R : PR} (hs : stp sc rt d ins ex L S h = some R) : (∃ j L' M' S' h', R = .inl (j, L', S', h') ∧ stp sc rt d ins ex M S h = some (.inl (j, M', S', h')) ∧ Lw L' M') ∨ ((∀ x, R ≠ .inl x) ∧ stp sc rt d ins ex M S h = some R) := by
  have ld : ∀ {v : Value} {i : Nat}, L[i]? = some v → v ≠ pu → M[i]? = some v := fun h1 h2 => hw.at h1 h2
  by_cases hl : isLoc ins = false
  · obtain ⟨h1, h2⟩ := stp_L (M := M) hl hs
    rcases R with ⟨j, L', S', h'⟩ | R
    · exact Or.inl ⟨j, L', M, S', h', rfl, h1, by rw [h2 j L' S' h' rfl]; exact hw⟩
    · exact Or.inr ⟨(fun x e => by cases e), h1⟩
  · left
    cases ins <;> first | (simp [isLoc] at hl; done) | skip
    all_goals simp only [stp, pld1, pld2, plda, pst1, pstl, psta] at hs ⊢
    all_goals (repeat' split at hs) <;> first | (cases hs; done) | skip
    all_goals first
      | (rename_i he; cases hs; exact ⟨_, _, _, _, _, rfl, by simp only [ld he (fun z => by cases z)], hw⟩)
      | (rename_i he; obtain ⟨M', g1, g2⟩ := hw.st1 he; cases hs; exact ⟨_, _, M', _, _, rfl, by simp only [g1], g2⟩)
      | (rename_i he; obtain ⟨M', g1, g2⟩ := hw.st2 he; cases hs; exact ⟨_, _, M', _, _, rfl, by simp only [g1], g2⟩)
      | (rename_i he0 _ _ he; obtain ⟨M', g1, g2⟩ := hw.st1 he; cases hs; exact ⟨_, _, M', _, _, rfl, by simp only [ld he0 (fun z => by cases z), g1], g2⟩)
      | (rename_i he0 _ he; obtain ⟨M', g1, g2⟩ := hw.st1 he; cases hs; exact ⟨_, _, M', _, _, rfl, by simp only [ld he0 (fun z => by cases z), g1], g2⟩)
theorem pex_Lw : ∀ (f d μ i : Nat) (L M S : List Value) (h : PH) (r : Option Value × PH), Lw L M → pex prog sc f d μ i L S h = some r → pex prog sc f d μ i M S h = some r := by
  intro f
  induction f with
  | zero => intro d μ i L M S h r hw hx; cases hx
  | succ f ih =>
    intro d μ i L M S h r hw hx
    rw [pex] at hx ⊢
    cases hq : prog[μ]? with
    | none => rw [hq] at hx; cases hx
    | some q =>
      simp only [hq] at hx ⊢
      cases he : q.2.2.2.2[i]? with
      | none => rw [he] at hx; cases hx
      | some e =>
        simp only [he] at hx ⊢
        cases hst : stp sc q.2.2.2.1 d e.2.1 e.2.2 L S h with
        | none => rw [hst] at hx; cases hx
        | some R =>
          simp only [hst] at hx
          rcases stp_Lw hw hst with ⟨j, L', M', S', h', rfl, h2, h3⟩ | ⟨h1, h2⟩
          · simp only [h2]
            cases j with
            | zero => exact ih _ _ _ _ _ _ _ _ h3 hx
            | succ t => exact ih _ _ _ _ _ _ _ _ h3 hx
          · simp only [h2]
            rcases R with x | ⟨μ', as, S'⟩ | v
            · exact absurd rfl (h1 x)
            · cases d with
              | zero => cases hx
              | succ d' =>
                simp only at hx ⊢
                cases hq' : prog[μ']? with
                | none => rw [hq'] at hx; cases hx
                | some q' =>
                  simp only [hq'] at hx ⊢
                  by_cases hent : (pent as q'.2.2.1).length = q'.2.2.1
                  · rw [if_pos hent] at hx ⊢
                    cases hc : pex prog sc f d' μ' 0 (pent as q'.2.2.1) [] h with
                    | none => rw [hc] at hx; cases hx
                    | some vh =>
                      rw [hc] at hx
                      exact ih _ _ _ _ _ _ _ _ hw hx
                  · rw [if_neg hent] at hx
                    cases hx
            · exact hx
theorem Ex.fg {d μ i : Nat} {L M S : List Value} {h : PH} {K : Option Value → PH → Prop} (hw : Lw L M) (k : Ex sc d μ i L S h K) : Ex sc d μ i M S h K := by
  obtain ⟨f, v, h', h1, h2⟩ := k
  exact ⟨f, v, h', pex_Lw _ _ _ _ _ _ _ _ _ hw h1, h2⟩
/-- truth as a number -/
def bi (P : Prop) [Decidable P] : Int32 := if P then 1 else 0
theorem bi_01 (P : Prop) [Decidable P] : bi P = 0 ∨ bi P = 1 := by
  unfold bi
  split
  · exact Or.inr rfl
  · exact Or.inl rfl
theorem bi_t {P : Prop} [Decidable P] (h : P) : bi P = 1 := if_pos h
theorem bi_f {P : Prop} [Decidable P] (h : ¬ P) : bi P = 0 := if_neg h
theorem Ex.ife {d μ i t : Nat} {L S : List Value} {h : PH} {K : Option Value → PH → Prop} {q : PM} {pc : Nat} {off : Int} {P : Prop} [Decidable P] (hq : prog[μ]? = some q) (he : q.2.2.2.2[i]? = some (pc, .ifCond .eq off, [t])) (kt : ¬ P → Ex sc d μ t L S h K) (kf : P → Ex sc d μ (i + 1) L S h K) : Ex sc d μ i L (.int (bi P) :: S) h K :=
  Ex.i1 hq he (fun c => kt (fun p => by
    have c : bi P = 0 := c
    rw [bi_t p] at c
    exact absurd c (by decide))) (fun c => by
    by_cases p : P
    · exact kf p
    · exact absurd (bi_f p) c)
theorem Ex.ifn {d μ i t : Nat} {L S : List Value} {h : PH} {K : Option Value → PH → Prop} {q : PM} {pc : Nat} {off : Int} {P : Prop} [Decidable P] (hq : prog[μ]? = some q) (he : q.2.2.2.2[i]? = some (pc, .ifCond .ne off, [t])) (kt : P → Ex sc d μ t L S h K) (kf : ¬ P → Ex sc d μ (i + 1) L S h K) : Ex sc d μ i L (.int (bi P) :: S) h K :=
  Ex.i1 hq he (fun c => by
    by_cases p : P
    · exact kt p
    · exact absurd (bi_f p) c) (fun c => kf (fun p => c (by
    show ¬ bi P = 0
    rw [bi_t p]
    decide)))
end EX
