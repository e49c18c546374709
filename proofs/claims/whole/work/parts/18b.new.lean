/-! ===== a store into the newest row ===== -/
theorem prow_new {dy : PH} {n : Nat} {f : Nat → Int32} : prow (dy ++ [(Sum.inl (0, n, .inl f) : PC)]) dy.length 0 = some (n, f) := by
  unfold prow
  simp
theorem set_new {dy : PH} {a b : PC} : (dy ++ [a]).set dy.length b = dy ++ [b] := by
  simp
theorem Ex.isn {sc : Nat × (Nat → Int32)} {d μ i : Nat} {L S : List Value} {K : Option Value → PH → Prop} {q : PM} {pc : Nat} {ex : List Nat} {s : ST} {dy : PH} {n : Nat} {x v : Int32} {f : Nat → Int32} (hq : prog[μ]? = some q) (he : q.2.2.2.2[i]? = some (pc, .iastore, ex)) (hin : pin x n = true) (kk : Ex sc d μ (i + 1) L S (hpS (sD s (dy ++ [(Sum.inl (0, n, .inl (upd f x.toNatClampNeg v)) : PC)]))) K) : Ex sc d μ i L (.int v :: .int x :: .ref (dy.length + 118) :: S) (hpS (sD s (dy ++ [(Sum.inl (0, n, .inl f) : PC)]))) K := by
  refine Ex.isd (s := sD s (dy ++ [(Sum.inl (0, n, .inl f) : PC)])) hq he prow_new hin ?_
  have e : (sD s (dy ++ [(Sum.inl (0, n, .inl f) : PC)])).2.2.2.2.set dy.length (.inl (0, n, .inl (upd f x.toNatClampNeg v))) = dy ++ [(Sum.inl (0, n, .inl (upd f x.toNatClampNeg v)) : PC)] := set_new
  rw [e]
  exact kk
