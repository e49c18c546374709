/-! ===== cells that came later: .ref (b + 118) is dy's place b ===== -/
def sD (s : ST) (dy : PH) : ST := (s.1, s.2.1, s.2.2.1, s.2.2.2.1, dy)
def sR (s : ST) (a : Nat) (v : Value) : ST := (s.1, s.2.1, s.2.2.1, va_up s.2.2.2.1 a v, s.2.2.2.2)
def pgf (h : PH) (b c k : Nat) : Option Value := (pob h b c).bind (fun fs => fs[k]?)
theorem dy_at (s : ST) (b : Nat) : (hpS s)[b + 118]? = s.2.2.2.2[b]? := rfl
theorem dy_pob (s : ST) (b c : Nat) : pob (hpS s) (b + 118) c = pob s.2.2.2.2 b c := rfl
theorem dy_row (s : ST) (b t : Nat) : prow (hpS s) (b + 118) t = prow s.2.2.2.2 b t := rfl
theorem dy_rowR (s : ST) (b : Nat) : prowR (hpS s) (b + 118) = prowR s.2.2.2.2 b := rfl
theorem dy_set (s : ST) (b : Nat) (x : PC) : (hpS s).set (b + 118) x = hpS (sD s (s.2.2.2.2.set b x)) := rfl
theorem dy_app (s : ST) (x : PC) : hpS s ++ [x] = hpS (sD s (s.2.2.2.2 ++ [x])) := rfl
theorem dy_len (s : ST) : (hpS s).length = s.2.2.2.2.length + 118 := rfl
def kA (K : Nat → ST → Prop) : Option Value → PH → Prop := fun v h => ∃ (r : Nat) (s : ST), v = some (.ref (r + 118)) ∧ h = hpS s ∧ K r s
def kQ (n : Nat) (K : Bool → ST → Prop) : Option Value → PH → Prop := fun v h => ∃ (r : Bool) (s : ST), v = some (match r with | true => .ref n | false => .null) ∧ h = hpS s ∧ K r s
def kO (K : Option Nat → ST → Prop) : Option Value → PH → Prop := fun v h => ∃ (r : Option Nat) (s : ST), v = some (match r with | some b => .ref (b + 118) | none => .null) ∧ h = hpS s ∧ K r s
section DY
variable {sc : Nat × (Nat → Int32)} {d μ i : Nat} {L S : List Value} {K : Option Value → PH → Prop} {q : PM} {pc b : Nat} {ex : List Nat} {s : ST}
theorem Ex.gfd {idx c k : Nat} {v : Value} (hq : prog[μ]? = some q) (he : q.2.2.2.2[i]? = some (pc, .getfield idx, 0 :: c :: k :: ex)) (hv : pgf s.2.2.2.2 b c k = some v) (kk : Ex sc d μ (i + 1) L (v :: S) (hpS s) K) : Ex sc d μ i L (.ref (b + 118) :: S) (hpS s) K := by
  unfold pgf at hv
  cases hf : pob s.2.2.2.2 b c with
  | none => rw [hf] at hv; cases hv
  | some fs =>
    rw [hf] at hv
    have hv : fs[k]? = some v := hv
    exact Ex.nx hq he (by simp only [stp, pgetf, dy_pob, hf, hv]) kk
theorem Ex.gfd2 {idx c k : Nat} {v : Value} (hq : prog[μ]? = some q) (he : q.2.2.2.2[i]? = some (pc, .getfield idx, 2 :: c :: k :: ex)) (hv : pgf s.2.2.2.2 b c k = some v) (kk : Ex sc d μ (i + 1) L (v :: S) (hpS s) K) : Ex sc d μ i L (.ref (b + 118) :: S) (hpS s) K := by
  unfold pgf at hv
  cases hf : pob s.2.2.2.2 b c with
  | none => rw [hf] at hv; cases hv
  | some fs =>
    rw [hf] at hv
    have hv : fs[k]? = some v := hv
    exact Ex.nx hq he (by simp only [stp, pgetf, dy_pob, hf, hv]) kk
theorem Ex.pfd {idx c k : Nat} {v : Value} {fs : List Value} (hq : prog[μ]? = some q) (he : q.2.2.2.2[i]? = some (pc, .putfield idx, c :: k :: ex)) (hf : pob s.2.2.2.2 b c = some fs) (hk : k < fs.length) (ht : pfit (pY c k) v = true) (kk : Ex sc d μ (i + 1) L S (hpS (sD s (s.2.2.2.2.set b (.inr (c, fs.set k v))))) K) : Ex sc d μ i L (v :: .ref (b + 118) :: S) (hpS s) K :=
  Ex.nx hq he (by simp only [stp, pputf, dy_pob, hf, hk, ht, and_self, if_true, dy_set]) kk
theorem Ex.iad {n : Nat} {x : Int32} {f : Nat → Int32} (hq : prog[μ]? = some q) (he : q.2.2.2.2[i]? = some (pc, .iaload, ex)) (hr : prow s.2.2.2.2 b 0 = some (n, f)) (hin : pin x n = true) (kk : Ex sc d μ (i + 1) L (.int (f x.toNatClampNeg) :: S) (hpS s) K) : Ex sc d μ i L (.int x :: .ref (b + 118) :: S) (hpS s) K :=
  Ex.ial hq he (by rw [dy_row]; exact hr) hin kk
theorem Ex.isd {n : Nat} {x v : Int32} {f : Nat → Int32} (hq : prog[μ]? = some q) (he : q.2.2.2.2[i]? = some (pc, .iastore, ex)) (hr : prow s.2.2.2.2 b 0 = some (n, f)) (hin : pin x n = true) (kk : Ex sc d μ (i + 1) L S (hpS (sD s (s.2.2.2.2.set b (.inl (0, n, .inl (upd f x.toNatClampNeg v)))))) K) : Ex sc d μ i L (.int v :: .int x :: .ref (b + 118) :: S) (hpS s) K :=
  Ex.ias hq he (by rw [dy_row]; exact hr) hin (dy_set s b _) kk
theorem Ex.aad {n y : Nat} {x : Int32} {f : Nat → Option Nat} (hq : prog[μ]? = some q) (he : q.2.2.2.2[i]? = some (pc, .aaload, ex)) (hr : prowR s.2.2.2.2 b = some (n, f)) (hin : pin x n = true) (hy : f x.toNatClampNeg = some (y + 118)) (kk : Ex sc d μ (i + 1) L (.ref (y + 118) :: S) (hpS s) K) : Ex sc d μ i L (.int x :: .ref (b + 118) :: S) (hpS s) K :=
  Ex.nx hq he (by simp only [stp, paal, dy_rowR, hr, hin, if_true, hy, prf]) kk
theorem Ex.asd {n y : Nat} {x : Int32} {f : Nat → Option Nat} {ob : Nat × List Value} (hq : prog[μ]? = some q) (he : q.2.2.2.2[i]? = some (pc, .aastore, ex)) (hr : prowR s.2.2.2.2 b = some (n, f)) (hin : pin x n = true) (hy : s.2.2.2.2[y]? = some (.inr ob)) (kk : Ex sc d μ (i + 1) L S (hpS (sD s (s.2.2.2.2.set b (.inl (4, n, .inr (.inr (va_up f x.toNatClampNeg (some (y + 118))))))))) K) : Ex sc d μ i L (.ref (y + 118) :: .int x :: .ref (b + 118) :: S) (hpS s) K :=
  Ex.nx hq he (by simp only [stp, paas, dy_rowR, hr, dy_at, hy, hin, if_true, dy_set]) kk
theorem Ex.lnd {n : Nat} {f : Nat → Int32} (hq : prog[μ]? = some q) (he : q.2.2.2.2[i]? = some (pc, .arraylength, ex)) (hr : prow s.2.2.2.2 b 0 = some (n, f)) (kk : Ex sc d μ (i + 1) L (.int (Int32.ofNat n) :: S) (hpS s) K) : Ex sc d μ i L (.ref (b + 118) :: S) (hpS s) K :=
  Ex.nx hq he (by simp only [stp, plen, dy_at, prow_spec hr]; rfl) kk
theorem Ex.lnR {n : Nat} {f : Nat → Option Nat} (hq : prog[μ]? = some q) (he : q.2.2.2.2[i]? = some (pc, .arraylength, ex)) (hr : prowR s.2.2.2.2 b = some (n, f)) (kk : Ex sc d μ (i + 1) L (.int (Int32.ofNat n) :: S) (hpS s) K) : Ex sc d μ i L (.ref (b + 118) :: S) (hpS s) K :=
  Ex.nx hq he (by simp only [stp, plen, dy_at, prowR_spec hr]; rfl) kk
theorem Ex.ccd {idx c : Nat} {fs : List Value} (hq : prog[μ]? = some q) (he : q.2.2.2.2[i]? = some (pc, .checkcast idx, 0 :: c :: ex)) (hf : pob s.2.2.2.2 b c = some fs) (kk : Ex sc d μ (i + 1) L (.ref (b + 118) :: S) (hpS s) K) : Ex sc d μ i L (.ref (b + 118) :: S) (hpS s) K :=
  Ex.nx hq he (by simp only [stp, pcast, dy_pob, hf]) kk
theorem Ex.nwd {idx c : Nat} {fs : List Value} (hq : prog[μ]? = some q) (he : q.2.2.2.2[i]? = some (pc, .new idx, c :: ex)) (hf : pDf[c]? = some fs) (kk : Ex sc d μ (i + 1) L (.ref (s.2.2.2.2.length + 118) :: S) (hpS (sD s (s.2.2.2.2 ++ [.inr (c, fs)]))) K) : Ex sc d μ i L S (hpS s) K :=
  Ex.nx hq he (by simp only [stp, pnew, hf, dy_len, dy_app]) kk
theorem Ex.nad {x : Int32} {aty : ArrayType} (hq : prog[μ]? = some q) (he : q.2.2.2.2[i]? = some (pc, .newarray aty, 0 :: ex)) (h0 : ¬ x < 0) (h1 : x.toNatClampNeg ≤ 100000) (kk : Ex sc d μ (i + 1) L (.ref (s.2.2.2.2.length + 118) :: S) (hpS (sD s (s.2.2.2.2 ++ [.inl (0, x.toNatClampNeg, .inl (fun _ => 0))]))) K) : Ex sc d μ i L (.int x :: S) (hpS s) K :=
  Ex.nx hq he (by simp only [stp, pnewa, h0, not_false_eq_true, h1, true_and, dy_len, dy_app]; rfl) kk
theorem Ex.anw {x : Int32} {idx : Nat} (hq : prog[μ]? = some q) (he : q.2.2.2.2[i]? = some (pc, .anewarray idx, ex)) (h0 : ¬ x < 0) (h1 : x.toNatClampNeg ≤ 100000) (kk : Ex sc d μ (i + 1) L (.ref (s.2.2.2.2.length + 118) :: S) (hpS (sD s (s.2.2.2.2 ++ [.inl (4, x.toNatClampNeg, .inr (.inr (fun _ => none)))]))) K) : Ex sc d μ i L (.int x :: S) (hpS s) K :=
  Ex.nx hq he (by simp only [stp, panew, h0, not_false_eq_true, h1, true_and, if_true, dy_len, dy_app]) kk
theorem Ex.cp {idx a c n0 n1 : Nat} {f g : Nat → Int32} {n dp sp : Int32} {h h' : PH} (hq : prog[μ]? = some q) (he : q.2.2.2.2[i]? = some (pc, .invokestatic idx, 8 :: ex)) (ha : prow h a 0 = some (n0, f)) (hb : prow h c 0 = some (n1, g)) (h1 : ¬ sp < 0) (h2 : ¬ dp < 0) (h3 : ¬ n < 0) (h4 : sp.toNatClampNeg + n.toNatClampNeg ≤ n0) (h5 : dp.toNatClampNeg + n.toNatClampNeg ≤ n1) (h6 : (decide (1 ≤ d) && decide (psum S ≤ 8)) = true) (hh : h.set c (.inl (0, n1, .inl (va_cpy f g sp.toNatClampNeg dp.toNatClampNeg n.toNatClampNeg))) = h') (kk : Ex sc d μ (i + 1) L S h' K) : Ex sc d μ i L (.int n :: .int dp :: .ref c :: .int sp :: .ref a :: S) h K := by
  simp only [Bool.and_eq_true, decide_eq_true_eq] at h6
  exact Ex.nx hq he (by simp only [stp, pinvS, pcopy, ha, hb, h1, h2, h3, h4, h5, h6.1, h6.2, not_false_eq_true, and_self, if_true, hh]) kk
theorem Ex.cvd {idx μ' n c : Nat} {S2 fs : List Value} (hq : prog[μ]? = some q) (he : q.2.2.2.2[i]? = some (pc, .invokevirtual idx, 0 :: μ' :: n :: c :: ex)) (hd : S.drop n = .ref (b + 118) :: S2) (hf : pob s.2.2.2.2 b c = some fs) (hc : (decide (n ≤ S.length) && decide (psum S2 ≤ 8)) = true) (k : Rn sc d μ' (.ref (b + 118) :: (S.take n).reverse) (hpS s) (fun v h' => Ex sc (d + 1) μ (i + 1) L (v.toList ++ S2) h' K)) : Ex sc (d + 1) μ i L S (hpS s) K := by
  simp only [Bool.and_eq_true, decide_eq_true_eq] at hc
  exact Ex.cl hq he (by simp only [stp, pinvV, hd, dy_pob, hf, hc.1, hc.2, and_self, if_true]) k
theorem Ex.gc {idx n : Nat} {f : Nat → Option Nat} (hq : prog[μ]? = some q) (he : q.2.2.2.2[i]? = some (pc, .invokevirtual idx, 7 :: ex)) (hr : prowR s.2.2.2.2 b = some (n, f)) (hc : (decide (1 ≤ d) && decide (psum S ≤ 8)) = true) (kk : Ex sc d μ (i + 1) L (.float 4 :: S) (hpS s) K) : Ex sc d μ i L (.ref (b + 118) :: S) (hpS s) K := by
  simp only [Bool.and_eq_true, decide_eq_true_eq] at hc
  exact Ex.nx hq he (by simp only [stp, pinvV, pgetC, dy_rowR, hr, hc.1, hc.2, and_self, if_true]) kk
theorem prowR_no {h : PH} {a n : Nat} {f : Nat → Option Nat} (hr : prowR h a = some (n, f)) : prow h a 0 = none := by
  unfold prow
  rw [prowR_spec hr]
theorem Ex.cpR {idx a c n0 n1 : Nat} {f g : Nat → Option Nat} {n dp sp : Int32} (hq : prog[μ]? = some q) (he : q.2.2.2.2[i]? = some (pc, .invokestatic idx, 8 :: ex)) (ha : prowR s.2.2.2.2 a = some (n0, f)) (hb : prowR s.2.2.2.2 c = some (n1, g)) (h1 : ¬ sp < 0) (h2 : ¬ dp < 0) (h3 : ¬ n < 0) (h4 : sp.toNatClampNeg + n.toNatClampNeg ≤ n0) (h5 : dp.toNatClampNeg + n.toNatClampNeg ≤ n1) (h7 : pels (hpS s) f sp.toNatClampNeg n.toNatClampNeg = true) (h6 : (decide (1 ≤ d) && decide (psum S ≤ 8)) = true) (kk : Ex sc d μ (i + 1) L S (hpS (sD s (s.2.2.2.2.set c (.inl (4, n1, .inr (.inr (va_cpy f g sp.toNatClampNeg dp.toNatClampNeg n.toNatClampNeg))))))) K) : Ex sc d μ i L (.int n :: .int dp :: .ref (c + 118) :: .int sp :: .ref (a + 118) :: S) (hpS s) K := by
  simp only [Bool.and_eq_true, decide_eq_true_eq] at h6
  exact Ex.nx hq he (by simp only [stp, pinvS, pcopy, dy_row, prowR_no ha, prowR_no hb, dy_rowR, ha, hb, h1, h2, h3, h4, h5, h6.1, h6.2, h7, not_false_eq_true, and_self, if_true, dy_set]) kk
theorem Ex.cln {idx a n : Nat} {f : Nat → Int32} (hq : prog[μ]? = some q) (he : q.2.2.2.2[i]? = some (pc, .invokevirtual idx, 8 :: ex)) (hr : prow (hpS s) a 0 = some (n, f)) (hc : (decide (1 ≤ d) && decide (psum S ≤ 8)) = true) (kk : Ex sc d μ (i + 1) L (.ref (s.2.2.2.2.length + 118) :: S) (hpS (sD s (s.2.2.2.2 ++ [.inl (0, n, .inl f)]))) K) : Ex sc d μ i L (.ref a :: S) (hpS s) K := by
  simp only [Bool.and_eq_true, decide_eq_true_eq] at hc
  exact Ex.nx hq he (by simp only [stp, pinvV, pclone, hr, hc.1, hc.2, and_self, if_true, dy_len, dy_app]) kk
theorem Ex.cci {idx n : Nat} {f : Nat → Int32} (hq : prog[μ]? = some q) (he : q.2.2.2.2[i]? = some (pc, .checkcast idx, 1 :: ex)) (hr : prow s.2.2.2.2 b 0 = some (n, f)) (kk : Ex sc d μ (i + 1) L (.ref (b + 118) :: S) (hpS s) K) : Ex sc d μ i L (.ref (b + 118) :: S) (hpS s) K :=
  Ex.nx hq he (by simp only [stp, pcast, dy_row, hr]) kk
end DY
