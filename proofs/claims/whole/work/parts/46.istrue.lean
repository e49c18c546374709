/-! ===== the reference's evaluator ===== -/
abbrev fq92 : FS := ([], [], [92], false, false)
theorem mpo_le {op : Nat} (h : op ≤ 12) : mpo op ≤ 12 := by
  match op, h with
  | 0, _ => decide
  | 1, _ => decide
  | 2, _ => decide
  | 3, _ => decide
  | 4, _ => decide
  | n + 5, h => show n + 2 ≤ 12; omega
theorem mpo_ne {op k : Nat} (h : 5 ≤ op) (h2 : op ≤ 12) (hk : k = 0 ∨ k = 1 ∨ k = 10 ∨ k = 11 ∨ k = 12) : mpo op ≠ k := by
  obtain ⟨n, rfl⟩ : ∃ n, op = n + 5 := ⟨op - 5, by omega⟩
  show n + 2 ≠ k
  omega
theorem unit_ne : ¬ (16777216 : Int32) = 0 := by decide
theorem dec_op {o v : Nat} (h : o ≤ 12) (hv : v < 16777216) : nI (16777216 * o + v) / (16777216 : Int32) = nI o := by
  have e : (16777216 : Int32) = nI 16777216 := rfl
  rw [e, pk_div (by omega) (by omega) (by omega)]
  congr 1
  omega
theorem dec_v {o v : Nat} (h : o ≤ 12) (hv : v < 16777216) : nI (16777216 * o + v) - nI o * (16777216 : Int32) = nI v := by
  have e : (16777216 : Int32) = nI 16777216 := rfl
  rw [e, pk_mul, pk_sub (by omega)]
  congr 1
  omega
theorem l_232 {s0 : ST} {x cf L off base : Nat} {G : Nat → Nat × Nat} {st : Nat → List Bool} {fx : Nat → Int64} {b : Bool} {X146 X125 : ST → Prop} {K : Int32 → ST → Prop} (hx : x < 260) (h89 : s0.2.1 89 x = nI (cf + L)) (hcf : cf + L ≤ 4680) (hbase : base + off = cf) (hoff : off ≤ 180) (hc : ∀ p, p < L → s0.2.1 83 (cf + p) = nI (16777216 * mpo (G p).1 + (if (G p).1 = 3 ∨ (G p).1 = 4 then off + (G p).2 else (G p).2))) (hw : wt G L st) (hfx : ∀ k, k < 13 → s0.2.2.1 93 k = fx k) (h1 : ∀ s a, Fr fq92 s0 s → s.2.2.1 92 0 = a → (a = 0 ∨ a = 1) → b = decide (a = 1) → X146 s) (h2 : ∀ s, Fr fq92 s0 s → b = false → X125 s) : ∀ n p S s, p ≤ L → L - p < n → Fr fq92 s0 s → SA (s.2.2.1 92) S → TS (st p) S → ev G L fx n p S = b → w_232_L13 n (nI x) (nI S.length) (nI base) (nI (cf + p)) s X146 X125 K := by
  have hL := hw.2.2.1
  intro n
  induction n with
  | zero => intro p S s _ z; omega
  | succ n ih =>
    intro p S s hp hn f1 hS hT he
    have hlen := TS_len hT
    have hsl := st_len hw p hp
    rw [w_232_L13, nI_clamp (show x < 2 ^ 31 by omega), f1.2.1 89 rfl, h89, nI_leI (by omega) (by omega)]
    refine ⟨pin_nI hx (by omega), ?_⟩
    by_cases c : L ≤ p
    · have : p = L := by omega
      subst this
      rw [hw.2.1] at hT
      obtain ⟨a, r, e1, e2, e3⟩ := TS_cons hT
      cases r with
      | cons _ _ => exact e3.elim
      | nil =>
        subst e1
        rw [ev_end c] at he
        exact br_t (Nat.le_refl _) (h1 s a f1 (SA_top hS) (e2 rfl) he.symm)
    refine br_f (by omega) ?_
    have hpl : p < L := by omega
    obtain ⟨w0, w1, w2, w3, w4, w5⟩ := hw.2.2.2 p hpl
    have hv := wt_v hL (hw.2.2.2 p hpl)
    have pc : pin (nI (cf + p)) 4680 = true := pin_nI (by omega) (by omega)
    have hmo := mpo_le w0
    have hv2 : (if (G p).1 = 3 ∨ (G p).1 = 4 then off + (G p).2 else (G p).2) < 16777216 := by
      split <;> omega
    rw [nI_clamp (show cf + p < 2 ^ 31 by omega), f1.2.1 83 rfl, hc p hpl, dec_op hmo hv2, dec_v hmo hv2, nI_1 (cf + p)]
    refine ⟨pc, unit_ne, pc, unit_ne, ?_⟩
    have pS : pin (nI S.length) 180 = true := pin_nI (by omega) (by omega)
    have e93 : s.2.2.1 93 = s0.2.2.1 93 := f1.2.2.1 93 rfl
    by_cases c0 : (G p).1 = 0
    · rw [ev_0 c c0] at he
      obtain ⟨t1, t2⟩ := w1 c0
      rw [if_neg (by omega), c0]
      refine br_t rfl (br_f (fun z => z rfl) ⟨pS, ?_⟩)
      rw [nI_1, nI_clamp (by omega), nI_l (by omega)]
      exact ih (p + 1) (lN (G p).2 :: S) _ (by omega) (by omega) (fr_sL 92 f1) (SA_push hS) (by rw [t1]; exact TS_up hT) he
    by_cases c1 : (G p).1 = 1
    · rw [ev_1 c c0 c1] at he
      obtain ⟨t1, t2⟩ := w2 c1
      rw [if_neg (by omega), c1]
      refine br_f (by decide) (br_f (fun z => z rfl) (br_t (by decide) ⟨pin_nI t2 (by omega), pS, ?_⟩))
      rw [nI_1, nI_clamp (show (G p).2 < 2 ^ 31 by omega), nI_clamp (show S.length < 2 ^ 31 by omega), e93, hfx _ t2]
      exact ih (p + 1) (fx (G p).2 :: S) _ (by omega) (by omega) (fr_sL 92 f1) (SA_push hS) (by rw [t1]; exact TS_up hT) he
    cases S with
    | nil =>
      have hl0 : (st p).length = 0 := hlen.symm
      have : (st p).length ≠ 0 := by
        by_cases c2 : (G p).1 = 2
        · obtain ⟨_, r, e1, _⟩ := w3 c2
          rw [e1, List.length_cons]; omega
        by_cases c3 : (G p).1 = 3 ∨ (G p).1 = 4
        · obtain ⟨r, e1, _⟩ := w4 c3
          rw [e1, List.length_cons]; omega
        · obtain ⟨_, r, e1, _⟩ := w5 (by omega)
          rw [e1, List.length_cons]; omega
      exact absurd hl0 this
    | cons a r =>
      rw [List.length_cons] at hlen pS ⊢
      have em1 : nI (r.length + 1) - 1 = nI r.length := nI_pred _
      have pr : pin (nI r.length) 180 = true := pin_nI (by omega) (by omega)
      rw [em1, nI_clamp (show r.length < 2 ^ 31 by omega), SA_top hS]
      by_cases c2 : (G p).1 = 2
      · rw [ev_2 c c0 c1 c2] at he
        obtain ⟨_, r2, t1, t2⟩ := w3 c2
        rw [t1] at hT
        rw [c2]
        refine br_f (by decide) (br_t (by decide) (br_f (fun z => z rfl) ⟨pr, pr, ?_⟩))
        exact ih (p + 1) ((1 - a) :: r) _ (by omega) (by omega) (fr_sL 92 f1) (SA_set hS) (by rw [t2]; exact ⟨fun _ => not01 (hT.1 rfl), hT.2⟩) he
      have leap : (G p).1 = 3 ∨ (G p).1 = 4 → nI base + nI (off + (G p).2) = nI (cf + (G p).2) := by
        intro _
        rw [nI_add]
        congr 1
        omega
      by_cases c3 : (G p).1 = 3
      · rw [ev_3 c c0 c1 c2 c3] at he
        obtain ⟨r2, t1, t2, t3, t4, t5⟩ := w4 (Or.inl c3)
        rw [t1] at hT
        rw [if_pos (Or.inl c3), leap (Or.inl c3), c3]
        refine br_f (by decide) (br_t (by decide) (br_t (by decide) (br_t rfl ⟨pr, br_t (by decide) ?_⟩)))
        rw [lg_cmp_eq]
        by_cases z : a = 0
        · rw [if_pos z] at he
          refine br_f (fun y => y z) ?_
          exact ih (G p).2 (a :: r) s (by omega) (by omega) f1 hS (by rw [t5]; exact hT) he
        · rw [if_neg z] at he
          refine br_t z ?_
          exact ih (p + 1) r s (by omega) (by omega) f1 (SA_pop hS) (by rw [t2]; exact hT.2) he
      by_cases c4 : (G p).1 = 4
      · rw [ev_4 c c0 c1 c2 c3 c4] at he
        obtain ⟨r2, t1, t2, t3, t4, t5⟩ := w4 (Or.inr c4)
        rw [t1] at hT
        rw [if_pos (Or.inr c4), leap (Or.inr c4), c4]
        refine br_f (by decide) (br_t (by decide) (br_t (by decide) (br_f (by decide) (br_f (fun z => z rfl) ⟨pr, br_f (fun z => z rfl) ?_⟩))))
        rw [lg_cmp_eq]
        by_cases z : a = 0
        · rw [if_pos z] at he
          refine br_t (by rw [z]; decide) ?_
          exact ih (p + 1) r s (by omega) (by omega) f1 (SA_pop hS) (by rw [t2]; exact hT.2) he
        · rw [if_neg z] at he
          refine br_f (fun y => y ((hT.1 rfl).resolve_left z)) ?_
          exact ih (G p).2 (a :: r) s (by omega) (by omega) f1 hS (by rw [t5]; exact hT) he
      obtain ⟨_, r2, t1, t2⟩ := w5 (by omega)
      rw [t1] at hT
      obtain ⟨_, hT2⟩ := hT
      obtain ⟨cc, r3, e1, _, hT3⟩ := TS_cons hT2
      subst e1
      rw [List.length_cons] at *
      have em2 : nI (r3.length + 1) - 1 = nI r3.length := nI_pred _
      have p3 : pin (nI r3.length) 180 = true := pin_nI (by omega) (by omega)
      have h5 : 5 ≤ (G p).1 := by omega
      have nz : ∀ k : Nat, k = 0 ∨ k = 1 ∨ k = 10 ∨ k = 11 ∨ k = 12 → ¬ nI (mpo (G p).1) = nI k := fun k hk z => mpo_ne h5 w0 hk ((nI_eq (by omega) (by omega)).mp z)
      rw [em2, nI_clamp (show r3.length < 2 ^ 31 by omega)]
      have tp2 : s.2.2.1 92 r3.length = cc := SA_top (SA_pop hS)
      rw [tp2, lg_cmp_eq]
      refine br_f (nz 0 (by omega)) (br_t (nz 1 (by omega)) (br_t (nz 10 (by omega)) (br_f (nz 11 (by omega)) (br_t (nz 12 (by omega)) ?_))))
      rw [ev_5 c c0 c1 c2 c3 c4] at he
      have n5 : (nI (mpo (G p).1) = 5) ↔ (G p).1 = 8 := by
        obtain ⟨k, hk⟩ : ∃ k, (G p).1 = k + 5 := ⟨(G p).1 - 5, by omega⟩
        rw [hk]
        show (nI (k + 2) = nI 5) ↔ _
        rw [nI_eq (by omega) (by omega)]
        omega
      have n6 : (nI (mpo (G p).1) = 6) ↔ (G p).1 = 9 := by
        obtain ⟨k, hk⟩ : ∃ k, (G p).1 = k + 5 := ⟨(G p).1 - 5, by omega⟩
        rw [hk]
        show (nI (k + 2) = nI 6) ↔ _
        rw [nI_eq (by omega) (by omega)]
        omega
      have go : ¬ (((G p).1 = 8 ∨ (G p).1 = 9) ∧ a = 0) → w_231 (nI (mpo (G p).1)) cc a s (fun r2 s1 => (pin (nI r3.length) 180 = true ∧ w_232_L13 n (nI x) (nI (r3.length + 1)) (nI base) (nI (cf + p + 1)) (sL s1 92 (vp_updL (s1.2.2.1 92) r3.length r2)) X146 X125 K)) := by
        intro z
        rw [if_neg z] at he
        refine mp_231 h5 w0 z ⟨p3, ?_⟩
        exact ih (p + 1) (evB (G p).1 cc a :: r3) _ (by omega) (by omega) (fr_sL 92 f1) (SA_bin hS) (by rw [t2]; exact TS_bin w0 hT3) he
      have stop : (((G p).1 = 8 ∨ (G p).1 = 9) ∧ a = 0) → X125 s := by
        intro z
        rw [if_pos z] at he
        exact h2 s f1 he.symm
      by_cases d5 : (G p).1 = 8
      · refine br_t (n5.mpr d5) ⟨pr, ?_⟩
        by_cases z : a = 0
        · exact br_f (fun y => y z) (stop ⟨Or.inl d5, z⟩)
        · exact br_t z ⟨p3, pr, go (fun y => z y.2)⟩
      · refine br_f (fun y => d5 (n5.mp y)) ?_
        by_cases d6 : (G p).1 = 9
        · refine br_f (fun y => y (n6.mpr d6)) ⟨pr, ?_⟩
          by_cases z : a = 0
          · exact br_f (fun y => y z) (stop ⟨Or.inr d6, z⟩)
          · exact br_t z ⟨p3, pr, go (fun y => z y.2)⟩
        · exact br_t (fun y => d6 (n6.mp y)) ⟨p3, pr, go (fun y => y.1.elim d5 d6)⟩
theorem mp_232 {s : ST} {I j cf L off : Nat} {G : Nat → Nat × Nat} {st : Nat → List Bool} {fx : Nat → Int64} {K : Int32 → ST → Prop} (hI : I < 26) (hj : j < 10) (h88 : s.2.1 88 (10 * I + j) = nI cf) (h89 : s.2.1 89 (10 * I + j) = nI (cf + L)) (hcf : cf + L ≤ 4680) (hbase : 180 * I + off = cf) (hoff : off ≤ 180) (hc : ∀ p, p < L → s.2.1 83 (cf + p) = nI (16777216 * mpo (G p).1 + (if (G p).1 = 3 ∨ (G p).1 = 4 then off + (G p).2 else (G p).2))) (hw : wt G L st) (hfx : ∀ k, k < 13 → s.2.2.1 93 k = fx k) (k : ∀ s1, Fr fq92 s s1 → K (if evT G L fx = true then 1 else 0) s1) : w_232 (nI (10 * I + j)) s K := by
  unfold w_232
  have ed : (180 : Int32) * (nI (10 * I + j) / (10 : Int32)) = nI (180 * I) := by
    have e10 : (10 : Int32) = nI 10 := rfl
    have e180 : (180 : Int32) = nI 180 := rfl
    rw [e10, pk_div (by omega) (by omega) (by omega), e180, pk_mul]
    congr 1
    omega
  rw [ed, nI_clamp (by omega), h88]
  refine ⟨by decide, pin_nI (by omega) (by omega), L + 1, l_232 (b := evT G L fx) (by omega) h89 hcf hbase hoff hc hw hfx ?_ ?_ (L + 1) 0 [] s (by omega) (by omega) (fr_rfl _ _) (fun i hi => absurd hi (Nat.not_lt_zero _)) (by rw [hw.1]; exact trivial) rfl⟩
  · intro s1 a f1 e1 e2 e3
    have k1 := k s1 f1
    refine ⟨by decide, ?_⟩
    have z0 : ((0 : Int32)).toNatClampNeg = 0 := rfl
    rw [z0, e1, lg_cmp_eq]
    rcases e2 with e | e
    · subst e
      rw [e3, if_neg (by decide)] at k1
      exact br_t (by decide) k1
    · subst e
      rw [e3, if_pos (by decide)] at k1
      exact br_f (fun z => z rfl) k1
  · intro s1 f1 e3
    have k1 := k s1 f1
    rw [e3, if_neg (by decide)] at k1
    exact k1
