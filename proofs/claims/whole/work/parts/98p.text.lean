/-! ===== the class's texts: steps; a text's beginning ===== -/
section Cp
variable {T : Nat → Nat} {n L0 : Nat} {fr to : Int32}
theorem stC_no {k a : Nat} (h : ¬ sgn T n a = 40) : stC (sgn T n) n k a = .inl (1, a) := by
  unfold stC pEn
  rw [if_neg h]
  rfl
theorem stC_40 {k a a1 : Nat} {L : List Pc} (h : stC (sgn T n) n k a = .inr (a1, L)) : sgn T n a = 40 := by
  refine Classical.byContradiction (fun z => ?_)
  rw [stC_no z] at h
  cases h
theorem l_63 {S00 : ST} {K : Nat → ST → Prop} (hT0 : TX S00 T n) : ∀ (N f k a : Nat) (G : List Pc) (s : ST) (C : List Clz), 5 - k ≤ N → 5 - k ≤ f → k ≤ 4 → C.length = k → Fr fqPd S00 s → CXw n s (.inr (a, G)) → LI s.2.2.2.2 L0 fr to C → Kp L0 (L0 + 1) S00.2.2.2.2 s.2.2.2.2 → s.2.2.2.2.length ≤ L0 + 2 + 3 * k → psl s.2.2.2.2 ≤ psl S00.2.2.2.2 + 6 + 200 * k → (∀ s1, FinC S00 L0 fr to s1 (pTl (sgn T n) n (clC (sgn T n) n) f k a C) → K L0 s1) → w_63_L11 N L0 (nI k) s (fun y4 s107 => w_84 s107 (fun s108 => K y4 s108)) (fun y4 s110 => w_84 s110 (fun s111 => K y4 s111)) K := by
  intro N
  induction N with
  | zero => intro f k a G s C z _ _; omega
  | succ N ih =>
    intro f k a G s C hN hf hk hCl hfr hcx hI hkp hl hps hK
    obtain ⟨f, rfl⟩ : ∃ i, f = i + 1 := ⟨f - 1, by omega⟩
    have hT : TX s T n := TX_fr hfr hT0
    have hc : CW s n s (.inr (a, G)) := ⟨fr_rfl _ _, hcx⟩
    have hsl := sgn_le hT (a := a)
    have h2 : s.1 3504 = nI a := hcx.2.1
    rw [w_63_L11, show (4 : Int32) = nI 4 from rfl, nI_eq (by omega) (by omega)]
    refine br_f (nI_nlt (by omega) (by omega)) ?_
    rw [nI_1]
    have go : ∀ (s5 : ST) (r : Prs), Fr fqPd s s5 → s5.2.2.2.2 = s.2.2.2.2 → CXw n s5 r → ((r = .inr (a, G) ∧ clC (sgn T n) n k a = stC (sgn T n) n k a) ∨ ∃ e, r = .inl e ∧ clC (sgn T n) n k a = .inl e) → CTt (nI k) L0 s5 (fun r18 s17 => ((¬ r18 = 0 → w_63_L11 N L0 (nI (k + 1)) s17 (fun y4 s107 => w_84 s107 (fun s108 => K y4 s108)) (fun y4 s110 => w_84 s110 (fun s111 => K y4 s111)) K) ∧ (¬ (¬ r18 = 0) → w_84 s17 (fun s108 => K L0 s108)))) := by
      intro s5 r f5 ed5 cx5 hrq
      refine it_c (C := C) (fr := fr) (to := to) (TX_fr f5 hT) cx5 (by rw [ed5]; exact hI) (by omega) (by omega) (fun s1 R pb1 hle hri => ?_)
      obtain ⟨p1, p2, p3, p4, p5⟩ := pb1
      rw [ed5] at p2 p3 p4
      have g1 : Fr fqPd S00 s1 := fr_tr (F := fqPd) rfl (fr_tr (F := fqPd) rfl hfr f5) p1
      have hz : Pz R (clC (sgn T n) n k a) := by
        rcases hrq with ⟨er, eq⟩ | ⟨e, er, eq⟩
        · rw [eq]; exact (hri a G er).1
        · rw [eq]; exact hle e er
      have hL : ∀ a1 L, clC (sgn T n) n k a = .inr (a1, L) → LI s1.2.2.2.2 L0 fr to (C ++ [(sgn T n a, L)]) := by
        intro a1 L eL
        rcases hrq with ⟨er, eq⟩ | ⟨e, er, eq⟩
        · rw [eq] at eL
          rw [stC_40 eL]
          exact (hri a G er).2 a1 L eL
        · rw [eq] at eL; cases eL
      refine tl_go (f := f) (k := k) (a := a) (C := C) (it := clC (sgn T n) n) (TX_fr g1 hT0) p5 g1 (Kp_tr hkp p2) (by omega) (by omega) (by omega) hz hL hK ?_
      intro a1 L hq s2 G' g2 cx2 hI2 kp2 l2 ps2 hK2
      have k9 : ¬ k = 4 := by
        intro z
        unfold clC at hq
        by_cases y : sgn T n a = 40
        · rw [if_pos y, if_pos z] at hq; cases hq
        · rw [if_neg y] at hq; cases hq
      exact ih f (k + 1) (a1 + 1) G' s2 (C ++ [(sgn T n a, L)]) (by omega) (by omega) (by omega) (by rw [List.length_append, hCl]; rfl) g2 cx2 hI2 kp2 l2 ps2 hK2
    by_cases c : k = 4
    · refine br_f (fun z => z c) ?_
      rw [w81rw hT hc]
      by_cases y : sgn T n a = 40
      · refine br_f (fun z => z (sg_y 40 y (by omega))) ?_
        rw [h2]
        refine mp_85w 4 a hT hc (by omega) (fun s2 h3 => ?_)
        refine go s2 _ (fr_weak rfl h3.1) (h3.1.2.2.2.2 rfl) h3.2 (Or.inr ⟨_, rfl, ?_⟩)
        unfold clC
        rw [if_pos y, if_pos c]
      · refine br_t (sg_n 40 y hsl (by omega)) (go s _ (fr_rfl _ _) rfl hcx (Or.inl ⟨rfl, ?_⟩))
        rw [stC_no y]
        exact if_neg y
    · refine br_t c (go s _ (fr_rfl _ _) rfl hcx (Or.inl ⟨rfl, ?_⟩))
      unfold clC
      by_cases y : sgn T n a = 40
      · rw [if_pos y, if_neg c]
      · rw [if_neg y, stC_no y]
theorem mp_294 {s : ST} {v : Nat} {K : ST → Prop} (h : s.2.2.2.2[v]? = some (.inr (13, pD13))) (k : K (sD s (s.2.2.2.2.set v (.inr (13, [.int 0, .float 1, .int 0]))))) : w_294 v s K := by
  have hl := q_lt h
  unfold w_294 w_293 w_292
  refine ⟨_, pob_of h, by decide, _, pob_of (q_ss hl), by show 1 < 3; omega, ?_⟩
  show K (sD s ((s.2.2.2.2.set v (.inr (13, pD13.set 0 (.int 0)))).set v (.inr (13, (pD13.set 0 (.int 0)).set 1 (.float 1)))))
  rw [List.set_set]
  exact k
theorem ini9 {s1 : ST} {p0 q : Nat} {p1 p2 : Int32} {K : ST → Prop} (h : s1.2.2.2.2[p0]? = some (.inr (9, pD9))) (k : K (sD s1 (s1.2.2.2.2.set p0 (.inr (9, [.ref q, .int p1, .int p2]))))) : (∃ f3, pob s1.2.2.2.2 p0 9 = some f3 ∧ 0 < f3.length ∧ (∃ f4, pob (s1.2.2.2.2.set p0 (.inr (9, f3.set 0 (.ref q)))) p0 9 = some f4 ∧ 1 < f4.length ∧ (∃ f5, pob ((s1.2.2.2.2.set p0 (.inr (9, f3.set 0 (.ref q)))).set p0 (.inr (9, f4.set 1 (.int p1)))) p0 9 = some f5 ∧ 2 < f5.length ∧ K (sD s1 (((s1.2.2.2.2.set p0 (.inr (9, f3.set 0 (.ref q)))).set p0 (.inr (9, f4.set 1 (.int p1)))).set p0 (.inr (9, f5.set 2 (.int p2)))))))) := by
  have hl := q_lt h
  refine ⟨_, pob_of h, by decide, _, pob_of (q_ss hl), by show 1 < 3; omega, _, pob_of (q_ss (by rw [List.length_set]; exact hl)), by show 2 < 3; omega, ?_⟩
  rw [List.set_set, List.set_set]
  exact k
theorem mp_107 {s : ST} {K : ST → Prop} {dy : PH} (ed : s.2.2.2.2 = dy ++ [(Sum.inr (9, pD9) : PC)]) (k : K (sD s ((dy ++ [(Sum.inr (9, [.ref (dy.length + 1 + 118), .int fr, .int to]) : PC)]) ++ [(Sum.inr (13, [.int 0, .float 1, .int 0]) : PC)]))) : w_107 dy.length fr to s K := by
  have l1 : (dy ++ [(Sum.inr (9, pD9) : PC)]).length = dy.length + 1 := q_al
  unfold w_107
  rw [ed, l1]
  have h0 : ((dy ++ [(Sum.inr (9, pD9) : PC)]) ++ [(Sum.inr (13, pD13) : PC)])[dy.length + 1]? = some (.inr (13, pD13)) := by
    have := q_an (dy := dy ++ [(Sum.inr (9, pD9) : PC)]) (x := Sum.inr (13, pD13))
    rw [l1] at this
    exact this
  have e1 : ((dy ++ [(Sum.inr (9, pD9) : PC)]) ++ [(Sum.inr (13, pD13) : PC)]).set (dy.length + 1) (.inr (13, [.int 0, .float 1, .int 0])) = (dy ++ [(Sum.inr (9, pD9) : PC)]) ++ [(Sum.inr (13, [.int 0, .float 1, .int 0]) : PC)] := by
    rw [← l1, set_lst]
  have ht : ((dy ++ [(Sum.inr (9, pD9) : PC)]) ++ [(Sum.inr (13, [.int 0, .float 1, .int 0]) : PC)])[dy.length]? = some (.inr (9, pD9)) := q_ao q_an
  have e2 : ((dy ++ [(Sum.inr (9, pD9) : PC)]) ++ [(Sum.inr (13, [.int 0, .float 1, .int 0]) : PC)]).set dy.length (.inr (9, [.ref (dy.length + 1 + 118), .int fr, .int to])) = (dy ++ [(Sum.inr (9, [.ref (dy.length + 1 + 118), .int fr, .int to]) : PC)]) ++ [(Sum.inr (13, [.int 0, .float 1, .int 0]) : PC)] := by
    rw [List.set_append_left _ _ (by rw [l1]; omega), set_lst]
  refine mp_294 (s := sD s ((dy ++ [(Sum.inr (9, pD9) : PC)]) ++ [(Sum.inr (13, pD13) : PC)])) h0 ?_
  have go := ini9 (s1 := sD s ((dy ++ [(Sum.inr (9, pD9) : PC)]) ++ [(Sum.inr (13, [.int 0, .float 1, .int 0]) : PC)])) (q := dy.length + 1 + 118) (p1 := fr) (p2 := to) (K := K) ht (by rw [← e2] at k; exact k)
  rw [← e1] at go
  exact go
def bgS (s : ST) (n : Nat) : ST := sI (sI (sI (sI s 3502 (nI n)) 3504 0) 3505 0) 3506 0
theorem bg_tx {s : ST} (hn : n ≤ 160) (hr : ∀ i, i < n → s.2.1 27 i = nI (T i) ∧ T i < 256) : TX (bgS s n) T n := ⟨hn, rfl, hr⟩
theorem bg_LI {s : ST} : LI ((s.2.2.2.2 ++ [(Sum.inr (9, [.ref (s.2.2.2.2.length + 1 + 118), .int fr, .int to]) : PC)]) ++ [(Sum.inr (13, [.int 0, .float 1, .int 0]) : PC)]) s.2.2.2.2.length fr to [] := by
  refine ⟨q_ao q_an, fun _ => none, ⟨by omega, ⟨0, Or.inl ⟨rfl, ?_⟩⟩, fun j hj => absurd hj (by show ¬ j < 0; omega)⟩, fun j hj => absurd hj (by show ¬ j < 0; omega)⟩
  have := q_an (dy := s.2.2.2.2 ++ [(Sum.inr (9, [.ref (s.2.2.2.2.length + 1 + 118), .int fr, .int to]) : PC)]) (x := Sum.inr (13, [.int 0, .float 1, .int 0]))
  rw [q_al] at this
  exact this
theorem bg_all {s : ST} : Fr fqPd (bgS s n) (sD (bgS s n) ((s.2.2.2.2 ++ [(Sum.inr (9, [.ref (s.2.2.2.2.length + 1 + 118), .int fr, .int to]) : PC)]) ++ [(Sum.inr (13, [.int 0, .float 1, .int 0]) : PC)])) ∧ Kp s.2.2.2.2.length (s.2.2.2.2.length + 1) s.2.2.2.2 ((s.2.2.2.2 ++ [(Sum.inr (9, [.ref (s.2.2.2.2.length + 1 + 118), .int fr, .int to]) : PC)]) ++ [(Sum.inr (13, [.int 0, .float 1, .int 0]) : PC)]) ∧ ((s.2.2.2.2 ++ [(Sum.inr (9, [.ref (s.2.2.2.2.length + 1 + 118), .int fr, .int to]) : PC)]) ++ [(Sum.inr (13, [.int 0, .float 1, .int 0]) : PC)]).length = s.2.2.2.2.length + 2 ∧ psl ((s.2.2.2.2 ++ [(Sum.inr (9, [.ref (s.2.2.2.2.length + 1 + 118), .int fr, .int to]) : PC)]) ++ [(Sum.inr (13, [.int 0, .float 1, .int 0]) : PC)]) = psl s.2.2.2.2 + 6 := by
  refine ⟨⟨fun _ _ => rfl, fun _ _ => rfl, fun _ _ => rfl, fun _ => rfl, fun z => absurd z (by decide)⟩, Kp_tr Kp_app Kp_app, by rw [q_al, q_al], ?_⟩
  rw [psl_push, psl_push]
  rfl
theorem bg_cx {s1 : ST} (h1 : s1.1 3505 = 0) (h2 : s1.1 3504 = 0) : CXw n s1 (.inr (0, [])) := ⟨h1, h2, by show 0 ≤ n; omega⟩
theorem mp_62 {s : ST} {K : Nat → ST → Prop} (hn : n ≤ 160) (hr : ∀ i, i < n → s.2.1 27 i = nI (T i) ∧ T i < 256) (k : ∀ s1, FinC (bgS s n) s.2.2.2.2.length fr to s1 (pTl (sgn T n) n (clRu (sgn T n) n) 11 0 0 []) → K s.2.2.2.2.length s1) : w_62 (nI n) fr to s K := by
  unfold w_62 w_59
  have e0 : (if Int32.ofNat 200 < nI n then Int32.ofNat 200 else nI n) = nI n := if_neg (nI_nlt (a := 200) (b := n) (by omega) (by omega))
  rw [e0]
  obtain ⟨b1, b2, b3, b4⟩ := bg_all (n := n) (fr := fr) (to := to) (s := s)
  refine mp_107 (s := sD (bgS s n) (s.2.2.2.2 ++ [(Sum.inr (9, pD9) : PC)])) (dy := s.2.2.2.2) rfl ?_
  exact ⟨11, l_62 (S00 := bgS s n) (T := T) (n := n) (fr := fr) (to := to) (bg_tx hn hr) 11 11 0 0 [] _ [] (by omega) (by omega) (by omega) rfl b1 (bg_cx rfl rfl) bg_LI b2 (Nat.le_of_eq b3) (Nat.le_of_eq b4) k⟩
theorem mp_63 {s : ST} {K : Nat → ST → Prop} (hn : n ≤ 160) (hr : ∀ i, i < n → s.2.1 27 i = nI (T i) ∧ T i < 256) (k : ∀ s1, FinC (bgS s n) s.2.2.2.2.length 0 3999 s1 (pTl (sgn T n) n (clC (sgn T n) n) 5 0 0 []) → K s.2.2.2.2.length s1) : w_63 (nI n) s K := by
  unfold w_63 w_59
  have e0 : (if Int32.ofNat 200 < nI n then Int32.ofNat 200 else nI n) = nI n := if_neg (nI_nlt (a := 200) (b := n) (by omega) (by omega))
  rw [e0]
  obtain ⟨b1, b2, b3, b4⟩ := bg_all (n := n) (fr := 0) (to := 3999) (s := s)
  refine mp_107 (s := sD (bgS s n) (s.2.2.2.2 ++ [(Sum.inr (9, pD9) : PC)])) (dy := s.2.2.2.2) rfl ?_
  exact ⟨5, l_63 (S00 := bgS s n) (T := T) (n := n) (fr := 0) (to := 3999) (bg_tx hn hr) 5 5 0 0 [] _ [] (by omega) (by omega) (by omega) rfl b1 (bg_cx rfl rfl) bg_LI b2 (Nat.le_of_eq b3) (Nat.le_of_eq b4) k⟩
end Cp
