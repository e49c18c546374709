/-! ===== the class's texts: from clause to clause ===== -/
section Co
variable {T : Nat → Nat} {n L0 : Nat} {fr to : Int32}
theorem w84l {s : ST} {e : Nat × Nat} {K : ST → Prop} (h : CXw n s (.inl e)) (k : K s) : w_84 s K := by
  unfold w_84
  refine ⟨fun _ => k, fun _ => ?_⟩
  rw [w85lw (S0 := s) (n := n) ⟨fr_rfl _ _, h⟩]
  exact k
theorem tl_go {S00 s : ST} {R : Prs} {it : Nat → Nat → Prs} {f k a : Nat} {C : List Clz} {NEXT : ST → Prop} {K : Nat → ST → Prop} (hT : TX s T n) (hcx : CXw n s R) (hfr : Fr fqPd S00 s) (hkp : Kp L0 (L0 + 1) S00.2.2.2.2 s.2.2.2.2) (hl : s.2.2.2.2.length ≤ L0 + 2 + 3 * (k + 1)) (hps : psl s.2.2.2.2 ≤ psl S00.2.2.2.2 + 6 + 200 * (k + 1)) (hk : k ≤ 10) (hz : Pz R (it k a)) (hI : ∀ a1 L, it k a = .inr (a1, L) → LI s.2.2.2.2 L0 fr to (C ++ [(sgn T n a, L)])) (hK : ∀ s1, FinC S00 L0 fr to s1 (pTl (sgn T n) n it (f + 1) k a C) → K L0 s1) (next : ∀ a1 L, it k a = .inr (a1, L) → ∀ s1 G', Fr fqPd S00 s1 → CXw n s1 (.inr (a1 + 1, G')) → LI s1.2.2.2.2 L0 fr to (C ++ [(sgn T n a, L)]) → Kp L0 (L0 + 1) S00.2.2.2.2 s1.2.2.2.2 → s1.2.2.2.2.length ≤ L0 + 2 + 3 * (k + 1) → psl s1.2.2.2.2 ≤ psl S00.2.2.2.2 + 6 + 200 * (k + 1) → (∀ s2, FinC S00 L0 fr to s2 (pTl (sgn T n) n it f (k + 1) (a1 + 1) (C ++ [(sgn T n a, L)])) → K L0 s2) → NEXT s1) : w_82 59 s (fun r18 s17 => ((¬ r18 = 0 → NEXT s17) ∧ (¬ (¬ r18 = 0) → w_84 s17 (fun s108 => K L0 s108)))) := by
  have hn := hT.1
  unfold pTl at hK
  cases hq : it k a with
  | inl e =>
    rw [hq] at hz hK
    have hz : R = .inl e := hz
    rw [hz] at hcx
    show w_82 (nI 59) s _
    rw [w82lw (S0 := s) (n := n) ⟨fr_rfl _ _, hcx⟩ (by omega)]
    refine br_f (fun z => z rfl) (w84l hcx (hK s ⟨hfr, hkp, by omega, by omega, hcx.1, hcx.2.1, hcx.2.2.1, hcx.2.2.2⟩))
  | inr z =>
    obtain ⟨a1, L⟩ := z
    rw [hq] at hz hK
    obtain ⟨G', hz⟩ := hz
    have hz : R = .inr (a1, G') := hz
    rw [hz] at hcx
    have hc : CW s n s (.inr (a1, G')) := ⟨fr_rfl _ _, hcx⟩
    have hI1 := hI a1 L hq
    have hK : ∀ s1, FinC S00 L0 fr to s1 (if sgn T n a1 = 59 then pTl (sgn T n) n it f (k + 1) (a1 + 1) (C ++ [(sgn T n a, L)]) else if a1 < n then .inl (1, a1) else .inr (C ++ [(sgn T n a, L)])) → K L0 s1 := hK
    show w_82 (nI 59) s _
    by_cases c : sgn T n a1 = 59
    · rw [if_pos c] at hK
      have hal := sgn_in hT (a := a1) (by omega)
      have h9 := CW_adv hc hal
      rw [w82yw hT hc (by omega) c]
      refine br_t (by decide) (next a1 L hq _ G' ?_ h9.2 hI1 hkp hl hps hK)
      exact fr_tr (F := fqPs) rfl hfr h9.1
    · rw [if_neg c] at hK
      have h2 : s.1 3504 = nI a1 := hcx.2.1
      have h4 : a1 ≤ n := hcx.2.2
      rw [w82nw hT hc (by omega) c]
      refine br_f (fun z => z rfl) ?_
      unfold w_84
      rw [hT.2.1, h2, nI_leI (by omega) (by omega)]
      by_cases d : a1 < n
      · rw [if_pos d] at hK
        refine br_f (by omega) (mp_85w 1 a1 hT hc (by omega) (fun s2 h3 => hK s2 ⟨fr_tr (F := fqPs) rfl hfr h3.1, ?_, ?_, ?_, h3.2.1, h3.2.2.1, h3.2.2.2.1, h3.2.2.2.2⟩))
        · rw [h3.1.2.2.2.2 rfl]; exact hkp
        · rw [h3.1.2.2.2.2 rfl]; omega
        · rw [h3.1.2.2.2.2 rfl]; omega
      · rw [if_neg d] at hK
        exact br_t (by omega) (hK s ⟨hfr, hkp, by omega, by omega, hcx.1, hI1⟩)
def cl0 (sg : Nat → Nat) (n a : Nat) : Prs := if sg a = 120 then pStr sg (a + 1) else if sg a = 108 ∨ sg a = 114 then pEn sg n (a + 1) else .inl (1, a)
theorem Pz_rf {r : Prs} : Pz r r := by
  cases r with
  | inl e => exact rfl
  | inr z => exact ⟨z.2, rfl⟩
theorem bd_62 {s : ST} {r q : Prs} {a : Nat} {G : List Pc} {C : List Clz} {KK : Int32 → ST → Prop} (hT : TX s T n) (h : CXw n s r) (hI : LI s.2.2.2.2 L0 fr to C) (hC : C.length ≤ 10) (hrq : (r = .inr (a, G) ∧ q = cl0 (sgn T n) n a) ∨ ∃ e, r = .inl e ∧ q = .inl e) (k : ∀ s1 R, PB L0 n s s1 R → Pz R q → (∀ a1 L, q = .inr (a1, L) → LI s1.2.2.2.2 L0 fr to (C ++ [(sgn T n a, L)])) → w_82 59 s1 KK) : ((¬ sgI (sgn T n a) = (120 : Int32) → ((¬ sgI (sgn T n a) = (108 : Int32) → RLt 114 (sgI (sgn T n a)) L0 s KK) ∧ (¬ (¬ sgI (sgn T n a) = (108 : Int32)) → RLt 108 (sgI (sgn T n a)) L0 s KK))) ∧ (¬ (¬ sgI (sgn T n a) = (120 : Int32)) → XTt L0 s KK)) := by
  have hl := sgn_le hT (a := a)
  have rl : ∀ c0 : Nat, c0 < 120 → 40 < c0 → (sgn T n a = c0 ∨ (c0 = 114 ∧ ¬ sgn T n a = 120 ∧ ¬ sgn T n a = 108 ∧ ¬ sgn T n a = 114)) → (c0 = 108 ∨ c0 = 114) → RLt (nI c0) (sgI (sgn T n a)) L0 s KK := by
    intro c0 c1 c2 hs hc
    refine it_rl hT h hI hC ⟨c1, c2⟩ (fun s1 pb1 hL => ?_)
    rcases hrq with ⟨er, eq⟩ | ⟨e, er, eq⟩
    · rw [er] at pb1
      have pb1 : PB L0 n s s1 (pb (if sgn T n a = c0 then .inr (a + 1, G) else .inl (1, a)) (fun a _ => pEn (sgn T n) n a)) := pb1
      rcases hs with hs | ⟨h114, n1, n2, n3⟩
      · rw [if_pos hs] at pb1
        have e0 : q = pEn (sgn T n) n (a + 1) := by
          rw [eq]
          unfold cl0
          rw [if_neg (by omega), if_pos (by omega)]
        refine k s1 _ pb1 (by rw [e0]; exact Pz_rf) (fun a1 L eL => ?_)
        rw [e0] at eL
        rw [hs]
        exact hL a G a1 L er hs eL (by rw [hs]; exact if_neg (by omega))
      · rw [if_neg (by omega)] at pb1
        have e0 : q = .inl (1, a) := by
          rw [eq]
          unfold cl0
          rw [if_neg n1, if_neg (by omega)]
        exact k s1 _ pb1 (by rw [e0]; exact rfl) (fun a1 L eL => by rw [e0] at eL; cases eL)
    · rw [er] at pb1
      exact k s1 _ pb1 (by rw [eq]; exact rfl) (fun a1 L eL => by rw [eq] at eL; cases eL)
  by_cases c1 : sgn T n a = 120
  · refine br_f (fun z => z (sg_y 120 c1 (by omega))) (it_x hT h hI hC (fun s1 R pb1 hl hr => ?_))
    rcases hrq with ⟨er, eq⟩ | ⟨e, er, eq⟩
    · obtain ⟨p1, p2⟩ := hr a G er c1
      have e0 : q = pStr (sgn T n) (a + 1) := by rw [eq]; exact if_pos c1
      refine k s1 R pb1 (by rw [e0]; exact p1) (fun a1 L eL => ?_)
      rw [e0] at eL
      rw [c1]
      exact p2 a1 L eL
    · exact k s1 R pb1 (by rw [eq]; exact hl e er) (fun a1 L eL => by rw [eq] at eL; cases eL)
  · refine br_t (sg_n 120 c1 hl (by omega)) ?_
    by_cases c2 : sgn T n a = 108
    · exact br_f (fun z => z (sg_y 108 c2 (by omega))) (rl 108 (by omega) (by omega) (Or.inl c2) (Or.inl rfl))
    · refine br_t (sg_n 108 c2 hl (by omega)) (rl 114 (by omega) (by omega) ?_ (Or.inr rfl))
      by_cases c3 : sgn T n a = 114
      · exact Or.inl c3
      · exact Or.inr ⟨rfl, c1, c2, c3⟩
theorem mp_64 {x : Nat} {s : ST} {K : Int32 → ST → Prop} (hx : x ≤ 256) (k1 : (x = 114 ∨ x = 108 ∨ x = 120) → K 1 s) (k0 : ¬ (x = 114 ∨ x = 108 ∨ x = 120) → K 0 s) : w_64 (sgI x) s K := by
  unfold w_64
  by_cases a : x = 114
  · exact br_t (sg_y 114 a (by omega)) (k1 (by omega))
  refine br_f (sg_n 114 a hx (by omega)) ?_
  by_cases b : x = 108
  · exact br_t (sg_y 108 b (by omega)) (k1 (by omega))
  refine br_f (sg_n 108 b hx (by omega)) ?_
  by_cases c : x = 120
  · exact br_f (fun z => z (sg_y 120 c (by omega))) (k1 (by omega))
  · exact br_t (sg_n 120 c hx (by omega)) (k0 (by omega))
theorem l_62 {S00 : ST} {K : Nat → ST → Prop} (hT0 : TX S00 T n) : ∀ (N f k a : Nat) (G : List Pc) (s : ST) (C : List Clz), 11 - k ≤ N → 11 - k ≤ f → k ≤ 10 → C.length = k → Fr fqPd S00 s → CXw n s (.inr (a, G)) → LI s.2.2.2.2 L0 fr to C → Kp L0 (L0 + 1) S00.2.2.2.2 s.2.2.2.2 → s.2.2.2.2.length ≤ L0 + 2 + 3 * k → psl s.2.2.2.2 ≤ psl S00.2.2.2.2 + 6 + 200 * k → (∀ s1, FinC S00 L0 fr to s1 (pTl (sgn T n) n (clRu (sgn T n) n) f k a C) → K L0 s1) → w_62_L11 N L0 (nI k) s (fun y4 s107 => w_84 s107 (fun s108 => K y4 s108)) (fun y4 s110 => w_84 s110 (fun s111 => K y4 s111)) K := by
  intro N
  induction N with
  | zero => intro f k a G s C z _ _; omega
  | succ N ih =>
    intro f k a G s C hN hf hk hCl hfr hcx hI hkp hl hps hK
    obtain ⟨f, rfl⟩ : ∃ i, f = i + 1 := ⟨f - 1, by omega⟩
    have hT : TX s T n := TX_fr hfr hT0
    have hc : CW s n s (.inr (a, G)) := ⟨fr_rfl _ _, hcx⟩
    have hsl := sgn_le hT (a := a)
    have h2 : s.1 3504 = nI a := hcx.2.1
    rw [w_62_L11, show (10 : Int32) = nI 10 from rfl, nI_eq (by omega) (by omega)]
    refine br_f (nI_nlt (by omega) (by omega)) ?_
    rw [w81rw hT hc, nI_1]
    have go : ∀ (s5 : ST) (r : Prs), Fr fqPd s s5 → s5.2.2.2.2 = s.2.2.2.2 → CXw n s5 r → ((r = .inr (a, G) ∧ clRu (sgn T n) n k a = cl0 (sgn T n) n a) ∨ ∃ e, r = .inl e ∧ clRu (sgn T n) n k a = .inl e) → ((¬ sgI (sgn T n a) = (120 : Int32) → ((¬ sgI (sgn T n a) = (108 : Int32) → RLt 114 (sgI (sgn T n a)) L0 s5 (fun r18 s17 => ((¬ r18 = 0 → w_62_L11 N L0 (nI (k + 1)) s17 (fun y4 s107 => w_84 s107 (fun s108 => K y4 s108)) (fun y4 s110 => w_84 s110 (fun s111 => K y4 s111)) K) ∧ (¬ (¬ r18 = 0) → w_84 s17 (fun s108 => K L0 s108))))) ∧ (¬ (¬ sgI (sgn T n a) = (108 : Int32)) → RLt 108 (sgI (sgn T n a)) L0 s5 (fun r18 s17 => ((¬ r18 = 0 → w_62_L11 N L0 (nI (k + 1)) s17 (fun y4 s107 => w_84 s107 (fun s108 => K y4 s108)) (fun y4 s110 => w_84 s110 (fun s111 => K y4 s111)) K) ∧ (¬ (¬ r18 = 0) → w_84 s17 (fun s108 => K L0 s108))))))) ∧ (¬ (¬ sgI (sgn T n a) = (120 : Int32)) → XTt L0 s5 (fun r18 s17 => ((¬ r18 = 0 → w_62_L11 N L0 (nI (k + 1)) s17 (fun y4 s107 => w_84 s107 (fun s108 => K y4 s108)) (fun y4 s110 => w_84 s110 (fun s111 => K y4 s111)) K) ∧ (¬ (¬ r18 = 0) → w_84 s17 (fun s108 => K L0 s108)))))) := by
      intro s5 r f5 ed5 cx5 hrq
      refine bd_62 (q := clRu (sgn T n) n k a) (C := C) (fr := fr) (to := to) (TX_fr f5 hT) cx5 (by rw [ed5]; exact hI) (by omega) hrq (fun s1 R pb1 hz hL => ?_)
      obtain ⟨p1, p2, p3, p4, p5⟩ := pb1
      rw [ed5] at p2 p3 p4
      have g1 : Fr fqPd S00 s1 := fr_tr (F := fqPd) rfl (fr_tr (F := fqPd) rfl hfr f5) p1
      refine tl_go (f := f) (k := k) (a := a) (C := C) (it := clRu (sgn T n) n) (TX_fr g1 hT0) p5 g1 (Kp_tr hkp p2) (by omega) (by omega) hk hz hL hK ?_
      intro a1 L hq s2 G' g2 cx2 hI2 kp2 l2 ps2 hK2
      have k9 : ¬ k = 10 := by
        intro z
        unfold clRu at hq
        by_cases y : sgn T n a = 114 ∨ sgn T n a = 108 ∨ sgn T n a = 120
        · rw [if_pos y, if_pos z] at hq; cases hq
        · rw [if_neg y] at hq; cases hq
      exact ih f (k + 1) (a1 + 1) G' s2 (C ++ [(sgn T n a, L)]) (by omega) (by omega) (by omega) (by rw [List.length_append, hCl]; rfl) g2 cx2 hI2 kp2 l2 ps2 hK2
    by_cases c : k = 10
    · refine br_f (fun z => z c) (mp_64 hsl (fun y => br_f (by decide) ?_) (fun y => br_t rfl ?_))
      · rw [h2]
        refine mp_85w 4 a hT hc (by omega) (fun s2 h3 => ?_)
        refine go s2 _ (fr_weak rfl h3.1) (h3.1.2.2.2.2 rfl) h3.2 (Or.inr ⟨_, rfl, ?_⟩)
        unfold clRu
        rw [if_pos y, if_pos c]
      · refine go s _ (fr_rfl _ _) rfl hcx (Or.inl ⟨rfl, ?_⟩)
        unfold clRu cl0
        rw [if_neg y, if_neg (by omega), if_neg (by omega)]
    · refine br_t c (go s _ (fr_rfl _ _) rfl hcx (Or.inl ⟨rfl, ?_⟩))
      unfold clRu cl0
      by_cases y : sgn T n a = 120
      · rw [if_pos (by omega), if_neg c, if_pos y, if_pos y]
      · rw [if_neg y]
        by_cases z : sgn T n a = 108 ∨ sgn T n a = 114
        · rw [if_pos (by omega), if_neg c, if_neg y, if_pos z]
        · rw [if_neg (by omega), if_neg z, if_neg y]
end Co
