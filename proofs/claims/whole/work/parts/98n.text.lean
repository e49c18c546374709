/-! ===== the class's texts: all clauses ===== -/
def clRu (sg : Nat → Nat) (n k a : Nat) : Prs := if sg a = 114 ∨ sg a = 108 ∨ sg a = 120 then (if k = 10 then .inl (4, a) else if sg a = 120 then pStr sg (a + 1) else pEn sg n (a + 1)) else .inl (1, a)
def stC (sg : Nat → Nat) (n k a : Nat) : Prs := pb (pEn sg n a) (fun a1 G => if k = 0 then .inr (a1, (0, 0) :: G) else pb (pLt sg (n + 1) a1 0) (fun a2 L => .inr (a2, L ++ G)))
def clC (sg : Nat → Nat) (n k a : Nat) : Prs := if sg a = 40 then (if k = 4 then .inl (4, a) else stC sg n k a) else .inl (1, a)
abbrev PTr : Type := Sum (Nat × Nat) (List Clz)
def pTl (sg : Nat → Nat) (n : Nat) (it : Nat → Nat → Prs) : Nat → Nat → Nat → List Clz → PTr
  | 0, _, _, _ => .inl (0, 0)
  | f + 1, k, a, C => match it k a with
    | .inl e => .inl e
    | .inr z => if sg z.1 = 59 then pTl sg n it f (k + 1) (z.1 + 1) (C ++ [(sg a, z.2)]) else if z.1 < n then .inl (1, z.1) else .inr (C ++ [(sg a, z.2)])
def FinV (L0 : Nat) (fr to : Int32) (s1 : ST) : PTr → Prop
  | .inl e => s1.1 3505 = nI e.1 ∧ s1.1 3506 = nI e.2 ∧ 0 < e.1 ∧ e.1 ≤ 6
  | .inr C => s1.1 3505 = 0 ∧ LI s1.2.2.2.2 L0 fr to C
def FinC (S00 : ST) (L0 : Nat) (fr to : Int32) (s1 : ST) (R : PTr) : Prop := Fr fqPd S00 s1 ∧ Kp L0 (L0 + 1) S00.2.2.2.2 s1.2.2.2.2 ∧ s1.2.2.2.2.length ≤ L0 + 40 ∧ psl s1.2.2.2.2 ≤ psl S00.2.2.2.2 + 3000 ∧ FinV L0 fr to s1 R
def CTt (x3 : Int32) (x2 : Nat) (s : ST) (KK : Int32 → ST → Prop) : Prop := w_66 s (fun r6 s5 => ((¬ x3 = 0 → w_67 s5 (fun r8 s7 => (∃ v9, pgf s7.2.2.2.2 x2 9 0 = some (.ref (v9 + 118)) ∧ w_18 s7.2.2.2.2.length (40 : Int32) r6 r8 (-1 : Int32) (sD s7 (s7.2.2.2.2 ++ [(Sum.inr (1, pD1) : PC)])) (fun s10 => (∃ f14, pob s10.2.2.2.2 v9 13 = some f14 ∧ w_301 v9 s7.2.2.2.2.length s10 (fun r13 s12 => w_82 (59 : Int32) s12 KK)))))) ∧ (¬ (¬ x3 = 0) → (∃ v17, pgf s5.2.2.2.2 x2 9 0 = some (.ref (v17 + 118)) ∧ w_18 s5.2.2.2.2.length (40 : Int32) r6 (0 : Int32) (-1 : Int32) (sD s5 (s5.2.2.2.2 ++ [(Sum.inr (1, pD1) : PC)])) (fun s18 => (∃ f22, pob s18.2.2.2.2 v17 13 = some f22 ∧ w_301 v17 s5.2.2.2.2.length s18 (fun r21 s20 => w_82 (59 : Int32) s20 KK)))))))
section Cn2
variable {T : Nat → Nat} {n L0 : Nat} {fr to : Int32} {C : List Clz}
theorem it_c {s : ST} {r : Prs} {kk : Nat} {KK : Int32 → ST → Prop} (hT : TX s T n) (h : CXw n s r) (hI : LI s.2.2.2.2 L0 fr to C) (hC : C.length ≤ 10) (hk : kk < 100) (k : ∀ s1 R, PB L0 n s s1 R → (∀ e, r = .inl e → R = .inl e) → (∀ a G, r = .inr (a, G) → Pz R (stC (sgn T n) n kk a) ∧ ∀ a1 L, stC (sgn T n) n kk a = .inr (a1, L) → LI s1.2.2.2.2 L0 fr to (C ++ [(40, L)])) → w_82 59 s1 KK) : CTt (nI kk) L0 s KK := by
  unfold CTt
  refine mp_66w hT h (fun s5 u f f5 cx5 ed5 hu hcode => ?_)
  have fin : ∀ (s7 : ST) (R : Prs) (tg : Int32), s7.2.2.2.2 = s5.2.2.2.2 → Fr fqPd s s7 → CXw n s7 R → (∀ e, r = .inl e → R = .inl e) → (∀ a G, r = .inr (a, G) → Pz R (stC (sgn T n) n kk a) ∧ ∀ a1 L, stC (sgn T n) n kk a = .inr (a1, L) → ∃ w G1 a0, L = (w, 0) :: G1 ∧ tg = nI w ∧ w < 8 ∧ pEn (sgn T n) n a = .inr (a0, G1)) → (∃ v9, pgf s7.2.2.2.2 L0 9 0 = some (.ref (v9 + 118)) ∧ w_18 s7.2.2.2.2.length (40 : Int32) s.2.2.2.2.length tg (-1 : Int32) (sD s7 (s7.2.2.2.2 ++ [(Sum.inr (1, pD1) : PC)])) (fun s10 => (∃ f14, pob s10.2.2.2.2 v9 13 = some f14 ∧ w_301 v9 s7.2.2.2.2.length s10 (fun r13 s12 => w_82 (59 : Int32) s12 KK)))) := by
    intro s7 R tg e7 f7 cx7 hl hr
    have ed7 : s7.2.2.2.2 = s.2.2.2.2 ++ [(Sum.inl (0, u, .inl f) : PC)] := e7.trans ed5
    rw [ed7]
    have lm : (s.2.2.2.2 ++ [(Sum.inl (0, u, .inl f) : PC)]).length = s.2.2.2.2.length + 1 := q_al
    refine ⟨L0 + 1, pgf_of (q_ao hI.1) rfl, ?_⟩
    have hobj : ((s.2.2.2.2 ++ [(Sum.inl (0, u, .inl f) : PC)]) ++ [(Sum.inr (1, pD1) : PC)])[(s.2.2.2.2 ++ [(Sum.inl (0, u, .inl f) : PC)]).length]? = some (.inr (1, pD1)) := q_an
    have hrow : ((s.2.2.2.2 ++ [(Sum.inl (0, u, .inl f) : PC)]) ++ [(Sum.inr (1, pD1) : PC)])[s.2.2.2.2.length]? = some (.inl (0, u, .inl f)) := q_ao q_an
    refine mp_18 (s := sD s7 ((s.2.2.2.2 ++ [(Sum.inl (0, u, .inl f) : PC)]) ++ [(Sum.inr (1, pD1) : PC)])) hobj ?_
    have ext12 : Ext s.2.2.2.2 (((s.2.2.2.2 ++ [(Sum.inl (0, u, .inl f) : PC)]) ++ [(Sum.inr (1, pD1) : PC)]).set (s.2.2.2.2 ++ [(Sum.inl (0, u, .inl f) : PC)]).length (.inr (1, [.int 40, .ref (s.2.2.2.2.length + 118), .int tg, .int (-1)]))) := Ext_set (Ext_tr Ext_app Ext_app) (by omega)
    have hc12 : (((s.2.2.2.2 ++ [(Sum.inl (0, u, .inl f) : PC)]) ++ [(Sum.inr (1, pD1) : PC)]).set (s.2.2.2.2 ++ [(Sum.inl (0, u, .inl f) : PC)]).length (.inr (1, [.int 40, .ref (s.2.2.2.2.length + 118), .int tg, .int (-1)])))[(s.2.2.2.2 ++ [(Sum.inl (0, u, .inl f) : PC)]).length]? = some (.inr (1, [.int 40, .ref (s.2.2.2.2.length + 118), .int tg, .int (-1)])) := q_ss (q_lt hobj)
    have hr12 : (((s.2.2.2.2 ++ [(Sum.inl (0, u, .inl f) : PC)]) ++ [(Sum.inr (1, pD1) : PC)]).set (s.2.2.2.2 ++ [(Sum.inl (0, u, .inl f) : PC)]).length (.inr (1, [.int 40, .ref (s.2.2.2.2.length + 118), .int tg, .int (-1)])))[s.2.2.2.2.length]? = some (.inl (0, u, .inl f)) := q_sn hrow (by omega)
    refine fin_add (s := sD s7 (((s.2.2.2.2 ++ [(Sum.inl (0, u, .inl f) : PC)]) ++ [(Sum.inr (1, pD1) : PC)]).set (s.2.2.2.2 ++ [(Sum.inl (0, u, .inl f) : PC)]).length (.inr (1, [.int 40, .ref (s.2.2.2.2.length + 118), .int tg, .int (-1)])))) (LI_ext ext12 hI) hC hc12 (fun dy1 z1 z2 z3 z4 => ?_)
    have z2 : dy1.length ≤ (((s.2.2.2.2 ++ [(Sum.inl (0, u, .inl f) : PC)]) ++ [(Sum.inr (1, pD1) : PC)]).set (s.2.2.2.2 ++ [(Sum.inl (0, u, .inl f) : PC)]).length (.inr (1, [.int 40, .ref (s.2.2.2.2.length + 118), .int tg, .int (-1)]))).length + 1 := z2
    have z3 : psl dy1 ≤ psl (((s.2.2.2.2 ++ [(Sum.inl (0, u, .inl f) : PC)]) ++ [(Sum.inr (1, pD1) : PC)]).set (s.2.2.2.2 ++ [(Sum.inl (0, u, .inl f) : PC)]).length (.inr (1, [.int 40, .ref (s.2.2.2.2.length + 118), .int tg, .int (-1)]))) + 15 := z3
    rw [List.length_set, q_al, lm] at z2
    rw [psl_o4 hobj, psl_push, psl_push] at z3
    have e4 : psz (Sum.inr (1, pD1) : PC) = 4 := rfl
    have e0 : psz (Sum.inl (0, u, .inl f) : PC) = u := rfl
    refine k _ R ⟨?_, Kp_tr (Kp_ext ext12) z1, by show dy1.length ≤ _; omega, by show psl dy1 ≤ _; omega, cx7⟩ hl ?_
    · obtain ⟨q1, q2, q3, q4, q5⟩ := f7
      exact ⟨q1, q2, q3, q4, fun z => absurd z (by decide)⟩
    · intro a G er
      obtain ⟨p1, p2⟩ := hr a G er
      refine ⟨p1, fun a1 L eL => ?_⟩
      obtain ⟨w, G1, a0, w1, w2, w3, w4⟩ := p2 a1 L eL
      obtain ⟨u1, u2⟩ := hcode a G a0 G1 er w4
      have ec : cdL (40, L) = G1 := by
        show (if (40 : Nat) = 40 then L.tail else L) = G1
        rw [if_pos rfl, w1]
        rfl
      refine z4 (40, L) ⟨s.2.2.2.2.length, tg, -1, hc12, fun z => absurd z (by show ¬ (40 : Nat) = 120; omega), fun _ => ⟨w, G1, w1, w2, w3⟩, fun _ => ⟨f, ?_, ?_⟩⟩
      · rw [ec, ← u1]
        exact hr12
      · rw [ec]
        exact u2
  by_cases c : kk = 0
  · refine br_f (fun z => z (by rw [c]; rfl)) (fin s5 _ 0 rfl f5 (CX_w cx5) (fun e er => by rw [er]; rfl) (fun a G er => ?_))
    rw [er]
    show Pz (pEn (sgn T n) n a) _ ∧ _
    unfold stC
    cases hp : pEn (sgn T n) n a with
    | inl e => exact ⟨rfl, fun a1 L z => by cases z⟩
    | inr z =>
      obtain ⟨a0, G1⟩ := z
      simp only [pb, if_pos c]
      exact ⟨⟨G1, rfl⟩, fun a1 L e1 => ⟨0, G1, a0, (inr_inv e1).2.symm, rfl, by omega, rfl⟩⟩
  · refine br_t (by rw [i_eq, nI_toInt (by omega), l_0]; omega) ?_
    refine mp_67 (S0 := s5) (TX_fr f5 hT) ⟨fr_rfl _ _, cx5⟩ (fun y s7 h7 hv => ?_)
    refine fin s7 _ y (h7.1.2.2.2.2 rfl) (fr_tr (F := fqPs) rfl f5 h7.1) (CX_w h7.2) (fun e er => by rw [er]; rfl) (fun a G er => ?_)
    rw [er] at hv ⊢
    show Pz (pb (pEn (sgn T n) n a) _) _ ∧ _
    have hv : ∀ a' G' a1 L, pEn (sgn T n) n a = .inr (a', G') → pLt (sgn T n) (n + 1) a' 0 = .inr (a1, L) → ∃ w1, L = [(w1, 0)] ∧ y = nI w1 ∧ w1 < 8 := hv
    unfold stC
    cases hp : pEn (sgn T n) n a with
    | inl e => exact ⟨rfl, fun a1 L z => by cases z⟩
    | inr z =>
      obtain ⟨a0, G1⟩ := z
      have ep : ∀ F : PF, pb (.inr (a0, G1)) F = F a0 G1 := fun F => rfl
      rw [ep, ep, if_neg c]
      cases hq : pLt (sgn T n) (n + 1) a0 0 with
      | inl e => exact ⟨rfl, fun a1 L z => by cases z⟩
      | inr z =>
        obtain ⟨a2, L2⟩ := z
        obtain ⟨w, w1, w2, w3⟩ := hv a0 G1 a2 L2 hp hq
        refine ⟨⟨G1, rfl⟩, fun a1 L e1 => ⟨w, G1, a0, ?_, w2, w3, rfl⟩⟩
        rw [← (inr_inv e1).2, w1]
        rfl
end Cn2
