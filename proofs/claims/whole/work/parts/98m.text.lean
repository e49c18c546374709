/-! ===== the class's clauses: one is read and added ===== -/
def RLt (c0 r6 : Int32) (x4 : Nat) (s5 : ST) (KK : Int32 → ST → Prop) : Prop := w_83 c0 s5 (fun s7 => (∃ v9, pgf s7.2.2.2.2 x4 9 0 = some (.ref (v9 + 118)) ∧ w_66 (sD s7 (s7.2.2.2.2 ++ [(Sum.inr (1, pD1) : PC)])) (fun r11 s10 => w_18 s7.2.2.2.2.length r6 r11 (-1 : Int32) (-1 : Int32) s10 (fun s12 => (∃ f16, pob s12.2.2.2.2 v9 13 = some f16 ∧ w_301 v9 s7.2.2.2.2.length s12 (fun r15 s14 => w_82 (59 : Int32) s14 KK))))))
def XTt (x4 : Nat) (s5 : ST) (KK : Int32 → ST → Prop) : Prop := (∃ v31, pgf s5.2.2.2.2 x4 9 0 = some (.ref (v31 + 118)) ∧ w_65 s5 (fun r33 s32 => (∃ f36, pob s32.2.2.2.2 v31 13 = some f36 ∧ w_301 v31 r33 s32 (fun r35 s34 => w_82 (59 : Int32) s34 KK))))
def Pz (r q : Prs) : Prop := match q with
  | .inl e => r = .inl e
  | .inr z => ∃ G, r = .inr (z.1, G)
/-- what one clause leaves -/
def PB (L0 n : Nat) (s s1 : ST) (r : Prs) : Prop := Fr fqPd s s1 ∧ Kp L0 (L0 + 1) s.2.2.2.2 s1.2.2.2.2 ∧ s1.2.2.2.2.length ≤ s.2.2.2.2.length + 3 ∧ psl s1.2.2.2.2 ≤ psl s.2.2.2.2 + 200 ∧ CXw n s1 r
theorem psl_o4 {dy : PH} {i : Nat} {w1 w2 w3 w4 : Value} (h : dy[i]? = some (.inr (1, pD1))) : psl (dy.set i (.inr (1, [w1, w2, w3, w4]))) = psl dy := psl_set h rfl
section Cm
variable {T : Nat → Nat} {n L0 : Nat} {fr to : Int32} {C : List Clz}
theorem it_rl {s : ST} {r : Prs} {c0 : Nat} {r6 : Int32} {KK : Int32 → ST → Prop} (hT : TX s T n) (h : CXw n s r) (hI : LI s.2.2.2.2 L0 fr to C) (hC : C.length ≤ 10) (h0 : c0 < 120 ∧ 40 < c0) (k : ∀ s1, PB L0 n s s1 (pb (pb r (fun a G => if sgn T n a = c0 then .inr (a + 1, G) else .inl (1, a))) (fun a _ => pEn (sgn T n) n a)) → (∀ a G a1 G1, r = .inr (a, G) → sgn T n a = c0 → pEn (sgn T n) n (a + 1) = .inr (a1, G1) → r6 = nI c0 → LI s1.2.2.2.2 L0 fr to (C ++ [(c0, G1)])) → w_82 59 s1 KK) : RLt (nI c0) r6 L0 s KK := by
  unfold RLt
  refine mp_83w (S0 := s) hT ⟨fr_rfl _ _, h⟩ (by omega) (fun s7 h7 => ?_)
  have ed : s7.2.2.2.2 = s.2.2.2.2 := h7.1.2.2.2.2 rfl
  have f7 : Fr fqPd s s7 := fr_weak rfl h7.1
  have h7v := h7.2
  rw [ed]
  refine ⟨L0 + 1, pgf_of hI.1 rfl, ?_⟩
  have f8 : Fr fqPd s (sD s7 (s.2.2.2.2 ++ [(Sum.inr (1, pD1) : PC)])) := by
    obtain ⟨q1, q2, q3, q4, q5⟩ := f7
    exact ⟨q1, q2, q3, q4, fun z => absurd z (by decide)⟩
  refine mp_66w (s := sD s7 (s.2.2.2.2 ++ [(Sum.inr (1, pD1) : PC)])) (TX_fr f8 hT) h7v (fun s10 u f f10 cx ed10 hu hcode => ?_)
  have ed10 : s10.2.2.2.2 = (s.2.2.2.2 ++ [(Sum.inr (1, pD1) : PC)]) ++ [(Sum.inl (0, u, .inl f) : PC)] := ed10
  have lm : (s.2.2.2.2 ++ [(Sum.inr (1, pD1) : PC)]).length = s.2.2.2.2.length + 1 := q_al
  have hobj : s10.2.2.2.2[s.2.2.2.2.length]? = some (.inr (1, pD1)) := by rw [ed10]; exact q_ao q_an
  have hrow : s10.2.2.2.2[s.2.2.2.2.length + 1]? = some (.inl (0, u, .inl f)) := by
    have := q_an (dy := s.2.2.2.2 ++ [(Sum.inr (1, pD1) : PC)]) (x := Sum.inl (0, u, .inl f))
    rw [lm] at this
    rw [ed10]
    exact this
  have ext10 : Ext s.2.2.2.2 s10.2.2.2.2 := by rw [ed10]; exact Ext_tr Ext_app Ext_app
  refine mp_18 hobj ?_
  show (∃ f16, pob (s10.2.2.2.2.set _ _) (L0 + 1) 13 = some f16 ∧ _)
  have hl10 := q_lt hobj
  have ext12 : Ext s.2.2.2.2 (s10.2.2.2.2.set s.2.2.2.2.length (.inr (1, [.int r6, .ref ((s.2.2.2.2 ++ [(Sum.inr (1, pD1) : PC)]).length + 118), .int (-1), .int (-1)]))) := Ext_set ext10 (Nat.le_refl _)
  have hc12 : (s10.2.2.2.2.set s.2.2.2.2.length (.inr (1, [.int r6, .ref ((s.2.2.2.2 ++ [(Sum.inr (1, pD1) : PC)]).length + 118), .int (-1), .int (-1)])))[s.2.2.2.2.length]? = some (.inr (1, [.int r6, .ref ((s.2.2.2.2 ++ [(Sum.inr (1, pD1) : PC)]).length + 118), .int (-1), .int (-1)])) := q_ss hl10
  refine fin_add (s := sD s10 (s10.2.2.2.2.set s.2.2.2.2.length (.inr (1, [.int r6, .ref ((s.2.2.2.2 ++ [(Sum.inr (1, pD1) : PC)]).length + 118), .int (-1), .int (-1)])))) (LI_ext ext12 hI) hC hc12 (fun dy1 z1 z2 z3 z4 => ?_)
  have l10 : s10.2.2.2.2.length = s.2.2.2.2.length + 2 := by rw [ed10, q_al, lm]
  have p10 : psl s10.2.2.2.2 = psl s.2.2.2.2 + 4 + u := by
    rw [ed10, psl_push, psl_push]
    rfl
  have z2 : dy1.length ≤ (s10.2.2.2.2.set s.2.2.2.2.length (.inr (1, [.int r6, .ref ((s.2.2.2.2 ++ [(Sum.inr (1, pD1) : PC)]).length + 118), .int (-1), .int (-1)]))).length + 1 := z2
  have z3 : psl dy1 ≤ psl (s10.2.2.2.2.set s.2.2.2.2.length (.inr (1, [.int r6, .ref ((s.2.2.2.2 ++ [(Sum.inr (1, pD1) : PC)]).length + 118), .int (-1), .int (-1)]))) + 15 := z3
  rw [List.length_set] at z2
  rw [psl_o4 hobj] at z3
  refine k _ ⟨?_, Kp_tr (Kp_ext ext12) z1, by show dy1.length ≤ _; omega, by show psl dy1 ≤ _; omega, CX_w cx⟩ ?_
  · obtain ⟨q1, q2, q3, q4, q5⟩ := fr_tr (F := fqPd) rfl f8 f10
    exact ⟨q1, q2, q3, q4, fun z => absurd z (by decide)⟩
  · intro a G a1 G1 er es ep e6
    have e1 : pb r (fun a G => if sgn T n a = c0 then .inr (a + 1, G) else .inl (1, a)) = .inr (a + 1, G) := by rw [er]; exact if_pos es
    obtain ⟨u1, u2⟩ := hcode (a + 1) G a1 G1 e1 ep
    refine z4 (c0, G1) ⟨s.2.2.2.2.length + 1, -1, -1, ?_, fun z => absurd z (by show ¬ c0 = 120; omega), fun z => absurd z (by show ¬ c0 = 40; omega), fun _ => ⟨f, ?_, ?_⟩⟩
    · rw [lm, e6] at hc12
      rw [lm, e6]
      exact hc12
    · have ec : cdL (c0, G1) = G1 := if_neg (by show ¬ c0 = 40; omega)
      rw [ec, ← u1]
      exact q_sn hrow (by omega)
    · have ec : cdL (c0, G1) = G1 := if_neg (by show ¬ c0 = 40; omega)
      rw [ec]
      exact u2
theorem it_x {s : ST} {r : Prs} {KK : Int32 → ST → Prop} (hT : TX s T n) (h : CXw n s r) (hI : LI s.2.2.2.2 L0 fr to C) (hC : C.length ≤ 10) (k : ∀ s1 R, PB L0 n s s1 R → (∀ e, r = .inl e → R = .inl e) → (∀ a G, r = .inr (a, G) → sgn T n a = 120 → Pz R (pStr (sgn T n) (a + 1)) ∧ ∀ a1 L, pStr (sgn T n) (a + 1) = .inr (a1, L) → LI s1.2.2.2.2 L0 fr to (C ++ [(120, L)])) → w_82 59 s1 KK) : XTt L0 s KK := by
  unfold XTt
  refine ⟨L0 + 1, pgf_of hI.1 rfl, ?_⟩
  unfold w_65
  refine mp_83w (S0 := s) (c := 120) hT ⟨fr_rfl _ _, h⟩ (by omega) (fun s1 h1 => ?_)
  refine mp_78w (most := 19) hT h1 (by omega) (fun y1 s2 h2 v1 => ?_)
  refine mp_83w (c := 46) hT h2 (by omega) (fun s3 h3 => ?_)
  refine mp_78w (most := 9) hT h3 (by omega) (fun y2 s4 h4 v2 => ?_)
  have ed : s4.2.2.2.2 = s.2.2.2.2 := h4.1.2.2.2.2 rfl
  rw [ed]
  have lm : (s.2.2.2.2 ++ [(Sum.inr (1, pD1) : PC)]).length = s.2.2.2.2.length + 1 := q_al
  refine ⟨by decide, by decide, ?_⟩
  have hobj : ((s.2.2.2.2 ++ [(Sum.inr (1, pD1) : PC)]) ++ [(Sum.inl (0, ((0 : Int32)).toNatClampNeg, .inl (fun _ => 0)) : PC)])[s.2.2.2.2.length]? = some (.inr (1, pD1)) := q_ao q_an
  refine mp_18 (s := sD s4 ((s.2.2.2.2 ++ [(Sum.inr (1, pD1) : PC)]) ++ [(Sum.inl (0, ((0 : Int32)).toNatClampNeg, .inl (fun _ => 0)) : PC)])) hobj ?_
  have ext12 : Ext s.2.2.2.2 (((s.2.2.2.2 ++ [(Sum.inr (1, pD1) : PC)]) ++ [(Sum.inl (0, ((0 : Int32)).toNatClampNeg, .inl (fun _ => 0)) : PC)]).set s.2.2.2.2.length (.inr (1, [.int 120, .ref ((s.2.2.2.2 ++ [(Sum.inr (1, pD1) : PC)]).length + 118), .int y1, .int y2]))) := Ext_set (Ext_tr Ext_app Ext_app) (Nat.le_refl _)
  have hc12 : (((s.2.2.2.2 ++ [(Sum.inr (1, pD1) : PC)]) ++ [(Sum.inl (0, ((0 : Int32)).toNatClampNeg, .inl (fun _ => 0)) : PC)]).set s.2.2.2.2.length (.inr (1, [.int 120, .ref ((s.2.2.2.2 ++ [(Sum.inr (1, pD1) : PC)]).length + 118), .int y1, .int y2])))[s.2.2.2.2.length]? = some (.inr (1, [.int 120, .ref ((s.2.2.2.2 ++ [(Sum.inr (1, pD1) : PC)]).length + 118), .int y1, .int y2])) := q_ss (q_lt hobj)
  refine fin_add (s := sD s4 (((s.2.2.2.2 ++ [(Sum.inr (1, pD1) : PC)]) ++ [(Sum.inl (0, ((0 : Int32)).toNatClampNeg, .inl (fun _ => 0)) : PC)]).set s.2.2.2.2.length (.inr (1, [.int 120, .ref ((s.2.2.2.2 ++ [(Sum.inr (1, pD1) : PC)]).length + 118), .int y1, .int y2])))) (LI_ext ext12 hI) hC hc12 (fun dy1 z1 z2 z3 z4 => ?_)
  have z2 : dy1.length ≤ (((s.2.2.2.2 ++ [(Sum.inr (1, pD1) : PC)]) ++ [(Sum.inl (0, ((0 : Int32)).toNatClampNeg, .inl (fun _ => 0)) : PC)]).set s.2.2.2.2.length (.inr (1, [.int 120, .ref ((s.2.2.2.2 ++ [(Sum.inr (1, pD1) : PC)]).length + 118), .int y1, .int y2]))).length + 1 := z2
  have z3 : psl dy1 ≤ psl (((s.2.2.2.2 ++ [(Sum.inr (1, pD1) : PC)]) ++ [(Sum.inl (0, ((0 : Int32)).toNatClampNeg, .inl (fun _ => 0)) : PC)]).set s.2.2.2.2.length (.inr (1, [.int 120, .ref ((s.2.2.2.2 ++ [(Sum.inr (1, pD1) : PC)]).length + 118), .int y1, .int y2]))) + 15 := z3
  rw [List.length_set, q_al, lm] at z2
  rw [psl_o4 hobj, psl_push, psl_push] at z3
  have e4 : psz (Sum.inr (1, pD1) : PC) = 4 := rfl
  have e0 : psz (Sum.inl (0, ((0 : Int32)).toNatClampNeg, .inl (fun _ => 0)) : PC) = 0 := rfl
  refine k _ _ ⟨?_, Kp_tr (Kp_ext ext12) z1, by show dy1.length ≤ _; omega, by show psl dy1 ≤ _; omega, h4.2⟩ ?_ ?_
  · obtain ⟨q1, q2, q3, q4, q5⟩ := fr_weak (G := fqPd) rfl h4.1
    exact ⟨q1, q2, q3, q4, fun z => absurd z (by decide)⟩
  · intro e er
    rw [er]
    rfl
  · intro a G er es
    have e1 : pb r (fun a G => if sgn T n a = 120 then .inr (a + 1, G) else .inl (1, a)) = .inr (a + 1, G) := by rw [er]; exact if_pos es
    rw [e1] at v1 v2 ⊢
    unfold pStr
    show Pz (pb (pb (pb (numP (sgn T n) (a + 1) 19) (fun a1 _ => .inr (a1, G))) _) _) _ ∧ _
    have v2 : ∀ a' G' a1 L, pb (pb (numP (sgn T n) (a + 1) 19) (fun a1 _ => .inr (a1, G))) (fun a G => if sgn T n a = 46 then .inr (a + 1, G) else .inl (1, a)) = .inr (a', G') → numP (sgn T n) a' 9 = .inr (a1, L) → ∃ v, L = [(v, 0)] ∧ y2 = nI v ∧ v ≤ 9 := v2
    cases hn1 : numP (sgn T n) (a + 1) 19 with
    | inl e => exact ⟨rfl, fun a1 L z => by cases z⟩
    | inr z =>
      obtain ⟨a1, L1⟩ := z
      obtain ⟨w1, w2, w3, w4⟩ := v1 (a + 1) G a1 L1 rfl hn1
      rw [hn1] at v2
      show Pz (pb (if sgn T n a1 = 46 then .inr (a1 + 1, G) else .inl (1, a1)) _) (if sgn T n a1 = 46 then _ else _) ∧ ∀ a1' L, (if sgn T n a1 = 46 then _ else _) = _ → _
      by_cases c : sgn T n a1 = 46
      · rw [if_pos c, if_pos c]
        show Pz (pb (numP (sgn T n) (a1 + 1) 9) (fun a1 _ => .inr (a1, G))) _ ∧ _
        cases hn2 : numP (sgn T n) (a1 + 1) 9 with
        | inl e => exact ⟨rfl, fun a1 L z => by cases z⟩
        | inr z =>
          obtain ⟨a2, L2⟩ := z
          obtain ⟨x1, x2, x3, x4⟩ := v2 (a1 + 1) G a2 L2 (if_pos c) hn2
          refine ⟨⟨G, rfl⟩, fun a3 L e3 => ?_⟩
          obtain ⟨_, eL⟩ := inr_inv e3
          refine z4 (120, L) ⟨s.2.2.2.2.length + 1, y1, y2, ?_, fun _ => ⟨w1, x1, ?_, w3, x3, w4, x4⟩, fun z => absurd z (by show ¬ (120 : Nat) = 40; omega), fun z => absurd rfl z⟩
          · rw [lm] at hc12 ⊢
            exact hc12
          · rw [← eL, w2, x2]
            rfl
      · rw [if_neg c, if_neg c]
        exact ⟨rfl, fun a1 L z => by cases z⟩
end Cm
