/-! ===== what is read has its types ===== -/
def gf (G : List Pc) (p : Nat) : Pc := (G[p]?).getD (0, 0)
theorem gf_app {G H : List Pc} {p : Nat} (h : p < G.length) : gf (G ++ H) p = gf G p := by
  unfold gf
  rw [List.getElem?_append_left h]
theorem gf_at {G H : List Pc} {x : Pc} : gf (G ++ x :: H) G.length = x := by
  unfold gf
  rw [List.getElem?_append_right (Nat.le_refl _), Nat.sub_self]
  rfl
theorem wt1_c {G G' : Nat → Nat × Nat} {L L' : Nat} {st st' : Nat → List Bool} {p : Nat} (h : wt1 G L st p) (e : G' p = G p) (hL : L ≤ L') (hp : p < L) (hs : ∀ q, p ≤ q → q ≤ L → st' q = st q) : wt1 G' L' st' p := by
  obtain ⟨h1, h2, h3, h4, h5, h6⟩ := h
  unfold wt1
  rw [e, hs p (by omega) (by omega), hs (p + 1) (by omega) (by omega)]
  refine ⟨h1, h2, h3, h4, fun z => ?_, h6⟩
  obtain ⟨r, r1, r2, r3, r4, r5⟩ := h5 z
  exact ⟨r, r1, r2, r3, by omega, by rw [hs _ (by omega) r4]; exact r5⟩
def TSg (G G1 : List Pc) (τ τ1 : List Bool) : Prop := ∃ (H : List Pc) (st : Nat → List Bool), G1 = G ++ H ∧ st G.length = τ ∧ st G1.length = τ1 ∧ ∀ p, G.length ≤ p → p < G1.length → wt1 (gf G1) G1.length st p
theorem TSg_rf {G : List Pc} {τ : List Bool} : TSg G G τ τ := ⟨[], fun _ => τ, (List.append_nil G).symm, rfl, rfl, fun p h1 h2 => absurd h2 (by omega)⟩
theorem TSg_tr {G G1 G2 : List Pc} {τ τ1 τ2 : List Bool} (h : TSg G G1 τ τ1) (k : TSg G1 G2 τ1 τ2) : TSg G G2 τ τ2 := by
  obtain ⟨H, st, e1, e2, e3, e4⟩ := h
  obtain ⟨H2, st2, k1, k2, k3, k4⟩ := k
  have l1 : G1.length = G.length + H.length := by rw [e1, List.length_append]
  have l2 : G2.length = G1.length + H2.length := by rw [k1, List.length_append]
  refine ⟨H ++ H2, fun q => if q ≤ G1.length then st q else st2 q, by rw [k1, e1, List.append_assoc], ?_, ?_, fun p h1 h2 => ?_⟩
  · show (if G.length ≤ G1.length then st G.length else _) = τ
    rw [if_pos (by omega)]
    exact e2
  · show (if G2.length ≤ G1.length then st G2.length else st2 G2.length) = τ2
    by_cases c : G2.length ≤ G1.length
    · have : G2.length = G1.length := by omega
      rw [if_pos c, this, e3, ← k2, ← this]
      exact k3
    · rw [if_neg c]
      exact k3
  · by_cases c : p < G1.length
    · refine wt1_c (e4 p h1 c) (by rw [k1]; exact gf_app c) (by omega) c (fun q q1 q2 => ?_)
      show (if q ≤ G1.length then st q else _) = _
      rw [if_pos q2]
    · refine wt1_c (k4 p (by omega) h2) rfl (by omega) h2 (fun q q1 q2 => ?_)
      show (if q ≤ G1.length then st q else st2 q) = _
      by_cases c2 : q ≤ G1.length
      · have : q = G1.length := by omega
        rw [if_pos c2, this, e3, k2]
      · rw [if_neg c2]
def okOne (o v : Nat) (τ τ1 : List Bool) : Prop := (o = 0 ∧ v < 10000000 ∧ τ1 = false :: τ) ∨ (o = 1 ∧ v < 13 ∧ τ1 = false :: τ) ∨ (o = 2 ∧ v = 0 ∧ ∃ r, τ = true :: r ∧ τ1 = true :: r) ∨ (5 ≤ o ∧ o ≤ 12 ∧ v = 0 ∧ ∃ r, τ = false :: false :: r ∧ τ1 = decide (10 ≤ o) :: r)
theorem TSg_one {G : List Pc} {o v : Nat} {τ τ1 : List Bool} (h : okOne o v τ τ1) : TSg G (G ++ [(o, v)]) τ τ1 := by
  have l1 : (G ++ [(o, v)]).length = G.length + 1 := by rw [List.length_append]; rfl
  refine ⟨[(o, v)], fun q => if q ≤ G.length then τ else τ1, rfl, ?_, ?_, fun p h1 h2 => ?_⟩
  · show (if G.length ≤ G.length then τ else τ1) = τ
    rw [if_pos (Nat.le_refl _)]
  · show (if (G ++ [(o, v)]).length ≤ G.length then τ else τ1) = τ1
    rw [if_neg (by omega)]
  · have ep : p = G.length := by omega
    subst ep
    have eg : gf (G ++ [(o, v)]) G.length = (o, v) := gf_at
    have s0 : (fun q => if q ≤ G.length then τ else τ1) G.length = τ := if_pos (Nat.le_refl _)
    have s1 : (fun q => if q ≤ G.length then τ else τ1) (G.length + 1) = τ1 := if_neg (by omega)
    unfold wt1
    rw [eg, s0, s1]
    show o ≤ 12 ∧ (o = 0 → τ1 = false :: τ ∧ v < 10000000) ∧ (o = 1 → τ1 = false :: τ ∧ v < 13) ∧ (o = 2 → v = 0 ∧ ∃ r, τ = true :: r ∧ τ1 = true :: r) ∧ (o = 3 ∨ o = 4 → _) ∧ (5 ≤ o → v = 0 ∧ ∃ r, τ = false :: false :: r ∧ τ1 = decide (10 ≤ o) :: r)
    rcases h with ⟨a, b, c⟩ | ⟨a, b, c⟩ | ⟨a, b, c⟩ | ⟨a, a2, b, c⟩
    · exact ⟨by omega, fun _ => ⟨c, b⟩, fun z => absurd z (by omega), fun z => absurd z (by omega), fun z => absurd z (by omega), fun z => absurd z (by omega)⟩
    · exact ⟨by omega, fun z => absurd z (by omega), fun _ => ⟨c, b⟩, fun z => absurd z (by omega), fun z => absurd z (by omega), fun z => absurd z (by omega)⟩
    · exact ⟨by omega, fun z => absurd z (by omega), fun z => absurd z (by omega), fun _ => ⟨b, c⟩, fun z => absurd z (by omega), fun z => absurd z (by omega)⟩
    · exact ⟨by omega, fun z => absurd z (by omega), fun z => absurd z (by omega), fun z => absurd z (by omega), fun z => absurd z (by omega), fun _ => ⟨b, c⟩⟩
theorem TSg_leap {G G1 : List Pc} {o : Nat} {r : List Bool} (ho : o = 3 ∨ o = 4) (h : TSg (G ++ [(o, 0)]) G1 r (true :: r)) : TSg G (G1.set G.length (o, G1.length)) (true :: r) (true :: r) := by
  obtain ⟨H, st, e1, e2, e3, e4⟩ := h
  have l0 : (G ++ [(o, 0)]).length = G.length + 1 := by rw [List.length_append]; rfl
  have l1 : G1.length = G.length + 1 + H.length := by rw [e1, List.length_append, l0]
  rw [List.append_assoc] at e1
  have e1 : G1 = G ++ (o, 0) :: H := e1
  have es : G1.set G.length (o, G1.length) = G ++ (o, G1.length) :: H := by
    have := set_at (x := (o, 0)) (v := (o, G1.length)) (H := H) G
    rw [← e1] at this
    exact this
  rw [es]
  have ls : (G ++ (o, G1.length) :: H).length = G1.length := by rw [← es, List.length_set]
  rw [l0] at e2 e4
  refine ⟨(o, G1.length) :: H, fun q => if q ≤ G.length then true :: r else st q, rfl, if_pos (Nat.le_refl _), ?_, fun p h1 h2 => ?_⟩
  · show (if (G ++ (o, G1.length) :: H).length ≤ G.length then _ else st (G ++ (o, G1.length) :: H).length) = _
    rw [ls, if_neg (by omega)]
    exact e3
  · rw [ls] at h2 ⊢
    by_cases c : p = G.length
    · subst c
      have eg : gf (G ++ (o, G1.length) :: H) G.length = (o, G1.length) := gf_at
      have s0 : (fun q => if q ≤ G.length then true :: r else st q) G.length = true :: r := if_pos (Nat.le_refl _)
      have s1 : (fun q => if q ≤ G.length then true :: r else st q) (G.length + 1) = r := by
        show (if G.length + 1 ≤ G.length then _ else st (G.length + 1)) = r
        rw [if_neg (by omega)]
        exact e2
      have s2 : (fun q => if q ≤ G.length then true :: r else st q) G1.length = true :: r := by
        show (if G1.length ≤ G.length then _ else st G1.length) = _
        rw [if_neg (by omega)]
        exact e3
      unfold wt1
      rw [eg, s0, s1]
      show o ≤ 12 ∧ (o = 0 → _) ∧ (o = 1 → _) ∧ (o = 2 → _) ∧ (o = 3 ∨ o = 4 → ∃ r1, true :: r = true :: r1 ∧ r = r1 ∧ G.length < G1.length ∧ G1.length ≤ G1.length ∧ (fun q => if q ≤ G.length then true :: r else st q) G1.length = true :: r1) ∧ (5 ≤ o → _)
      exact ⟨by omega, fun z => absurd z (by omega), fun z => absurd z (by omega), fun z => absurd z (by omega), fun _ => ⟨r, rfl, rfl, by omega, by omega, s2⟩, fun z => absurd z (by omega)⟩
    · refine wt1_c (e4 p (by omega) h2) ?_ (by omega) h2 (fun q q1 q2 => ?_)
      · unfold gf
        rw [← es, List.getElem?_set_ne (fun z => c z.symm)]
      · show (if q ≤ G.length then _ else st q) = _
        rw [if_neg (by omega)]
def TyS (f : PF) : Prop := ∀ a G a1 G1 τ, f a G = .inr (a1, G1) → TSg G G1 τ (false :: τ)
def TyC (f : PF) : Prop := ∀ a G a1 G1 τ, f a G = .inr (a1, G1) → TSg G G1 τ (true :: τ)
section Ty
variable {sg : Nat → Nat} {n : Nat}
theorem ty_fac (hs : ∀ a, n ≤ a → sg a = 256) {e : Nat} {inner : PF} (hi : ¬ e = 0 → TyS inner) : TyS (pFac sg e inner) := by
  intro a G a1 G1 τ h
  unfold pFac at h
  rcases if_inv h with ⟨c, h⟩ | ⟨c, h⟩
  · rcases if_inv h with ⟨d, h⟩ | ⟨d, h⟩
    · cases h
    · obtain ⟨a2, G2, h1, h2⟩ := pb_inv h
      rcases if_inv h2 with ⟨d2, h2⟩ | ⟨_, h2⟩
      · rw [← (inr_inv h2).2]
        exact hi d _ _ _ _ τ h1
      · cases h2
  · rcases if_inv h with ⟨d, h⟩ | ⟨d, h⟩
    · rw [← (inr_inv h).2]
      exact TSg_one (Or.inr (Or.inl ⟨rfl, d, rfl⟩))
    · obtain ⟨h1, h2⟩ := pNum_inv h
      have b7 := pnL_1 hs h1
      rw [← (inr_inv h2).2]
      exact TSg_one (Or.inl ⟨rfl, by omega, rfl⟩)
theorem ty_BL {op : Nat → Nat} {it : PF} (ho : ∀ x, ¬ op x = 0 → 5 ≤ op x ∧ op x ≤ 9) (hi : TyS it) : ∀ (k a : Nat) (G : List Pc) (a1 : Nat) (G1 : List Pc) (τ : List Bool), pBL sg op it k a G = .inr (a1, G1) → TSg G G1 (false :: τ) (false :: τ)
  | 0, a, G, a1, G1, τ, h => by
    rw [← (inr_inv h).2]
    exact TSg_rf
  | k + 1, a, G, a1, G1, τ, h => by
    unfold pBL at h
    rcases if_inv h with ⟨c, h⟩ | ⟨c, h⟩
    · rw [← (inr_inv h).2]
      exact TSg_rf
    · obtain ⟨a2, G2, h1, h2⟩ := pb_inv h
      have o := ho _ c
      have e9 : decide (10 ≤ op (sg a)) = false := decide_eq_false (by omega)
      exact TSg_tr (hi _ _ _ _ (false :: τ) h1) (TSg_tr (TSg_one (Or.inr (Or.inr (Or.inr ⟨o.1, by omega, rfl, τ, rfl, by rw [e9]⟩)))) (ty_BL ho hi k _ _ _ _ τ h2))
theorem ty_LL {c op : Nat} {it : PF} (ho : op = 3 ∨ op = 4) (hi : TyC it) : ∀ (k a : Nat) (G : List Pc) (a1 : Nat) (G1 : List Pc) (τ : List Bool), pLL sg c op it k a G = .inr (a1, G1) → TSg G G1 (true :: τ) (true :: τ)
  | 0, a, G, a1, G1, τ, h => by
    rw [← (inr_inv h).2]
    exact TSg_rf
  | k + 1, a, G, a1, G1, τ, h => by
    unfold pLL at h
    rcases if_inv h with ⟨d, h⟩ | ⟨d, h⟩
    · obtain ⟨a2, G2, h1, h2⟩ := pb_inv h
      exact TSg_tr (TSg_leap ho (hi _ _ _ _ τ h1)) (ty_LL ho hi k _ _ _ _ τ h2)
    · rw [← (inr_inv h).2]
      exact TSg_rf
theorem ty_tm {fa : PF} (h : TyS fa) : TyS (pTm sg n fa) := by
  intro a G a1 G1 τ k
  obtain ⟨a2, G2, k1, k2⟩ := pb_inv k
  exact TSg_tr (h _ _ _ _ τ k1) (ty_BL (fun x z => by have := mop_v z; omega) h _ _ _ _ _ τ k2)
theorem ty_sm {fa : PF} (h : TyS fa) : TyS (pSm sg n fa) := by
  intro a G a1 G1 τ k
  obtain ⟨a2, G2, k1, k2⟩ := pb_inv k
  exact TSg_tr (ty_tm h _ _ _ _ τ k1) (ty_BL (fun x z => by have := aop_v z; omega) (ty_tm h) _ _ _ _ _ τ k2)
theorem ty_fu (hs : ∀ a, n ≤ a → sg a = 256) : ∀ e, TyS (pFu sg n e)
  | 0 => ty_fac hs (fun z => absurd rfl z)
  | e + 1 => ty_fac hs (fun _ => ty_sm (ty_fu hs e))
theorem ty_pa {pc : PF} (h : TyC pc) : TyC (pPa sg n pc) := by
  intro a G a1 G1 τ k
  obtain ⟨a2, G2, k1, k2⟩ := pb_inv k
  exact TSg_tr (h _ _ _ _ τ k1) (ty_LL (Or.inl rfl) h _ _ _ _ _ τ k2)
theorem ty_co {pc : PF} (h : TyC pc) : TyC (pCo sg n pc) := by
  intro a G a1 G1 τ k
  obtain ⟨a2, G2, k1, k2⟩ := pb_inv k
  exact TSg_tr (ty_pa h _ _ _ _ τ k1) (ty_LL (Or.inr rfl) (ty_pa h) _ _ _ _ _ τ k2)
theorem ty_pc {e : Nat} {su pi co : PF} (h1 : TyS su) (h2 : ¬ e = 0 → TyC pi) (h3 : ¬ e = 0 → TyC co) : TyC (pPc sg e su pi co) := by
  intro a G a1 G1 τ h
  unfold pPc at h
  rcases if_inv h with ⟨c, h⟩ | ⟨c, h⟩
  · rcases if_inv h with ⟨d, h⟩ | ⟨d, h⟩
    · cases h
    · obtain ⟨a2, G2, k1, k2⟩ := pb_inv h
      rw [← (inr_inv k2).2]
      exact TSg_tr (h2 d _ _ _ _ τ k1) (TSg_one (Or.inr (Or.inr (Or.inl ⟨rfl, rfl, τ, rfl, rfl⟩))))
  · rcases if_inv h with ⟨c2, h⟩ | ⟨c2, h⟩
    · rcases if_inv h with ⟨d, h⟩ | ⟨d, h⟩
      · cases h
      · obtain ⟨a2, G2, k1, k2⟩ := pb_inv h
        rcases if_inv k2 with ⟨d2, k2⟩ | ⟨_, k2⟩
        · rw [← (inr_inv k2).2]
          exact h3 d _ _ _ _ τ k1
        · cases k2
    · obtain ⟨a2, G2, k1, k2⟩ := pb_inv h
      rcases if_inv k2 with ⟨_, k2⟩ | ⟨d2, k2⟩
      · cases k2
      · obtain ⟨a3, G3, q1, q2⟩ := pb_inv k2
        rw [← (inr_inv q2).2]
        have c10 : 10 ≤ cop (sg a2) ∧ cop (sg a2) ≤ 12 := by
          rcases cop_v d2 with z | z | z <;> rw [z] <;> decide
        have e10 : decide (10 ≤ cop (sg a2)) = true := decide_eq_true c10.1
        exact TSg_tr (h1 _ _ _ _ τ k1) (TSg_tr (h1 _ _ _ _ (false :: τ) q1) (TSg_one (Or.inr (Or.inr (Or.inr ⟨by omega, c10.2, rfl, τ, rfl, by rw [e10]⟩)))))
theorem ty_pi (hs : ∀ a, n ≤ a → sg a = 256) : ∀ e, TyC (pPi sg n e)
  | 0 => ty_pc (ty_sm (ty_fu hs 0)) (fun z => absurd rfl z) (fun z => absurd rfl z)
  | e + 1 => ty_pc (ty_sm (ty_fu hs (e + 1))) (fun _ => ty_pi hs e) (fun _ => ty_co (ty_pi hs e))
theorem pEn_inv {a a1 : Nat} {G1 : List Pc} (h : pEn sg n a = .inr (a1, G1)) : sg a = 40 ∧ ∃ a2, pCo sg n (pPi sg n 5) (a + 1) [] = .inr (a2, G1) ∧ sg a2 = 41 ∧ a1 = a2 + 1 := by
  unfold pEn at h
  rcases if_inv h with ⟨c, h⟩ | ⟨c, h⟩
  · obtain ⟨a2, G2, k1, k2⟩ := pb_inv h
    rcases if_inv k2 with ⟨d2, k2⟩ | ⟨_, k2⟩
    · obtain ⟨r1, r2⟩ := inr_inv k2
      rw [r2] at k1
      exact ⟨c, a2, k1, d2, r1.symm⟩
    · cases k2
  · cases h
theorem pEn_ok (hs : ∀ a, n ≤ a → sg a = 256) {a a1 : Nat} {G1 : List Pc} (h : pEn sg n a = .inr (a1, G1)) : a + 1 < a1 ∧ a1 ≤ n ∧ G1.length + a + 2 ≤ a1 ∧ ∃ st : Nat → List Bool, st 0 = [] ∧ st G1.length = [true] ∧ ∀ p, p < G1.length → wt1 (gf G1) G1.length st p := by
  obtain ⟨h1, a2, h2, h3, h4⟩ := pEn_inv h
  have g := GP_co (GP_pi hs 5) _ _ _ _ h2
  have hl := sg_lt hs (a := a2) (by omega)
  obtain ⟨H, st, e1, e2, e3, e4⟩ := ty_co (ty_pi hs 5) _ _ _ _ [] h2
  have l0 : ([] : List Pc).length = 0 := rfl
  exact ⟨by omega, by omega, by omega, st, e2, e3, fun p hp => e4 p (by omega) hp⟩
end Ty
