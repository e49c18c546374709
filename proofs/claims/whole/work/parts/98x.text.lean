/-! ===== rules and chains with one more ===== -/
theorem rf_i {a b : Nat} (h : @Eq Nat (a + 118) (b + 118)) : a = b := by omega
theorem Ext_ex {dy dy1 : PH} (h : Ext dy dy1) : ∃ e, dy1 = dy ++ e := by
  refine ⟨dy1.drop dy.length, ?_⟩
  have e1 : dy1.take dy.length = dy := by
    apply List.ext_getElem?
    intro i
    by_cases c : i < dy.length
    · rw [List.getElem?_take_of_lt c, List.getElem?_eq_getElem c]
      exact h.2 i _ (List.getElem?_eq_getElem c)
    · rw [List.getElem?_eq_none (by rw [List.length_take]; omega), List.getElem?_eq_none (by omega)]
  have e2 := List.take_append_drop dy.length dy1
  rw [e1] at e2
  exact e2.symm
theorem RIz_fr {F : FS} {s s1 : ST} {C : List Clz} {a M : Nat} (f : Fr F s s1) (h : RIz s C a M) (d : dis F [5526, 5530, 5532] [76, 78, 79, 80, 81, 82] = true := by rfl) : RIz s1 C a M := by
  obtain ⟨i1, i2, i3, i4, i5⟩ := h
  refine ⟨(f.1 5526 (dis_I d 5526)).trans i1, (f.1 5530 (dis_I d 5530)).trans i2, i3, (f.1 5532 (dis_I d 5532)).trans i4, fun j hj => RCz_old (i5 j hj) (Nat.le_refl _) (fun r r1 r2 => ?_) (fun i _ => by rw [f.2.1 76 (dis_A d 76)])⟩
  have hr : r = 78 ∨ r = 79 ∨ r = 80 ∨ r = 81 ∨ r = 82 := by omega
  rcases hr with y | y | y | y | y <;> subst y
  · rw [f.2.1 78 (dis_A d 78)]
  · rw [f.2.1 79 (dis_A d 79)]
  · rw [f.2.1 80 (dis_A d 80)]
  · rw [f.2.1 81 (dis_A d 81)]
  · rw [f.2.1 82 (dis_A d 82)]
/-- a rule's text is no chain's -/
theorem Tx_ne {s : ST} {dy : PH} {I I1 y : Nat} {fr to fr1 to1 : Int32} (h : TxA s dy I y fr to) (k : TxA s dy I1 y fr1 to1) (hI : I < 20) (hI1 : 20 ≤ I1) : False := by
  obtain ⟨_, h2, _, v, mc, b, cap, g, h4, h5, h6, _, h8⟩ := h
  obtain ⟨_, k2, _, v1, mc1, b1, cap1, g1, k4, k5, k6, _, k8⟩ := k
  rw [h4] at k4
  injection k4 with k4
  injection k4 with k4 _
  injection k4 with k4
  have ev : v = v1 := rf_i k4
  subst ev
  rw [h5] at k5
  injection k5 with k5
  injection k5 with _ k5
  injection k5 with k5 _
  injection k5 with k5
  have eb : b = b1 := rf_i k5
  subst eb
  rw [h6] at k6
  injection k6 with k6
  have eg : g = g1 := (Prod.mk.inj k6).2
  subst eg
  obtain ⟨c, c1, kd, m, tg, tc, c2, c3, _⟩ := h8 0 (by omega)
  obtain ⟨c', d1, kd1, m1, tg1, tc1, d2, _, d3, _⟩ := k8 0 (by omega)
  rw [c1] at d1
  injection d1 with d1
  have ec : c = c' := by omega
  subst ec
  rw [c2] at d2
  injection d2 with d2
  injection d2 with d2 _
  injection d2 with d2
  have q1 := (c3 hI).2
  have q2 := (d3 hI1).1
  rw [d2, q2] at q1
  revert q1
  decide
theorem row_ne {s : ST} {b b1 : Nat} (h : Jrul s) (h20 : s.2.2.2.1 20 = .ref (b + 118)) (h22 : s.2.2.2.1 22 = .ref (b1 + 118)) : ¬ b = b1 := by
  obtain ⟨_, _, _, j4, _, _, _, j8⟩ := h
  intro e
  subst e
  rcases j4 with ⟨_, z⟩ | ⟨b2, cap, g, q1, q2, q3, q4, q5⟩
  · rw [z] at h20; cases h20
  rcases j8 with ⟨_, z⟩ | ⟨b3, cap1, g1, r1, r2, r3, r4, r5⟩
  · rw [z] at h22; cases h22
  rw [q1] at h20
  injection h20 with h20
  rw [r1] at h22
  injection h22 with h22
  have e1 : b2 = b := rf_i h20
  have e2 : b3 = b := rf_i h22
  subst e1
  subst e2
  rw [q2] at r2
  injection r2 with r2
  have eg : g = g1 := (Prod.mk.inj r2).2
  subst eg
  obtain ⟨y, y1, y2⟩ := q5 0 (by omega)
  obtain ⟨_, y', z1, z2⟩ := r5 0 (by omega)
  rw [y1] at z1
  injection z1 with z1
  have ey : y = y' := by omega
  subst ey
  exact Tx_ne y2 z2 (by omega) (by omega)
theorem Qr_20 {s : ST} {q : Nat} (hj : Jrul s) (h : (s.2.2.2.1 20 = .float 1 ∧ q = s.2.2.2.2.length) ∨ s.2.2.2.1 20 = .ref (q + 118)) : Qrow s.2.2.2.2 q := by
  intro x hx
  rcases h with ⟨_, eq⟩ | h
  · have := q_lt hx
    omega
  · obtain ⟨_, _, _, j4, _⟩ := hj
    rcases j4 with ⟨_, z⟩ | ⟨b, cap, g, q1, q2, q3, q4, q5⟩
    · rw [z] at h; cases h
    · rw [q1] at h
      injection h with h
      have eb : b = q := rf_i h
      subst eb
      have q2 := prowR_i q2
      rw [hx] at q2
      injection q2 with q2
      obtain ⟨y, y1, y2⟩ := q5 0 (by omega)
      obtain ⟨_, _, _, v, mc, b2, cap2, g2, k1, _⟩ := y2
      exact ⟨cap, g, y, _, q2, y1, pob_i k1⟩
theorem Qr_22 {s : ST} {q : Nat} (hj : Jrul s) (h : (s.2.2.2.1 22 = .float 1 ∧ q = s.2.2.2.2.length) ∨ s.2.2.2.1 22 = .ref (q + 118)) : Qrow s.2.2.2.2 q := by
  intro x hx
  rcases h with ⟨_, eq⟩ | h
  · have := q_lt hx
    omega
  · obtain ⟨_, _, _, _, _, _, _, j4⟩ := hj
    rcases j4 with ⟨_, z⟩ | ⟨b, cap, g, q1, q2, q3, q4, q5⟩
    · rw [z] at h; cases h
    · rw [q1] at h
      injection h with h
      have eb : b = q := rf_i h
      subst eb
      have q2 := prowR_i q2
      rw [hx] at q2
      injection q2 with q2
      obtain ⟨_, y, y1, y2⟩ := q5 0 (by omega)
      obtain ⟨_, _, _, v, mc, b2, cap2, g2, k1, _⟩ := y2
      exact ⟨cap, g, y, _, q2, y1, pob_i k1⟩
/-- what of the reference's texts stays when text I is kept -/
def Stay (s s5 : ST) (I : Nat) : Prop := ∀ J1, ¬ J1 = I → s5.2.1 86 J1 = s.2.1 86 J1 ∧ (∀ x, 180 * J1 ≤ x → x < 180 * J1 + 180 → s5.2.1 83 x = s.2.1 83 x) ∧ ∀ r, 87 ≤ r → r ≤ 91 → ∀ j, j < 10 → s5.2.1 r (10 * J1 + j) = s.2.1 r (10 * J1 + j)
theorem Stay_tx {s s5 : ST} {dy : PH} {I J1 y : Nat} {fr to : Int32} (h : Stay s s5 I) (ne : ¬ J1 = I) (k : TxA s dy J1 y fr to) : TxA s5 dy J1 y fr to := by
  obtain ⟨h1, h2, h3⟩ := h J1 ne
  exact TxA_old h1 h2 h3 k
theorem Stay_kp {F : FS} {s s1 s2 : ST} {I M L : Nat} (f : Fr F s s1) (k : Kpt s1 s2 I M L) (d : dis F [] [83, 86, 87, 88, 89, 90, 91] = true := by rfl) : Stay s s2 I := by
  obtain ⟨_, k1, k2, k3, k4⟩ := k
  intro J1 ne
  refine ⟨?_, fun x x1 x2 => ?_, fun r r1 r2 j hj => ?_⟩
  · rw [k4 J1 ne, f.2.1 86 (dis_A d 86)]
  · rw [k1.2 x (by omega), f.2.1 83 (dis_A d 83)]
  · rw [k2.2 r r1 r2 _ (by omega)]
    have hr : r = 87 ∨ r = 88 ∨ r = 89 ∨ r = 90 ∨ r = 91 := by omega
    rcases hr with y | y | y | y | y <;> subst y
    · rw [f.2.1 87 (dis_A d 87)]
    · rw [f.2.1 88 (dis_A d 88)]
    · rw [f.2.1 89 (dis_A d 89)]
    · rw [f.2.1 90 (dis_A d 90)]
    · rw [f.2.1 91 (dis_A d 91)]
theorem Jrul_Ux {s s5 : ST} {n b1 cap1 q L0 : Nat} {g1 : Nat → Option Nat} (hj : Jrul s) (en : n = nU s) (hn : n < 20) (a1 : s5.1 2002 = nI (n + 1)) (a2 : s5.1 5541 = nI (n + 1)) (a3 : s5.1 2202 = s.1 2202) (a4 : s5.1 5542 = s.1 5542) (a5 : s5.2.2.2.1 20 = .ref (b1 + 118)) (a6 : s5.2.2.2.1 22 = s.2.2.2.1 22) (a7 : s5.2.2.2.2[b1]? = some (.inl (4, cap1, .inr (.inr g1)))) (a8 : 10 ≤ cap1) (a9 : n + 1 ≤ cap1) (hq : (s.2.2.2.1 20 = .float 1 ∧ q = s.2.2.2.2.length) ∨ s.2.2.2.1 20 = .ref (q + 118)) (hk : ∀ i x, s.2.2.2.2[i]? = some x → ¬ i = q → s5.2.2.2.2[i]? = some x) (ho : ∀ i, i < n → ∃ y, g1 i = some (y + 118) ∧ TxA s s.2.2.2.2 i y (s.2.1 84 i) (s.2.1 85 i)) (hg : g1 n = some (L0 + 118)) (hnew : TxA s5 s5.2.2.2.2 n L0 (s5.2.1 84 n) (s5.2.1 85 n)) (hs : Stay s s5 n) (h84 : ∀ i, ¬ i = n → s5.2.1 84 i = s.2.1 84 i) (h85 : ∀ i, ¬ i = n → s5.2.1 85 i = s.2.1 85 i) : Jrul s5 := by
  have hQ := Qr_20 hj hq
  have eU : nU s5 = n + 1 := by unfold nU; rw [a2, nI_clamp (by omega)]
  have eC : nC s5 = nC s := by unfold nC; rw [a4]
  have rn : ∀ b1, s.2.2.2.1 20 = .ref (q + 118) → s.2.2.2.1 22 = .ref (b1 + 118) → ¬ q = b1 := fun b1 h20 h22 => row_ne hj h20 h22
  obtain ⟨j1, j2, j3, j4, j5, j6, j7, j8⟩ := hj
  unfold Jrul
  rw [eU, eC, a1, a2, a3, a4, a5, a6]
  refine ⟨rfl, rfl, by omega, Or.inr ⟨b1, cap1, g1, rfl, prowR_of a7, ⟨a8, by omega⟩, a9, fun i hi => ?_⟩, j5, j6, j7, ?_⟩
  · by_cases c : i = n
    · subst c
      exact ⟨L0, hg, hnew⟩
    · obtain ⟨y, y1, y2⟩ := ho i (by omega)
      refine ⟨y, y1, ?_⟩
      rw [h84 i c, h85 i c]
      exact Stay_tx hs c (TxA_mv hQ hk y2)
  · rcases j8 with ⟨z1, z2⟩ | ⟨b, cap, g, q1, q2, q3, q4, q5⟩
    · exact Or.inl ⟨z1, z2⟩
    · have bq : ¬ b = q := by
        rcases hq with ⟨_, eq⟩ | h20
        · intro e
          have e : @Eq Nat b q := e
          have := q_lt (prowR_i q2)
          omega
        · exact fun e => rn b h20 q1 e.symm
      refine Or.inr ⟨b, cap, g, q1, prowR_of (hk b _ (prowR_i q2) bq), q3, q4, fun i hi => ?_⟩
      obtain ⟨r0, y, r1, r2⟩ := q5 i hi
      have eK : nK s5 (20 + i) = nK s (20 + i) := by
        unfold nK
        rw [(hs (20 + i) (by omega)).1]
      rw [eK]
      exact ⟨r0, y, r1, Stay_tx hs (by omega) (TxA_mv hQ hk r2)⟩
theorem Jrul_Cx {s s5 : ST} {n b1 cap1 q L0 : Nat} {g1 : Nat → Option Nat} (hj : Jrul s) (en : n = nC s) (hn : n < 6) (a1 : s5.1 2202 = nI (n + 1)) (a2 : s5.1 5542 = nI (n + 1)) (a3 : s5.1 2002 = s.1 2002) (a4 : s5.1 5541 = s.1 5541) (a5 : s5.2.2.2.1 22 = .ref (b1 + 118)) (a6 : s5.2.2.2.1 20 = s.2.2.2.1 20) (a7 : s5.2.2.2.2[b1]? = some (.inl (4, cap1, .inr (.inr g1)))) (a8 : 10 ≤ cap1) (a9 : n + 1 ≤ cap1) (hq : (s.2.2.2.1 22 = .float 1 ∧ q = s.2.2.2.2.length) ∨ s.2.2.2.1 22 = .ref (q + 118)) (hk : ∀ i x, s.2.2.2.2[i]? = some x → ¬ i = q → s5.2.2.2.2[i]? = some x) (ho : ∀ i, i < n → nK s (20 + i) ≤ 4 ∧ ∃ y, g1 i = some (y + 118) ∧ TxA s s.2.2.2.2 (20 + i) y 0 3999) (hg : g1 n = some (L0 + 118)) (hnew : TxA s5 s5.2.2.2.2 (20 + n) L0 0 3999) (h4 : nK s5 (20 + n) ≤ 4) (hs : Stay s s5 (20 + n)) (h84 : s5.2.1 84 = s.2.1 84) (h85 : s5.2.1 85 = s.2.1 85) : Jrul s5 := by
  have hQ := Qr_22 hj hq
  have eC : nC s5 = n + 1 := by unfold nC; rw [a2, nI_clamp (by omega)]
  have eU : nU s5 = nU s := by unfold nU; rw [a4]
  have rn : ∀ b1, s.2.2.2.1 20 = .ref (b1 + 118) → s.2.2.2.1 22 = .ref (q + 118) → ¬ b1 = q := fun b1 h20 h22 => row_ne hj h20 h22
  obtain ⟨j1, j2, j3, j4, j5, j6, j7, j8⟩ := hj
  unfold Jrul
  rw [eU, eC, a1, a2, a3, a4, a5, a6, h84, h85]
  refine ⟨j1, j2, j3, ?_, rfl, rfl, by omega, Or.inr ⟨b1, cap1, g1, rfl, prowR_of a7, ⟨a8, by omega⟩, a9, fun i hi => ?_⟩⟩
  · rcases j4 with ⟨z1, z2⟩ | ⟨b, cap, g, q1, q2, q3, q4, q5⟩
    · exact Or.inl ⟨z1, z2⟩
    · have bq : ¬ b = q := by
        rcases hq with ⟨_, eq⟩ | h22
        · intro e
          have e : @Eq Nat b q := e
          have := q_lt (prowR_i q2)
          omega
        · exact rn b q1 h22
      refine Or.inr ⟨b, cap, g, q1, prowR_of (hk b _ (prowR_i q2) bq), q3, q4, fun i hi => ?_⟩
      obtain ⟨y, r1, r2⟩ := q5 i hi
      exact ⟨y, r1, Stay_tx hs (by omega) (TxA_mv hQ hk r2)⟩
  · by_cases c : i = n
    · subst c
      exact ⟨h4, L0, hg, hnew⟩
    · obtain ⟨r0, y, y1, y2⟩ := ho i (by omega)
      have eK : nK s5 (20 + i) = nK s (20 + i) := by
        unfold nK
        rw [(hs (20 + i) (by omega)).1]
      rw [eK]
      exact ⟨r0, y, y1, Stay_tx hs (by omega) (TxA_mv hQ hk y2)⟩
abbrev fqJx : FS := ([7, 2000, 2002, 2200, 2202, 3502, 3503, 3504, 3505, 3506, 5525, 5526, 5527, 5528, 5529, 5530, 5531, 5532, 5533, 5541, 5542], [36, 76, 77, 78, 79, 80, 81, 82, 83, 84, 85, 86, 87, 88, 89, 90, 91], [], true, true)
theorem J_text {t : Nat} {s s5 : ST} (h : J t s) (f : Fr fqJx s s5) (t7 : s5.1 7 = 0) (t5 : s5.1 5525 = 0) (hr : Jrul s5) (hl : s5.2.2.2.2.length ≤ s.2.2.2.2.length + 41) (hp : psl s5.2.2.2.2 ≤ psl s.2.2.2.2 + 3040) : J (t + 1) s5 := by
  obtain ⟨hnow, hhou, hrow, hord, hmen, htap, hthi, hjud, hask, hrea, hsca, hvie, hrul, hrnd, hroo⟩ := h
  refine ⟨Jnow_G f hnow, Jhou_G f hhou, Jrow_G f hrow, Jord_G f hord, Jmen_G f hmen, ?_, Jthi_G f hthi, Jjud_G f hjud, Jask_G f hask, Jrea_G f hrea, Jsca_G f hsca, Jvie_G f hvie, hr, Jrnd_G f hrnd, ?_⟩
  · refine ⟨by rw [t7, t5], by rw [t5]; decide, by rw [t5]; decide, ?_⟩
    rw [f.2.1 27 rfl, f.2.1 75 rfl]
    exact htap.2.2.2
  · obtain ⟨r1, r2⟩ := hroo
    exact ⟨by omega, by omega⟩
