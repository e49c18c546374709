/-! ===== rule and chain ===== -/
theorem and255 (x : Int32) : ∃ v, v < 256 ∧ x &&& 255 = nI v := by
  refine ⟨(x.toBitVec &&& 255#32).toNat, ?_, ?_⟩
  · rw [BitVec.toNat_and]
    exact Nat.lt_of_le_of_lt Nat.and_le_right (by decide)
  · apply Int32.toBitVec_inj.1
    show x.toBitVec &&& 255#32 = BitVec.ofNat 32 (x.toBitVec &&& 255#32).toNat
    rw [BitVec.ofNat_toNat, BitVec.setWidth_eq]
def tpN (s : ST) (i : Nat) : Nat := (s.2.1 27 i).toNatClampNeg
theorem tp_27 {s : ST} {n : Nat} (h : Jtap s) (hn : n ≤ 200) : ∀ i, i < n → s.2.1 27 i = nI (tpN s i) ∧ tpN s i < 256 := by
  intro i hi
  obtain ⟨v, v1, v2⟩ := and255 (s.2.1 75 i)
  have e := h.2.2.2 i (by omega)
  have et : tpN s i = v := by
    unfold tpN
    rw [e, v2, nI_clamp (by omega)]
  rw [et, e]
  exact ⟨v2, v1⟩
theorem tp_75 {s : ST} {n : Nat} (h : Jtap s) (hn : n ≤ 200) : ∀ i, i < n → s.2.1 75 i &&& 255 = nI (tpN s i) ∧ tpN s i < 256 := by
  intro i hi
  rw [← h.2.2.2 i (by omega)]
  exact tp_27 h hn i hi
theorem Jrul_E {F : FS} {s s1 : ST} (f : Fr F s s1) (x : Ext s.2.2.2.2 s1.2.2.2.2) (h : Jrul s) (d : dis F [2002, 5541, 2202, 5542] [83, 84, 85, 86, 87, 88, 89, 90, 91] = true := by rfl) (r1 : F.2.2.2.1 = false := by rfl) : Jrul s1 := by
  obtain ⟨e, he⟩ := Ext_ex x
  refine Jrul_app (e := e) (fun a h1 h2 => ?_) (f.1 2002 (dis_I d 2002)) (f.1 5541 (dis_I d 5541)) (f.1 2202 (dis_I d 2202)) (f.1 5542 (dis_I d 5542)) (f.2.2.2.1 r1) he h
  have hc : a = 83 ∨ a = 84 ∨ a = 85 ∨ a = 86 ∨ a = 87 ∨ a = 88 ∨ a = 89 ∨ a = 90 ∨ a = 91 := by omega
  rcases hc with e | e | e | e | e | e | e | e | e <;> subst e
  · exact f.2.1 83 (dis_A d 83)
  · exact f.2.1 84 (dis_A d 84)
  · exact f.2.1 85 (dis_A d 85)
  · exact f.2.1 86 (dis_A d 86)
  · exact f.2.1 87 (dis_A d 87)
  · exact f.2.1 88 (dis_A d 88)
  · exact f.2.1 89 (dis_A d 89)
  · exact f.2.1 90 (dis_A d 90)
  · exact f.2.1 91 (dis_A d 91)
abbrev fqE0 : FS := ([7, 3502, 3503, 3504, 3505, 3506, 5525, 5526, 5527, 5528, 5529, 5530, 5531, 5532, 5533], [36, 76, 77, 78, 79, 80, 81, 82], [], false, true)
/-- a text that is at fault: both forget what was taped -/
theorem J_bad {t : Nat} {s s1 s2 : ST} (h : J t s) (c : CE s s1) (f : Fr fqR7 s1 s2) (t5 : s2.1 5525 = 0) : J (t + 1) s2 := by
  obtain ⟨f1, c7, cx, cl, cp⟩ := c
  have ed : s2.2.2.2.2 = s1.2.2.2.2 := f.2.2.2.2 rfl
  have f2 : Fr fqE0 s s2 := fr_tr (F := fqR7) rfl (fr_weak rfl f1) f
  have hr : Jrul s2 := Jrul_E f2 (by rw [ed]; exact cx) h.2.2.2.2.2.2.2.2.2.2.2.2.1
  refine J_text h (fr_weak rfl f2) ?_ t5 hr ?_ ?_
  · rw [f.1 7 rfl]; exact c7
  · rw [ed]; omega
  · rw [ed]; omega
abbrev fqAr : FS := ([2000, 2002, 2200, 2202, 5525, 5526, 5527, 5528, 5529, 5530, 5531, 5532, 5533], [76, 77, 78, 79, 80, 81, 82, 84, 85], [], true, true)
abbrev fqRz : FS := ([5525, 5526, 5527, 5528, 5529, 5530, 5531, 5532, 5533], [76, 77, 78, 79, 80, 81, 82, 83, 84, 85, 86, 87, 88, 89, 90, 91], [], false, false)
theorem sp_7 {t : Nat} {s : ST} {X F : ST → Prop} (ht : t < 512) (a1 a2 a3 : Int32) (h : J t s) (hX : ∀ s1, J (t + 1) s1 → X s1) : st_7 a1 a2 a3 s X F := by
  have htap : Jtap s := h.2.2.2.2.2.1
  have hrul : Jrul s := h.2.2.2.2.2.2.2.2.2.2.2.2.1
  have hroo : Jroo t s := h.2.2.2.2.2.2.2.2.2.2.2.2.2.2
  have j1 : s.1 2002 = nI (nU s) := hrul.1
  have j2 : s.1 5541 = nI (nU s) := hrul.2.1
  have j3 : nU s ≤ 20 := hrul.2.2.1
  have i20 : (s.1 5541).toInt ≤ 20 := by rw [j2, nI_toInt (by omega)]; omega
  unfold st_7
  by_cases ok : okRu a1 a2 a3 (s.1 5525) (s.1 5541)
  · have ok1 := ok
    obtain ⟨_, _, _, _, o5, o6, _, o8⟩ := ok1
    rw [j2, nI_toInt (by omega)] at o8
    have hu : nU s < 20 := by omega
    obtain ⟨n, hn, rfl⟩ := of_rng (x := a3) (n := 161) (by omega) (by omega)
    refine acc_137 (T := tpN s) (n := n) (by rw [htap.1, j1, ← j2]; exact ok) (by omega) (tp_27 htap (by omega)) ?_ ?_
    · intro e he s1 ce
      have f1 := ce.1
      refine acc_226 (T := tpN s) (u := nU s) (by rw [f1.1 5525 rfl, f1.1 5541 rfl]; exact ok) ((f1.1 5541 rfl).trans j2) hu (by omega) (by rw [f1.2.1 75 rfl]; exact tp_75 htap (by omega)) ?_ ?_
      · intro e1 he1 s2 f2 t5
        rw [he] at he1
        cases he1
        exact br_t rfl (hX s2 (J_bad h ce f2 t5))
      · intro C hC
        rw [he] at hC
        cases hC
    · intro C hC s1 ce hl
      obtain ⟨f1, c7, cx, cl, cp⟩ := ce
      have hr1 : Jrul s1 := Jrul_E f1 cx hrul
      have eU : nU s1 = nU s := by unfold nU; rw [f1.1 5541 rfl]
      obtain ⟨g, hL, hG⟩ : ∃ g : Nat → Option Nat, ((nU s = 0 ∧ s1.2.2.2.1 20 = .float 1) ∨ ∃ b cap, s1.2.2.2.1 20 = .ref (b + 118) ∧ s1.2.2.2.2[b]? = some (.inl (4, cap, .inr (.inr g))) ∧ 10 ≤ cap ∧ nU s ≤ cap ∧ cap < 2 ^ 31) ∧ ∀ j, j < nU s → ∃ y, g j = some (y + 118) ∧ TxA s1 s1.2.2.2.2 j y (s1.2.1 84 j) (s1.2.1 85 j) := by
        obtain ⟨_, _, _, q4, _⟩ := hr1
        rw [eU] at q4
        rcases q4 with ⟨z1, z2⟩ | ⟨b, cap, g, r1, r2, r3, r4, r5⟩
        · exact ⟨fun _ => none, Or.inl ⟨z1, z2⟩, fun j hj => absurd hj (by omega)⟩
        · have r2 := prowR_i r2
          have hcap : cap ≤ psl s1.2.2.2.2 := psl_ge _ _ _ r2
          have := hroo.2
          exact ⟨g, Or.inr ⟨b, cap, r1, r2, r3.1, r4, by omega⟩, r5⟩
      unfold w_138_R20 w_297_R20
      refine mp_301_20 (s := s1) (n := nU s) (g := g) ((f1.1 2002 rfl).trans j1) hu hL (fun j hj => ?_) hl.1 ?_
      · obtain ⟨y, y1, y2⟩ := hG j hj
        obtain ⟨_, _, _, v, mc, b, cap, g2, k1, _⟩ := y2
        exact ⟨y, _, y1, pob_i k1⟩
      · intro s2 b1 cap1 q g1 f2 e2 l20 l22 hrow h10 hcap hlen hpsl hq hk hg1 hgn
        show w_226 a1 a2 (nI n) s2 (fun r4 s3 => ((s2.1 2002 - 1 = r4 → X s3) ∧ (¬ (s2.1 2002 - 1 = r4) → F s3)))
        rw [e2, ← nI_1, t_a1s]
        refine acc_226 (T := tpN s) (u := nU s) (by rw [f2.1 5525 rfl, f2.1 5541 rfl, f1.1 5525 rfl, f1.1 5541 rfl]; exact ok) (((f2.1 5541 rfl).trans (f1.1 5541 rfl)).trans j2) hu (by omega) (by rw [f2.2.1 75 rfl, f1.2.1 75 rfl]; exact tp_75 htap (by omega)) ?_ ?_
        · intro e1 he1
          rw [hC] at he1
          cases he1
        · intro C1 hC1 c1 c10 s3 s4 a M f3 hI ha t5 e84 e85 kp
          rw [hC] at hC1
          cases hC1
          have hQ := Qr_20 hr1 hq
          have hl2 : LI s2.2.2.2.2 s.2.2.2.2.length a1 a2 C := LI_mv c1 hQ hk hl
          have f24 : Fr fqRz s2 s4 := fr_tr (F := fqKk) rfl (fr_weak rfl f3) kp.1
          have f13 : Fr fqAr s1 s3 := fr_tr (F := fqR8) rfl (fr_weak rfl f2) f3
          have ed : s4.2.2.2.2 = s2.2.2.2.2 := f24.2.2.2.2 rfl
          have el : s4.2.2.2.1 = s2.2.2.2.1 := f24.2.2.2.1 rfl
          have x84 : s4.2.1 84 = upd (s1.2.1 84) (nU s) a1 := by rw [kp.1.2.1 84 rfl, e84, f2.2.1 84 rfl]
          have x85 : s4.2.1 85 = upd (s1.2.1 85) (nU s) a2 := by rw [kp.1.2.1 85 rfl, e85, f2.2.1 85 rfl]
          have hok := pTl_ok (n := n) (sg := sgn (tpN s) n) (fun k a a1 L z => ok_ru (n := n) z) 11 0 0 [] C hC (fun z hz => absurd hz (by simp))
          have hnew : TxA s4 s2.2.2.2.2 (nU s) s.2.2.2.2.length a1 a2 := TxA_new (sg := sgn (tpN s) n) (n := n) (fun _ h => sgn_out h) (by omega) (by omega) ha hI kp hl2 c1 c10 (fun z hz => ⟨⟨fun _ => (hok z hz).1, fun y => absurd y (by omega)⟩, (hok z hz).2⟩)
          have hst := Stay_kp f13 kp
          have hJr : Jrul (sI s4 5541 (nI (nU s + 1))) := by
            refine Jrul_Ux (s := s1) (n := nU s) (b1 := b1) (cap1 := cap1) (q := q) (L0 := s.2.2.2.2.length) (g1 := g1) hr1 eU.symm hu ?_ rfl ?_ ?_ ?_ ?_ ?_ h10 hcap hq ?_ ?_ hgn ?_ (fun J1 ne => hst J1 ne) ?_ ?_
            · exact (f24.1 2002 rfl).trans e2
            · exact (f24.1 2202 rfl).trans (f2.1 2202 rfl)
            · exact (f24.1 5542 rfl).trans (f2.1 5542 rfl)
            · show s4.2.2.2.1 20 = _
              rw [el]; exact l20
            · show s4.2.2.2.1 22 = _
              rw [el]; exact l22
            · show s4.2.2.2.2[b1]? = _
              rw [ed]; exact hrow
            · intro i x hx ne
              show s4.2.2.2.2[i]? = _
              rw [ed]; exact hk i x hx ne
            · intro i hi
              rw [hg1 i hi]; exact hG i hi
            · rw [TxA_c (s := s4) (s1 := sI s4 5541 (nI (nU s + 1))) (fun _ _ _ => rfl)]
              show TxA s4 s4.2.2.2.2 (nU s) s.2.2.2.2.length (s4.2.1 84 (nU s)) (s4.2.1 85 (nU s))
              rw [ed, x84, x85, pk_us, pk_us]
              exact hnew
            · intro i hi
              show s4.2.1 84 i = _
              rw [x84, pk_un hi]
            · intro i hi
              show s4.2.1 85 i = _
              rw [x85, pk_un hi]
          refine br_t rfl (hX _ (J_text h ?_ ?_ ?_ hJr ?_ ?_))
          · exact fr_sI 5541 (fr_tr (F := fqRz) rfl (fr_tr (F := fqA20) rfl (fr_weak rfl f1) f2) f24)
          · show s4.1 7 = 0
            rw [f24.1 7 rfl, f2.1 7 rfl]; exact c7
          · show s4.1 5525 = 0
            rw [kp.1.1 5525 rfl]; exact t5
          · show s4.2.2.2.2.length ≤ _
            rw [ed]; omega
          · show psl s4.2.2.2.2 ≤ _
            rw [ed]; omega
  · refine rej_137 (by rw [htap.1, j1, ← j2]; exact ok) (rej_226 i20 ok (br_t rfl (hX s (J_s h))))
theorem sp_15 {t : Nat} {s : ST} {X F : ST → Prop} (ht : t < 512) (a1 : Int32) (h : J t s) (hX : ∀ s1, J (t + 1) s1 → X s1) : st_15 a1 s X F := by
  have htap : Jtap s := h.2.2.2.2.2.1
  have hrul : Jrul s := h.2.2.2.2.2.2.2.2.2.2.2.2.1
  have hroo : Jroo t s := h.2.2.2.2.2.2.2.2.2.2.2.2.2.2
  have j1 : s.1 2202 = nI (nC s) := hrul.2.2.2.2.1
  have j2 : s.1 5542 = nI (nC s) := hrul.2.2.2.2.2.1
  have j3 : nC s ≤ 6 := hrul.2.2.2.2.2.2.1
  have i6 : (s.1 5542).toInt ≤ 6 := by rw [j2, nI_toInt (by omega)]; omega
  unfold st_15
  by_cases ok : okCn a1 (s.1 5525) (s.1 5542)
  · have ok1 := ok
    obtain ⟨o5, o6, _, o8⟩ := ok1
    rw [j2, nI_toInt (by omega)] at o8
    have hu : nC s < 6 := by omega
    obtain ⟨n, hn, rfl⟩ := of_rng (x := a1) (n := 101) (by omega) (by omega)
    refine acc_149 (T := tpN s) (n := n) (by rw [htap.1, j1, ← j2]; exact ok) (by omega) (tp_27 htap (by omega)) ?_ ?_
    · intro e he s1 ce
      have f1 := ce.1
      refine acc_227 (T := tpN s) (u := nC s) (by rw [f1.1 5525 rfl, f1.1 5542 rfl]; exact ok) ((f1.1 5542 rfl).trans j2) hu (by omega) (by rw [f1.2.1 75 rfl]; exact tp_75 htap (by omega)) ?_ ?_
      · intro e1 he1 s2 f2 t5
        rw [he] at he1
        cases he1
        exact br_t rfl (hX s2 (J_bad h ce f2 t5))
      · intro C hC
        rw [he] at hC
        cases hC
    · intro C hC s1 ce hl
      obtain ⟨f1, c7, cx, cl, cp⟩ := ce
      have hr1 : Jrul s1 := Jrul_E f1 cx hrul
      have eC : nC s1 = nC s := by unfold nC; rw [f1.1 5542 rfl]
      obtain ⟨g, hL, hG⟩ : ∃ g : Nat → Option Nat, ((nC s = 0 ∧ s1.2.2.2.1 22 = .float 1) ∨ ∃ b cap, s1.2.2.2.1 22 = .ref (b + 118) ∧ s1.2.2.2.2[b]? = some (.inl (4, cap, .inr (.inr g))) ∧ 10 ≤ cap ∧ nC s ≤ cap ∧ cap < 2 ^ 31) ∧ ∀ j, j < nC s → nK s1 (20 + j) ≤ 4 ∧ ∃ y, g j = some (y + 118) ∧ TxA s1 s1.2.2.2.2 (20 + j) y 0 3999 := by
        obtain ⟨_, _, _, _, _, _, _, q4⟩ := hr1
        rw [eC] at q4
        rcases q4 with ⟨z1, z2⟩ | ⟨b, cap, g, r1, r2, r3, r4, r5⟩
        · exact ⟨fun _ => none, Or.inl ⟨z1, z2⟩, fun j hj => absurd hj (by omega)⟩
        · have r2 := prowR_i r2
          have hcap : cap ≤ psl s1.2.2.2.2 := psl_ge _ _ _ r2
          have := hroo.2
          exact ⟨g, Or.inr ⟨b, cap, r1, r2, r3.1, r4, by omega⟩, r5⟩
      unfold w_138_R22 w_297_R22
      refine mp_301_22 (s := s1) (n := nC s) (g := g) ((f1.1 2202 rfl).trans j1) (by omega) hL (fun j hj => ?_) hl.1 ?_
      · obtain ⟨_, y, y1, y2⟩ := hG j hj
        obtain ⟨_, _, _, v, mc, b, cap, g2, k1, _⟩ := y2
        exact ⟨y, _, y1, pob_i k1⟩
      · intro s2 b1 cap1 q g1 f2 e2 l22 l20 hrow h10 hcap hlen hpsl hq hk hg1 hgn
        show w_227 (nI n) s2 (fun r4 s3 => ((s2.1 2202 - 1 = r4 → X s3) ∧ (¬ (s2.1 2202 - 1 = r4) → F s3)))
        rw [e2, ← nI_1, t_a1s]
        refine acc_227 (T := tpN s) (u := nC s) (by rw [f2.1 5525 rfl, f2.1 5542 rfl, f1.1 5525 rfl, f1.1 5542 rfl]; exact ok) (((f2.1 5542 rfl).trans (f1.1 5542 rfl)).trans j2) hu (by omega) (by rw [f2.2.1 75 rfl, f1.2.1 75 rfl]; exact tp_75 htap (by omega)) ?_ ?_
        · intro e1 he1
          rw [hC] at he1
          cases he1
        · intro C1 hC1 c1 c4 s3 s4 a M f3 hI ha t5 kp
          rw [hC] at hC1
          cases hC1
          have hQ := Qr_22 hr1 hq
          have hl2 : LI s2.2.2.2.2 s.2.2.2.2.length 0 3999 C := LI_mv c1 hQ hk hl
          have f24 : Fr fqRz s2 s4 := fr_tr (F := fqKk) rfl (fr_weak rfl f3) kp.1
          have f13 : Fr fqAr s1 s3 := fr_tr (F := fqR7) rfl (fr_weak rfl f2) f3
          have ed : s4.2.2.2.2 = s2.2.2.2.2 := f24.2.2.2.2 rfl
          have el : s4.2.2.2.1 = s2.2.2.2.1 := f24.2.2.2.1 rfl
          have hok := pTl_ok (n := n) (sg := sgn (tpN s) n) (fun k a a1 L z => ok_ch (n := n) z) 5 0 0 [] C hC (fun z hz => absurd hz (by simp))
          have hnew : TxA s4 s2.2.2.2.2 (20 + nC s) s.2.2.2.2.length 0 3999 := TxA_new (sg := sgn (tpN s) n) (n := n) (fun _ h => sgn_out h) (by omega) (by omega) ha hI kp hl2 c1 (by omega) (fun z hz => ⟨⟨fun y => absurd y (by omega), fun _ => (hok z hz).1⟩, (hok z hz).2⟩)
          have hst := Stay_kp f13 kp
          have hK : nK s4 (20 + nC s) ≤ 4 := by
            unfold nK
            rw [kp.2.2.2.1, nI_clamp (by omega)]
            exact c4
          have hJr : Jrul (sI s4 5542 (nI (nC s + 1))) := by
            refine Jrul_Cx (s := s1) (n := nC s) (b1 := b1) (cap1 := cap1) (q := q) (L0 := s.2.2.2.2.length) (g1 := g1) hr1 eC.symm hu ?_ rfl ?_ ?_ ?_ ?_ ?_ h10 hcap hq ?_ ?_ hgn ?_ hK (fun J1 ne => hst J1 ne) ?_ ?_
            · exact (f24.1 2202 rfl).trans e2
            · exact (f24.1 2002 rfl).trans (f2.1 2002 rfl)
            · exact (f24.1 5541 rfl).trans (f2.1 5541 rfl)
            · show s4.2.2.2.1 22 = _
              rw [el]; exact l22
            · show s4.2.2.2.1 20 = _
              rw [el]; exact l20
            · show s4.2.2.2.2[b1]? = _
              rw [ed]; exact hrow
            · intro i x hx ne
              show s4.2.2.2.2[i]? = _
              rw [ed]; exact hk i x hx ne
            · intro i hi
              rw [hg1 i hi]; exact hG i hi
            · rw [TxA_c (s := s4) (s1 := sI s4 5542 (nI (nC s + 1))) (fun _ _ _ => rfl)]
              show TxA s4 s4.2.2.2.2 (20 + nC s) s.2.2.2.2.length 0 3999
              rw [ed]
              exact hnew
            · show s4.2.1 84 = _
              rw [kp.1.2.1 84 rfl, f3.2.1 84 rfl, f2.2.1 84 rfl]
            · show s4.2.1 85 = _
              rw [kp.1.2.1 85 rfl, f3.2.1 85 rfl, f2.2.1 85 rfl]
          refine br_t rfl (hX _ (J_text h ?_ ?_ ?_ hJr ?_ ?_))
          · exact fr_sI 5542 (fr_tr (F := fqRz) rfl (fr_tr (F := fqA22) rfl (fr_weak rfl f1) f2) f24)
          · show s4.1 7 = 0
            rw [f24.1 7 rfl, f2.1 7 rfl]; exact c7
          · show s4.1 5525 = 0
            rw [kp.1.1 5525 rfl]; exact t5
          · show s4.2.2.2.2.length ≤ _
            rw [ed]; omega
          · show psl s4.2.2.2.2 ≤ _
            rw [ed]; omega
  · refine rej_149 (by rw [htap.1, j1, ← j2]; exact ok) (rej_227 i6 ok (br_t rfl (hX s (J_s h))))
