/-! ===== deal and deals: the counting ===== -/
abbrev fqD : FS := ([], [34], [17, 18], false, false)
/-- the four counts so far -/
def c4N (D : ST) (hd kd : Int32) (r j k : Nat) (o p a m : Int32) : Prop := o = nI (fcp D (D.1 5500) (pO D hd kd) k) ∧ p = nI (fcp D (D.1 5500) (pOM D hd kd r j) k) ∧ a = nI (fcp D (D.1 5500) (pA D kd) k) ∧ m = nI (fcp D (D.1 5500) (pM D kd r j) k)
theorem c4_no {D : ST} {hd kd : Int32} {r j k : Nat} {o p a m : Int32} (hk : k < (kL D (D.1 5500)).length) (h : c4N D hd kd r j k o p a m) (c : ¬ D.2.1 57 (kL D (D.1 5500))[k] = kd) : c4N D hd kd r j (k + 1) o p a m := by
  have e : pA D kd (kL D (D.1 5500))[k] = false := decide_eq_false c
  unfold c4N at h ⊢
  rw [fcp_s hk, fcp_s hk, fcp_s hk, fcp_s hk]
  unfold pO pOM pM pO
  rw [e]
  exact h
theorem c4_ok {D : ST} {hd kd : Int32} {r j k : Nat} {o p a m : Int32} {b1 b2 : Bool} (hk : k < (kL D (D.1 5500)).length) (h : c4N D hd kd r j k o p a m) (c : D.2.1 57 (kL D (D.1 5500))[k] = kd) (e1 : decide (D.2.1 63 (kL D (D.1 5500))[k] = hd) = b1) (e2 : trv D r j (fxv D (D.1 5500) (kL D (D.1 5500))[k] (-1)) = b2) : c4N D hd kd r j (k + 1) (o + nI (b01 b1)) (p + nI (b01 (b1 && b2))) (a + 1) (m + nI (b01 b2)) := by
  have e : pA D kd (kL D (D.1 5500))[k] = true := decide_eq_true c
  unfold c4N at h ⊢
  obtain ⟨h1, h2, h3, h4⟩ := h
  rw [h1, h2, h3, h4, nI_add, nI_add, nI_add, nI_1, fcp_s hk, fcp_s hk, fcp_s hk, fcp_s hk, if_pos e]
  have f1 : pO D hd kd (kL D (D.1 5500))[k] = b1 := by unfold pO; rw [e, e1, Bool.true_and]
  have f2 : pOM D hd kd r j (kL D (D.1 5500))[k] = (b1 && b2) := by unfold pOM; rw [f1, e2]
  have f3 : pM D kd r j (kL D (D.1 5500))[k] = b2 := by unfold pM; rw [e, e2, Bool.true_and]
  rw [f1, f2, f3]
  exact ⟨rfl, rfl, rfl, rfl⟩
theorem ev01 {b : Bool} : (if b = true then (1 : Int32) else 0) = nI (b01 b) := by cases b <;> rfl
theorem l_155 {D S0 : ST} {hd kd : Int32} {r j cl : Nat} {X : ST → Prop} {K : Int32 → ST → Prop} (h : Bk D) (hf : fst D r j) (hc : ClA D D.2.2.2.2 r j cl) (hr : r < 20) (v0 : VW D (D.1 5500) S0) (hu : S0.1 1600 = -1) (hX : ∀ s, Fr fqD S0 s → c4N D hd kd r j (kL D (D.1 5500)).length (s.2.1 34 0) (s.2.1 34 1) (s.2.1 34 2) (s.2.1 34 3) → X s) : ∀ n k s, k ≤ (kL D (D.1 5500)).length → (kL D (D.1 5500)).length - k < n → Fr fqD S0 s → c4N D hd kd r j k (s.2.1 34 0) (s.2.1 34 1) (s.2.1 34 2) (s.2.1 34 3) → w_155_L44 n hd kd cl (nI k) s X K := by
  have h150 := kL_150 h (t := D.1 5500)
  obtain ⟨kd2, m, tg, tc, o1, o2, o3, o4, o5⟩ := hc
  have nk : ¬ kd2 = 120 := by rw [(o2 hr).1, hf.2.1]; decide
  obtain ⟨⟨⟨st, hw⟩, _⟩, f5, g1, g2⟩ := o5 nk
  intro n
  induction n with
  | zero => intro k s _ z; omega
  | succ n ih =>
    intro k s hk hn f hs
    have v := VW_g f v0
    rw [w_155_L44, v.2.1.2.1, nI_leI (by omega) (by omega)]
    by_cases c : (kL D (D.1 5500)).length ≤ k
    · have : k = (kL D (D.1 5500)).length := by omega
      subst this
      exact br_t c (hX s f hs)
    refine br_f c ?_
    have hkl : k < (kL D (D.1 5500)).length := by omega
    have hx := (kL_lt h hkl).1
    rw [w_at h v.2.1 hkl, cc0 h v.2.1.1 hx, nI_1]
    by_cases d : D.2.1 57 (kL D (D.1 5500))[k] = kd
    · refine br_f (fun z => z d) ?_
      refine mp_20 (u := -1) h v (by rw [f.1 1600 rfl]; exact hu) hkl (fun s1 f1 hfx => ?_)
      have fD1 : Fr fsS D s1 := fr_tr (F := fq17) rfl v.2.1.1 f1
      have hd1 : s1.2.2.2.2 = D.2.2.2.2 := fD1.2.2.2.2 rfl
      rw [cc6 h fD1 hx, hd1]
      have go : ∀ (b1 : Bool), decide (D.2.1 63 (kL D (D.1 5500))[k] = hd) = b1 → w_21 m s1 (fun r29 s28 => w_156 (nI (b01 b1)) r29 s28 (fun s30 => w_155_L44 n hd kd cl (nI (k + 1)) s30 X K)) := by
        intro b1 e1
        refine mp_21 (G := Gd D r j) (L := Ln D r j) (fx := fxv D (D.1 5500) (kL D (D.1 5500))[k] (-1)) (by rw [hd1]; exact g1) g2 hw hfx ?_
        intro s2 f2
        have et : evT (Gd D r j) (Ln D r j) (fxv D (D.1 5500) (kL D (D.1 5500))[k] (-1)) = trv D r j (fxv D (D.1 5500) (kL D (D.1 5500))[k] (-1)) := rfl
        rw [et, ev01]
        refine mp_156 _ _ (fun g q0 q1 q2 q3 => ?_)
        have e34 : s2.2.1 34 = s.2.1 34 := by rw [f2.2.1 34 rfl, f1.2.1 34 rfl]
        refine ih (k + 1) _ (by omega) (by omega) (fr_sA 34 (fr_tr (F := fq18) rfl (fr_tr (F := fq17) rfl f f1) f2)) ?_
        show c4N D hd kd r j (k + 1) (g 0) (g 1) (g 2) (g 3)
        rw [q0, q1, q2, q3, e34]
        exact c4_ok hkl hs d e1 rfl
      by_cases e : D.2.1 63 (kL D (D.1 5500))[k] = hd
      · exact br_f (fun z => z e) ⟨m, pg o1 rfl, go true (decide_eq_true e)⟩
      · exact br_t e ⟨m, pg o1 rfl, go false (decide_eq_false e)⟩
    · refine br_t d (ih (k + 1) s (by omega) (by omega) f (c4_no hkl hs d))
abbrev fqP : FS := ([5571, 5572, 5573, 5574], [], [92, 93], false, false)
theorem l_260c {D s : ST} {hd kd : Int32} {r : Nat} {X : Int32 → Int32 → Int32 → Int32 → ST → Prop} {K : Int32 → ST → Prop} (hC : Cfs D) (hr : r < nU D) (hU : nU D ≤ 20) (h87 : s.2.1 87 = D.2.1 87) (h1 : (∀ j, ¬ fst D r j) → X hd kd (nI (10 * r + nK D r)) (nI (10 * r + nK D r)) s) (h2 : ∀ j, fst D r j → X hd kd (nI (10 * r + j)) (nI (10 * r + nK D r)) s) : ∀ m j, j + m = nK D r → (∀ i, i < j → ¬ D.2.1 87 (10 * r + i) = 114) → w_260_L29 (m + 1) hd kd (nI (10 * r + j)) (nI (10 * r + nK D r)) s X K := by
  have hk := (hC r hr).2.2.1
  intro m
  induction m with
  | zero =>
    intro j hj hs
    have : j = nK D r := by omega
    subst this
    rw [w_260_L29, nI_leI (by omega) (by omega)]
    exact br_t (Nat.le_refl _) (h1 (fun i hi => hs i hi.1 hi.2.1))
  | succ m ih =>
    intro j hj hs
    rw [w_260_L29, nI_leI (by omega) (by omega), nI_clamp (by omega), h87]
    refine br_f (by omega) ⟨pin_nI (by omega) (by omega), ?_⟩
    by_cases d : D.2.1 87 (10 * r + j) = 114
    · exact br_t d (h2 j ⟨by omega, d, hs⟩)
    · refine br_f d ?_
      rw [nI_1]
      refine ih (j + 1) (by omega) (fun i hi => ?_)
      by_cases e : i = j
      · subst e; exact d
      · exact hs i (by omega)
theorem l_260 {D S0 : ST} {hd kd : Int32} {r j : Nat} {X : ST → Prop} {K : Int32 → ST → Prop} (h : Bk D) (hC : Cfs D) (hf : fst D r j) (hr : r < nU D) (hU : nU D ≤ 20) (f0 : Fr fsS D S0) (r0 : RW D (D.1 5500) S0) (hu : S0.1 5552 = -2) (hX : ∀ s, Fr fqP S0 s → c4N D hd kd r j (kL D (D.1 5500)).length (s.1 5573) (s.1 5574) (s.1 5571) (s.1 5572) → X s) : ∀ n k s, k ≤ (kL D (D.1 5500)).length → (kL D (D.1 5500)).length - k < n → Fr fqP S0 s → c4N D hd kd r j k (s.1 5573) (s.1 5574) (s.1 5571) (s.1 5572) → w_260_L66 n hd kd (nI (10 * r + j)) (nI k) s X K := by
  have h150 := kL_150 h (t := D.1 5500)
  have hk10 := (hC r hr).2.2.1
  have hj := hf.1
  obtain ⟨⟨st, hw⟩, g1, g2, g3, g4, g5⟩ := ((hC r hr).2.2.2 j hj).2 (by rw [hf.2.1]; decide)
  intro n
  induction n with
  | zero => intro k s _ z; omega
  | succ n ih =>
    intro k s hk hn f hs
    have rr := RW_g f r0
    have fD : Fr fsS D s := fr_tr (F := fqP) rfl f0 f
    rw [w_260_L66, rr.1, nI_leI (by omega) (by omega)]
    by_cases c : (kL D (D.1 5500)).length ≤ k
    · have : k = (kL D (D.1 5500)).length := by omega
      subst this
      exact br_t c (hX s f hs)
    refine br_f c ?_
    have hkl : k < (kL D (D.1 5500)).length := by omega
    obtain ⟨r1, r2, r3, hx, r5, r6⟩ := rp h rr hkl
    rw [nI_clamp (show k < 2 ^ 31 by omega), r1, r5, fD.2.1 57 rfl, nI_1]
    refine ⟨r2, r3, ?_⟩
    by_cases d : D.2.1 57 (kL D (D.1 5500))[k] = kd
    · refine br_t d ?_
      refine mp_230 (u := -1) h fD rr (by rw [f.1 5552 rfl, hu]; exact hu_n h hx) hx (fun s1 f1 hfx => ?_)
      have fD1 : Fr fsS D s1 := fr_tr (F := fq93) rfl fD f1
      have e88 : s1.2.1 88 = D.2.1 88 := fD1.2.1 88 rfl
      have e89 : s1.2.1 89 = D.2.1 89 := fD1.2.1 89 rfl
      have e83 : s1.2.1 83 = D.2.1 83 := fD1.2.1 83 rfl
      refine mp_232 (I := r) (j := j) (cf := cfN D r j) (L := Ln D r j) (off := ofN D r j) (G := Gd D r j) (fx := fxv D (D.1 5500) (kL D (D.1 5500))[k] (-1)) (by omega) (by omega) (by rw [e88]; exact g1) (by rw [e89]; exact g2) (by omega) (by unfold ofN; omega) (by unfold ofN; omega) (by rw [e83]; exact g5) hw hfx ?_
      intro s2 f2
      have et : evT (Gd D r j) (Ln D r j) (fxv D (D.1 5500) (kL D (D.1 5500))[k] (-1)) = trv D r j (fxv D (D.1 5500) (kL D (D.1 5500))[k] (-1)) := rfl
      rw [et]
      have fP : Fr fqP S0 s2 := fr_tr (F := fq92) rfl (fr_tr (F := fq93) rfl f f1) f2
      have fD2 : Fr fsS D s2 := fr_tr (F := fq92) rfl fD1 f2
      have k1 : ∀ q, q = 5571 ∨ q = 5572 ∨ q = 5573 ∨ q = 5574 → s2.1 q = s.1 q := by
        intro q hq
        rcases hq with z | z | z | z <;> subst z
        · rw [f2.1 5571 rfl, f1.1 5571 rfl]
        · rw [f2.1 5572 rfl, f1.1 5572 rfl]
        · rw [f2.1 5573 rfl, f1.1 5573 rfl]
        · rw [f2.1 5574 rfl, f1.1 5574 rfl]
      have ex : s2.2.1 63 = D.2.1 63 := fD2.2.1 63 rfl
      rw [r3, ex]
      have go : ∀ (b1 b2 : Bool), decide (D.2.1 63 (kL D (D.1 5500))[k] = hd) = b1 → trv D r j (fxv D (D.1 5500) (kL D (D.1 5500))[k] (-1)) = b2 → w_260_L66 n hd kd (nI (10 * r + j)) (nI (k + 1)) (sI (sI (sI (sI s2 5571 (s2.1 5571 + 1)) 5572 (s2.1 5572 + nI (b01 b2))) 5573 (s2.1 5573 + nI (b01 b1))) 5574 (s2.1 5574 + nI (b01 (b1 && b2)))) X K := by
        intro b1 b2 e1 e2
        refine ih (k + 1) _ (by omega) (by omega) (fr_sI 5574 (fr_sI 5573 (fr_sI 5572 (fr_sI 5571 fP)))) ?_
        show c4N D hd kd r j (k + 1) (s2.1 5573 + nI (b01 b1)) (s2.1 5574 + nI (b01 (b1 && b2))) (s2.1 5571 + 1) (s2.1 5572 + nI (b01 b2))
        rw [k1 5571 (by simp), k1 5572 (by simp), k1 5573 (by simp), k1 5574 (by simp)]
        exact c4_ok hkl hs d e1 e2
      by_cases q : trv D r j (fxv D (D.1 5500) (kL D (D.1 5500))[k] (-1)) = true
      · rw [if_pos q]
        refine br_f (by decide) ⟨rfl, ?_⟩
        by_cases e : D.2.1 63 (kL D (D.1 5500))[k] = hd
        · exact br_f (fun z => z e) ⟨rfl, br_f (fun z => z e) (go true true (decide_eq_true e) q)⟩
        · exact br_t e ⟨rfl, br_t e (go false true (decide_eq_false e) q)⟩
      · rw [if_neg q]
        refine br_t rfl ⟨rfl, ?_⟩
        by_cases e : D.2.1 63 (kL D (D.1 5500))[k] = hd
        · exact br_f (fun z => z e) ⟨rfl, br_f (fun z => z e) (go true false (decide_eq_true e) (Bool.eq_false_iff.mpr q))⟩
        · exact br_t e ⟨rfl, br_t e (go false false (decide_eq_false e) (Bool.eq_false_iff.mpr q))⟩
    · refine br_f d (ih (k + 1) s (by omega) (by omega) f (c4_no hkl hs d))
