/-! ===== behind, grown; printed by wip/whole/genbehind.py ===== -/
def owI (p a : Int32) : Int32 := if p = 0 then a else 16 + a
theorem ow_ok {a p : Int32} (s : ST) (hp : p = 0 ∨ p = 1) : (v_162 a p s = -1 ∧ v_264 a p s = 0) ∨ ∃ o, o < 36 ∧ v_162 a p s = nI o ∧ ¬ v_264 a p s = 0 ∧ owI p a = nI o := by
  rcases hp with e | e
  · subst e
    by_cases c : 0 ≤ a.toInt ∧ a.toInt ≤ 15
    · refine Or.inr ⟨a.toNatClampNeg, by rw [cl_e]; omega, ?_, fun z => (t_264a.mp z) c, ?_⟩
      · rw [t_162a, if_pos c]; exact nI_nat c.1
      · unfold owI; rw [if_pos rfl]; exact nI_nat c.1
    · exact Or.inl ⟨by rw [t_162a, if_neg c], t_264a.mpr c⟩
  · subst e
    by_cases c : 0 ≤ a.toInt ∧ a.toInt ≤ 19
    · have e1 : (16 + a).toInt = 16 + a.toInt := t_add (a := 16) (by have e : (16 : Int32).toInt = 16 := rfl; omega) (by have e : (16 : Int32).toInt = 16 := rfl; omega)
      refine Or.inr ⟨(16 + a).toNatClampNeg, by rw [cl_e]; omega, ?_, fun z => (t_264b.mp z) c, ?_⟩
      · rw [t_162b, if_pos c]; exact nI_nat (by omega)
      · unfold owI; rw [if_neg (by decide)]; exact nI_nat (by omega)
    · exact Or.inl ⟨by rw [t_162b, if_neg c], t_264b.mpr c⟩
theorem m1ne {o : Nat} (h : o < 36) : ¬ nI o = -1 := by
  rw [i_eq, l_m1, nI_toInt (by omega)]
  omega
theorem bh {t : Nat} {s : ST} {X F : ST → Prop} {a1 p2 a3 p4 : Int32} (hJ : J t s) (hX : ∀ s1, J (t + 1) s1 → X s1) (h2 : p2 = 0 ∨ p2 = 1) (h4 : p4 = 0 ∨ p4 = 1) : w_160 a1 p2 a3 p4 s (fun r2 s1 => w_267 a1 p2 a3 p4 s1 (fun r4 s3 => ((r2 = r4 → X s3) ∧ (¬ (r2 = r4) → F s3)))) := by
  have hthi : Jthi s := by
    obtain ⟨hnow, hhou, hrow, hord, hmen, htap, hthi, hjud, hask, hrea, hsca, hvie, hrul, hrnd, hroo⟩ := hJ
    exact hthi
  have hT : ∀ k, k < 36 → s.2.1 28 k = s.2.1 108 k := fun k hk => (hthi k hk).1
  have fin : X s := hX _ (J_s hJ)
  unfold w_160
  simp only [e_162]
  rcases ow_ok (a := a1) s h2 with ⟨c1, c2⟩ | ⟨o, ho, c1, c2, c3⟩
  · rw [c1]
    refine br_t rfl ?_
    unfold w_267
    simp only [e_264]
    exact br_t c2 (br_t (by trivial) fin)
  · rw [c1]
    refine br_f (m1ne ho) ?_
    rcases ow_ok (a := a3) s h4 with ⟨d1, d2⟩ | ⟨q, hq, d1, d2, d3⟩
    · rw [d1]
      refine br_f (fun z => z rfl) ?_
      unfold w_267
      simp only [e_264]
      exact br_f c2 (br_f (fun z => z d2) (br_t (by trivial) fin))
    · rw [d1]
      refine br_t (m1ne hq) ?_
      have ref : ∀ y : Int32, (∀ s1, Fr fq109 s s1 → ((¬ s1.2.1 109 q = 0) ↔ Rc (s.2.1 108) o q) → y = if s1.2.1 109 q = 0 then 0 else 1) → w_267 a1 p2 a3 p4 s (fun r4 s3 => ((y = r4 → X s3) ∧ (¬ (y = r4) → F s3))) := by
        intro y hy
        unfold w_267
        simp only [e_264]
        refine br_f c2 (br_t d2 ?_)
        have last : ∀ s1, Fr fq109 s s1 → (∀ b, b < 36 → ((¬ s1.2.1 109 b = 0) ↔ Rc (s.2.1 108) o b)) → ((p4 = 0 → (pin a3 36 = true ∧ ((s1.2.1 109 a3.toNatClampNeg = 0 → (y = 0 → X s1) ∧ (¬ y = 0 → F s1)) ∧ (¬ s1.2.1 109 a3.toNatClampNeg = 0 → (y = 1 → X s1) ∧ (¬ y = 1 → F s1))))) ∧ (¬ p4 = 0 → (pin (16 + a3) 36 = true ∧ ((s1.2.1 109 (16 + a3).toNatClampNeg = 0 → (y = 0 → X s1) ∧ (¬ y = 0 → F s1)) ∧ (¬ s1.2.1 109 (16 + a3).toNatClampNeg = 0 → (y = 1 → X s1) ∧ (¬ y = 1 → F s1)))))) := by
          intro s1 f1 h1
          have y1 := hy s1 f1 (h1 q hq)
          have jj : X s1 := hX _ (J_Q (fr_weak rfl f1) hJ (Jvie_G f1 (J_vie hJ)))
          have body : ∀ z : Int32, z = nI q → (pin z 36 = true ∧ ((s1.2.1 109 z.toNatClampNeg = 0 → (y = 0 → X s1) ∧ (¬ y = 0 → F s1)) ∧ (¬ s1.2.1 109 z.toNatClampNeg = 0 → (y = 1 → X s1) ∧ (¬ y = 1 → F s1)))) := by
            intro z hz
            subst hz
            rw [nI_clamp (by omega)]
            refine ⟨pin_nI hq (by omega), ?_⟩
            by_cases e : s1.2.1 109 q = 0
            · rw [if_pos e] at y1
              exact br_t e (br_t y1 jj)
            · rw [if_neg e] at y1
              exact br_f e (br_t y1 jj)
          unfold owI at d3
          by_cases e : p4 = 0
          · rw [if_pos e] at d3
            exact br_t e (body a3 d3)
          · rw [if_neg e] at d3
            exact br_f e (body (16 + a3) d3)
        unfold owI at c3
        by_cases e : p2 = 0
        · rw [if_pos e] at c3
          rw [c3]
          exact br_t e (mp_266 ho last)
        · rw [if_neg e] at c3
          rw [c3]
          exact br_f e (mp_266 ho last)
      rw [nI_eq (by omega) (by omega)]
      by_cases e : o = q
      · refine br_t e (ref 1 ?_)
        intro s1 _ h1
        rw [if_neg (h1.mpr (e ▸ Rc_self))]
      · refine br_f e (mp_163 ho (fun A hA => ?_))
        have z := one_eq hA hq (fun y => e y.symm)
        rw [Rc_congr hT] at z
        rw [nI_clamp (by omega)]
        refine ⟨pin_nI hq (by omega), ?_⟩
        by_cases g : A &&& s.2.1 28 q = 0
        · refine br_t g (ref 0 ?_)
          intro s1 _ h1
          rw [if_pos]
          exact Classical.byContradiction (fun w => (z.mpr (h1.mp w)) g)
        · refine br_f g (ref 1 ?_)
          intro s1 _ h1
          rw [if_neg (h1.mpr (z.mp g))]
theorem sp_21 {t : Nat} {s : ST} {X F : ST → Prop} (a1 : Int32) (a2 : Int32) (a3 : Int32) (a4 : Int32) (h : J t s) (hX : ∀ s1, J (t + 1) s1 → X s1) : st_21 a1 a2 a3 a4 s X F := by
  obtain ⟨hnow, hhou, hrow, hord, hmen, htap, hthi, hjud, hask, hrea, hsca, hvie, hrul, hrnd, hroo⟩ := h
  have hJ : J t s := ⟨hnow, hhou, hrow, hord, hmen, htap, hthi, hjud, hask, hrea, hsca, hvie, hrul, hrnd, hroo⟩
  have l0 : (0 : Int32) = 0 ∨ (0 : Int32) = 1 := Or.inl rfl
  have l1 : (1 : Int32) = 0 ∨ (1 : Int32) = 1 := Or.inr rfl
  unfold st_21
  by_cases b : a2 = 0
  · by_cases c : a4 = 0
    · simp only [b, c, br_true, eq_self]
      exact bh hJ hX l0 l0
    · simp only [b, c, br_true, br_false, eq_self]
      exact bh hJ hX l0 l1
  · by_cases c : a4 = 0
    · simp only [b, c, br_true, br_false, eq_self]
      exact bh hJ hX l1 l0
    · simp only [b, c, br_false, eq_self]
      exact bh hJ hX l1 l1
def gst (D : ST) (t : Int32) (cb : Nat → Bool) (acc : Int32) (x : Nat) : Int32 := if D.2.1 57 x = 0 ∨ D.2.1 57 x = 1 then (if cb (16 + (D.2.1 59 x).toNatClampNeg) = true then (if D.2.1 57 x = 1 then acc + smI D t x else acc + -(smI D t x)) else acc) else acc
theorem pay_ok {D : ST} (h : Bk D) {x : Nat} (hx : x < nR D) (hk : D.2.1 57 x = 0 ∨ D.2.1 57 x = 1) : D.2.1 59 x = nI (D.2.1 59 x).toNatClampNeg ∧ (D.2.1 59 x).toNatClampNeg < 20 ∧ 0 ≤ (D.2.1 59 x).toInt ∧ (D.2.1 59 x).toInt ≤ 19 := by
  have r := (h.2.2.1.2.2.2 x hx).2
  unfold Rok at r
  have hh : (D.2.1 57 x).toInt ≤ 1 := by
    rcases hk with e | e <;> rw [e] <;> decide
  exact ⟨nI_nat (by omega), by rw [cl_e]; omega, by omega, by omega⟩
theorem w15 {D s : ST} {x : Nat} {K : Int32 → ST → Prop} (h : Bk D) (f : Fr fsS D s) (hx : x < nR D) (k1 : (D.2.1 57 x = 0 ∨ D.2.1 57 x = 1) → K (D.2.1 59 x) s) (k2 : ¬ (D.2.1 57 x = 0 ∨ D.2.1 57 x = 1) → K (-1) s) : w_15 (nI x) s K := by
  rw [w_15, cc0 h f hx]
  by_cases a : D.2.1 57 x = 0
  · refine br_t a ?_
    rw [cc2 h f hx]
    exact k1 (Or.inl a)
  · refine br_f a ?_
    by_cases b : D.2.1 57 x = 1
    · refine br_f (fun z => z b) ?_
      rw [cc2 h f hx]
      exact k1 (Or.inr b)
    · exact br_t b (k2 (fun z => z.elim a b))
theorem l_161 {D s : ST} {t A : Int32} {cb : Nat → Bool} {X K : Int32 → ST → Prop} (h : Bk D) (pv : PV D t s) (hcb : ∀ b, 16 ≤ b → b < 36 → (cb b = true ↔ ¬ s.2.1 28 b &&& A = 0)) (h1 : X ((kL D t).foldl (gst D t cb) 0) s) : ∀ n k, k ≤ (kL D t).length → (kL D t).length - k < n → w_161_L21 n A (((kL D t).take k).foldl (gst D t cb) 0) (nI k) s X K := by
  have h150 := kL_150 h (t := t)
  intro n
  induction n with
  | zero => intro k _ z; omega
  | succ n ih =>
    intro k hk hn
    rw [w_161_L21, pv.2.1, nI_leI (by omega) (by omega)]
    by_cases c : (kL D t).length ≤ k
    · rw [List.take_of_length_le c]
      exact br_t c h1
    refine br_f c ?_
    have hkl : k < (kL D t).length := by omega
    have hx := (kL_lt h hkl).1
    have hR := (bkR h).2.2
    have nx := ih (k + 1) (by omega) (by omega)
    rw [fold_take hkl, ← nI_1] at nx
    rw [w_at h pv hkl]
    generalize (kL D t)[k] = x at hx nx
    refine w15 h pv.1 hx (fun a => ?_) (fun a => ?_)
    · obtain ⟨p1, p2, p3, p4⟩ := pay_ok h hx a
      rw [gst, if_pos a] at nx
      have e16 : (16 : Int32) + D.2.1 59 x = nI (16 + (D.2.1 59 x).toNatClampNeg) := by
        have z : (16 : Int32) = nI 16 := rfl
        rw [z, ← nI_add, ← p1]
      simp only [e_162, t_162b]
      rw [if_pos ⟨p3, p4⟩, e16]
      refine br_f (m1ne (by omega)) ⟨pin_nI (by omega) (by omega), ?_⟩
      rw [nI_clamp (by omega)]
      have hc := hcb (16 + (D.2.1 59 x).toNatClampNeg) (by omega) (by omega)
      by_cases g : s.2.1 28 (16 + (D.2.1 59 x).toNatClampNeg) &&& A = 0
      · rw [if_neg (fun z => (hc.mp z) g)] at nx
        exact br_t g nx
      · rw [if_pos (hc.mpr g)] at nx
        refine br_f g ?_
        rw [cc0 h pv.1 hx]
        by_cases q : D.2.1 57 x = 1
        · rw [if_pos q] at nx
          refine br_f (fun z => z q) ?_
          rw [w119 (by omega), pv.2.2.2 _ hx]
          exact nx
        · rw [if_neg q] at nx
          refine br_t q ?_
          rw [w119 (by omega), pv.2.2.2 _ hx]
          exact nx
    · rw [gst, if_neg a] at nx
      simp only [e_162, t_162b]
      rw [if_neg (by rw [l_m1]; omega)]
      exact br_t rfl nx
theorem l_268 {D s : ST} {t : Int32} {cb : Nat → Bool} {X K : Int32 → ST → Prop} (h : Bk D) (f : Fr fsS D s) (r : RW D t s) (hcb : ∀ b, 16 ≤ b → b < 36 → (cb b = true ↔ ¬ s.2.1 109 b = 0)) (h1 : X ((kL D t).foldl (gst D t cb) 0) s) : ∀ n k, k ≤ (kL D t).length → (kL D t).length - k < n → w_268_L16 n (((kL D t).take k).foldl (gst D t cb) 0) (nI k) s X K := by
  have h150 := kL_150 h (t := t)
  intro n
  induction n with
  | zero => intro k _ z; omega
  | succ n ih =>
    intro k hk hn
    rw [w_268_L16, r.1, nI_leI (by omega) (by omega)]
    by_cases c : (kL D t).length ≤ k
    · rw [List.take_of_length_le c]
      exact br_t c h1
    refine br_f c ?_
    have hkl : k < (kL D t).length := by omega
    obtain ⟨r1, r2, r3, hx, r5, r6⟩ := rp h r hkl
    have nx := ih (k + 1) (by omega) (by omega)
    rw [fold_take hkl, ← nI_1] at nx
    rw [nI_clamp (show k < 2 ^ 31 by omega), r1, r5]
    generalize ((kL D t).take k).foldl (gst D t cb) 0 = acc at nx
    generalize (kL D t)[k] = x at *
    refine ⟨r2, ?_⟩
    have o : ob_229 (nI x) s := ⟨r3, fun _ => r3, fun _ => ⟨r3, fun _ => r3⟩⟩
    rw [e_229 _ _ o]
    unfold v_229
    rw [r5, f.2.1 57 rfl, f.2.1 59 rfl]
    by_cases a : D.2.1 57 x = 0 ∨ D.2.1 57 x = 1
    · obtain ⟨p1, p2, p3, p4⟩ := pay_ok h hx a
      rw [gst, if_pos a] at nx
      have ev : (if D.2.1 57 x = 0 then D.2.1 59 x else if ¬ D.2.1 57 x = 1 then (-1 : Int32) else D.2.1 59 x) = D.2.1 59 x := by
        by_cases e : D.2.1 57 x = 0
        · rw [if_pos e]
        · rw [if_neg e, if_neg (fun z => z (a.resolve_left e))]
      rw [ev]
      refine br_f (by rw [i_eq, l_m1]; omega) ⟨r3, ?_⟩
      have e16 : (16 : Int32) + D.2.1 59 x = nI (16 + (D.2.1 59 x).toNatClampNeg) := by
        have z : (16 : Int32) = nI 16 := rfl
        rw [z, ← nI_add, ← p1]
      rw [e16, nI_clamp (by omega), r6]
      refine ⟨pin_nI (by omega) (by omega), ?_⟩
      have hc := hcb (16 + (D.2.1 59 x).toNatClampNeg) (by omega) (by omega)
      by_cases g : s.2.1 109 (16 + (D.2.1 59 x).toNatClampNeg) = 0
      · rw [if_neg (fun z => (hc.mp z) g)] at nx
        exact br_f (fun z => z g) nx
      · rw [if_pos (hc.mpr g)] at nx
        refine br_t g ⟨r3, ?_⟩
        by_cases q : D.2.1 57 x = 1
        · rw [if_pos q] at nx
          exact br_f (fun z => z q) ⟨r3, nx⟩
        · rw [if_neg q] at nx
          exact br_t q ⟨r3, nx⟩
    · rw [gst, if_neg a] at nx
      rw [if_neg (fun z => a (Or.inl z)), if_pos (fun z => a (Or.inr z))]
      exact br_t rfl nx
theorem sp_22 {t : Nat} {s : ST} {X F : ST → Prop} (a1 : Int32) (h : J t s) (hX : ∀ s1, J (t + 1) s1 → X s1) : st_22 a1 s X F := by
  obtain ⟨hnow, hhou, hrow, hord, hmen, htap, hthi, hjud, hask, hrea, hsca, hvie, hrul, hrnd, hroo⟩ := h
  have hJ : J t s := ⟨hnow, hhou, hrow, hord, hmen, htap, hthi, hjud, hask, hrea, hsca, hvie, hrul, hrnd, hroo⟩
  have hB := J_Bk hJ
  have hT : ∀ k, k < 36 → s.2.1 28 k = s.2.1 108 k := fun k hk => (hthi k hk).1
  unfold st_22 w_161
  simp only [e_183, t_183]
  by_cases c : 0 ≤ a1.toInt ∧ a1.toInt ≤ 15
  · refine br_t (fun z => z c) ?_
    simp only [e_162, t_162a]
    rw [if_pos c]
    obtain ⟨o, ho, rfl⟩ := of_rng (n := 16) c.1 (by omega)
    refine mp_163 (by omega) (fun A hA => ?_)
    rw [hnow.1]
    refine mp_111 hB (fr_rfl _ _) hvie (fun s1 f1 vw jv => ?_)
    have fS : Fr fsS s s1 := fr_weak rfl f1
    have h150 := kL_150 hB (t := s.1 5500)
    have k28 : s1.2.1 28 = s.2.1 28 := f1.2.1 28 rfl
    refine ⟨160, l_161 (cb := fun b => !decide (s.2.1 28 b &&& A = 0)) hB vw.2.1 ?_ ?_ 160 0 (by omega) (by omega)⟩
    · intro b _ _
      rw [k28, Bool.not_eq_true', decide_eq_false_iff_not]
    · unfold w_268
      simp only [e_191, t_191]
      refine br_t (fun z => z (by omega)) ?_
      refine mp_266 (by omega) (fun s2 f2 h2 => ?_)
      have fS2 : Fr fsS s s2 := fr_tr (F := fq109) rfl fS f2
      have k108 : s1.2.1 108 = s.2.1 108 := f1.2.1 108 rfl
      rw [k108] at h2
      have k5500 : s2.1 5500 = s.1 5500 := fS2.1 5500 rfl
      rw [k5500]
      refine mp_197 hB fS2 (fun s3 f3 rw3 => ?_)
      have fS3 : Fr fsS s s3 := fr_tr (F := fq197) rfl fS2 f3
      refine ⟨160, l_268 (cb := fun b => !decide (s.2.1 28 b &&& A = 0)) hB fS3 rw3 ?_ ?_ 160 0 (by omega) (by omega)⟩
      · intro b hb16 hb
        rw [f3.2.1 109 rfl, Bool.not_eq_true', decide_eq_false_iff_not, h2 b hb, ← Rc_congr hT]
        have e : ¬ b = o := by omega
        rw [← one_eq hA hb e]
        have sw : s.2.1 28 b &&& A = A &&& s.2.1 28 b := Int32.and_comm _ _
        rw [sw]
      · exact br_t (by trivial) (hX _ (J_Q (fr_tr (F := fq197) rfl (fr_tr (F := fq109) rfl (fr_weak rfl f1) f2) f3) hJ (Jvie_G f3 (Jvie_G f2 jv))))
  · refine br_f (fun z => z c) ?_
    unfold w_268
    simp only [e_191, t_191]
    exact br_f (fun z => z (by omega)) (br_t (by trivial) (hX _ (J_s hJ)))
