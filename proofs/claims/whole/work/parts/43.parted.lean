/-! ===== parted; printed by wip/whole/genparted.py ===== -/
abbrev fsT : FS := ([800, 801, 3502, 3503, 3504, 3505, 3506, 3710, 3711, 5007, 5008, 5009, 5520, 5526, 5527, 5528, 5529, 5530, 5531, 5532, 5533, 5557, 5558, 5571, 5572, 5573, 5574, 7, 5525], [9, 10, 11, 12, 13, 14, 15, 21, 33, 34, 36, 38, 39, 40, 41, 42, 43, 44, 45, 51, 52, 53, 54, 72, 73, 74, 76, 77, 78, 79, 80, 81, 82, 94, 95, 96, 97, 98, 99, 100, 101, 102, 103, 104, 105, 106, 109, 110], [17, 18, 92, 93, 107], false, false)
theorem Jroo_T {t : Nat} {s s1 : ST} (f : Fr fsT s s1) (h : Jroo t s) : Jroo t s1 := by
  unfold Jroo at h ⊢
  rw [f.2.2.2.2 rfl]
  exact h
theorem J_T {t : Nat} {s s1 : ST} (f : Fr fsT s s1) (h : J t s) (hv : Jvie s1) (ht : Jtap s1) : J (t + 1) s1 := by
  obtain ⟨hnow, hhou, hrow, hord, hmen, htap, hthi, hjud, hask, hrea, hsca, hvie, hrul, hrnd, hroo⟩ := h
  exact ⟨Jnow_G f hnow, Jhou_G f hhou, Jrow_G f hrow, Jord_G f hord, Jmen_G f hmen, ht, Jthi_G f hthi, Jjud_G f hjud, Jask_G f hask, Jrea_G f hrea, Jsca_G f hsca, hv, Jrul_G f hrul, Jrnd_G f hrnd, Jroo_s (Jroo_T f hroo)⟩
/-- the row that the tape names at a place, and its sum -/
def tp (D : ST) (k : Nat) : Int32 := D.2.1 27 k
def tS (D : ST) (t : Int32) (k : Nat) : Int32 := smI D t (tp D k).toNatClampNeg
def tA (D : ST) (t : Int32) : Nat → Int32
  | 0 => 0
  | k + 1 => tA D t k + tS D t k
def tok (D : ST) (t : Int32) (k : Nat) : Prop := kn D t (tp D k) ∧ ∀ j, j < k → ¬ tp D j = tp D k
theorem l_144 {D s : ST} {k : Nat} {X1 X2 : ST → Prop} {K : Int32 → ST → Prop} (h27 : s.2.1 27 = D.2.1 27) (hk : k < 12) (h1 : (∀ j, j < k → ¬ tp D j = tp D k) → X1 s) (h2 : ¬ (∀ j, j < k → ¬ tp D j = tp D k) → X2 s) : ∀ n j, j ≤ k → k - j < n → (∀ i, i < j → ¬ tp D i = tp D k) → w_144_L2 n (nI k) (nI j) s X1 X2 K := by
  intro n
  induction n with
  | zero => intro j _ z; omega
  | succ n ih =>
    intro j hj hn hs
    rw [w_144_L2, nI_leI (by omega) (by omega)]
    by_cases c : k ≤ j
    · exact br_t c (h1 (fun i hi => hs i (by omega)))
    refine br_f c ?_
    have e200 : (200 : Int32) = nI 200 := rfl
    rw [e200, nI_leI (by omega) (by omega)]
    refine br_f (by omega) ⟨pin_nI (by omega) (by omega), pin_nI (by omega) (by omega), ?_⟩
    rw [nI_clamp (by omega), nI_clamp (by omega), h27, nI_1]
    by_cases d : D.2.1 27 j = D.2.1 27 k
    · exact br_f (fun z => z d) (h2 (fun z => z j (by omega) d))
    · refine br_t d (ih (j + 1) (by omega) (by omega) ?_)
      intro i hi
      by_cases e : i = j
      · subst e; exact d
      · exact hs i (by omega)
theorem mp_144 {D s : ST} {k : Nat} {K : Int32 → ST → Prop} (h27 : s.2.1 27 = D.2.1 27) (hk : k < 12) (h1 : (∀ j, j < k → ¬ tp D j = tp D k) → K 0 s) (h2 : ¬ (∀ j, j < k → ¬ tp D j = tp D k) → K 1 s) : w_144 (nI k) s K := ⟨13, l_144 h27 hk h1 h2 13 0 (by omega) (by omega) (fun i hi => absurd hi (by omega))⟩
theorem kn_row {D : ST} {t p : Int32} (h : kn D t p) : p.toNatClampNeg < nR D ∧ p = nI p.toNatClampNeg := by
  obtain ⟨h1, h2, _⟩ := h
  exact ⟨by show p.toInt.toNat < (D.1 5502).toInt.toNat; omega, nI_nat h1⟩
theorem l_143 {D s : ST} {t p1 : Int32} {m : Nat} {X57 : Int32 → Int32 → Int32 → ST → Prop} {X43 : ST → Prop} {K : Int32 → ST → Prop} (h : Bk D) (v : VW D t s) (h27 : s.2.1 27 = D.2.1 27) (hm : m ≤ 12) (h1 : (∀ k, k < m → tok D t k) → X57 p1 (nI m) (tA D t m) s) (h2 : ¬ (∀ k, k < m → tok D t k) → X43 s) : ∀ n k, k ≤ m → m - k < n → (∀ j, j < k → tok D t j) → w_143_L25 n p1 (nI m) (tA D t k) (nI k) s X57 X43 K := by
  have hR := (bkR h).2.2
  intro n
  induction n with
  | zero => intro k _ z; omega
  | succ n ih =>
    intro k hk hn hs
    rw [w_143_L25, nI_leI (by omega) (by omega)]
    by_cases c : m ≤ k
    · have : k = m := by omega
      subst this
      exact br_t c (h1 hs)
    refine br_f c ?_
    have e200 : (200 : Int32) = nI 200 := rfl
    rw [e200, nI_leI (by omega) (by omega)]
    refine br_f (by omega) ⟨pin_nI (by omega) (by omega), ?_⟩
    rw [nI_clamp (by omega), h27, nI_1]
    refine w118v h v (fun kk => ?_) (fun nk => ?_)
    · refine br_f (by decide) (mp_144 h27 (by omega) (fun a => ?_) (fun a => ?_))
      · refine br_t rfl ⟨pin_nI (by omega) (by omega), ?_⟩
        rw [h27]
        obtain ⟨r1, r2⟩ := kn_row kk
        have nx := ih (k + 1) (by omega) (by omega) (fun j hj => by
          by_cases e : j = k
          · subst e; exact ⟨kk, a⟩
          · exact hs j (by omega))
        rw [tA] at nx
        have e1 : D.2.1 27 k = nI (D.2.1 27 k).toNatClampNeg := r2
        rw [e1, w119 (by omega), v.2.1.2.2.2 _ r1]
        exact nx
      · exact br_f (by decide) (h2 (fun z => a (z k (by omega)).2))
    · exact br_t rfl (h2 (fun z => nk (z k (by omega)).1))
theorem l_146 {D s : ST} {t x : Int32} {m : Nat} {X K : Int32 → ST → Prop} (h : Bk D) (v : VW D t s) (h27 : s.2.1 27 = D.2.1 27) (hm : m ≤ 12) (hok : ∀ k, k < m → tok D t k) (h1 : X (sumS (tS D t) x m) s) : ∀ n k, k ≤ m → m - k < n → w_146_L4 n x (nI m) (sumS (tS D t) x k) (nI k) s X K := by
  have hR := (bkR h).2.2
  intro n
  induction n with
  | zero => intro k _ z; omega
  | succ n ih =>
    intro k hk hn
    rw [w_146_L4, nI_leI (by omega) (by omega)]
    by_cases c : m ≤ k
    · have : k = m := by omega
      subst this
      exact br_t c h1
    refine br_f c ?_
    have e200 : (200 : Int32) = nI 200 := rfl
    rw [e200, nI_leI (by omega) (by omega)]
    refine br_f (by omega) ?_
    have nx := ih (k + 1) (by omega) (by omega)
    rw [sumS, ← nI_1] at nx
    simp only [e_184, t_184]
    by_cases d : bitI (nI k) x = 0
    · rw [if_pos d, Int32.add_zero] at nx
      exact br_t d nx
    · rw [if_neg d] at nx
      refine br_f d ⟨pin_nI (by omega) (by omega), ?_⟩
      rw [nI_clamp (by omega), h27]
      obtain ⟨r1, r2⟩ := kn_row (hok k (by omega)).1
      have e1 : D.2.1 27 k = nI (D.2.1 27 k).toNatClampNeg := r2
      have r1 : (D.2.1 27 k).toNatClampNeg < nR D := r1
      rw [e1, w119 (by omega), v.2.1.2.2.2 _ r1]
      exact nx
/-! the fewest rows: -1 none yet -/
def fw (f : Nat → Int32) (m : Nat) (w : Int32) : Nat → Int32
  | 0 => -1
  | k + 1 => if sumS f (nI k) m = w ∧ (fw f m w k = -1 ∨ pcR (nI k) 30 < pcR (fw f m w k) 30) then nI k else fw f m w k
theorem fw_rng {f : Nat → Int32} {m : Nat} {w : Int32} : ∀ k, fw f m w k = -1 ∨ ∃ j, j < k ∧ fw f m w k = nI j
  | 0 => Or.inl rfl
  | k + 1 => by
    rw [fw]
    split
    · exact Or.inr ⟨k, by omega, rfl⟩
    · rcases fw_rng (f := f) (m := m) (w := w) k with e | ⟨j, hj, e⟩
      · exact Or.inl e
      · exact Or.inr ⟨j, by omega, e⟩
theorem shl_12 {n : Nat} (h : n ≤ 12) : (1 : Int32) <<< (nI n &&& 31) = nI (2 ^ n) := by
  match n, h with
  | 0, _ => rfl
  | 1, _ => rfl
  | 2, _ => rfl
  | 3, _ => rfl
  | 4, _ => rfl
  | 5, _ => rfl
  | 6, _ => rfl
  | 7, _ => rfl
  | 8, _ => rfl
  | 9, _ => rfl
  | 10, _ => rfl
  | 11, _ => rfl
  | 12, _ => rfl
  | n + 13, h => omega
theorem pw12 {n : Nat} (h : n ≤ 12) : 2 ^ n ≤ 4096 ∧ 0 < 2 ^ n := by
  have hc : 2 ^ n ≤ 2 ^ 12 := Nat.pow_le_pow_right (by omega) h
  exact ⟨by omega, Nat.two_pow_pos n⟩
/-- the class's number of the fewest that it has -/
def fwn (f : Nat → Int32) (m : Nat) (w : Int32) (k : Nat) : Int32 := if fw f m w k = -1 then nI (m + 1) else pcR (fw f m w k) 30
def fwb (f : Nat → Int32) (m : Nat) (w : Int32) (k : Nat) : Int32 := if fw f m w k = -1 then -2 else fw f m w k
theorem fwb0 {f : Nat → Int32} {m : Nat} {w : Int32} : fwb f m w 0 = -2 := by unfold fwb; rw [if_pos (show fw f m w 0 = -1 from rfl)]
theorem fwn0 {f : Nat → Int32} {m : Nat} {w : Int32} : fwn f m w 0 = nI m + 1 := by unfold fwn; rw [if_pos (show fw f m w 0 = -1 from rfl), nI_1]
theorem m1n {o : Nat} (h : o < 4096) : ¬ nI o = -1 := by
  rw [i_eq, l_m1, nI_toInt (by omega)]
  omega
theorem l_145 {D s : ST} {t w : Int32} {m : Nat} {X K : Int32 → ST → Prop} (h : Bk D) (v : VW D t s) (h27 : s.2.1 27 = D.2.1 27) (hm : m ≤ 12) (hok : ∀ k, k < m → tok D t k) (h1 : X (fwb (tS D t) m w (2 ^ m)) s) : ∀ n k, k ≤ 2 ^ m → 2 ^ m - k < n → w_145_L8 n w (nI m) (fwb (tS D t) m w k) (fwn (tS D t) m w k) (nI k) s X K := by
  have hp := pw12 hm
  intro n
  induction n with
  | zero => intro k _ z; omega
  | succ n ih =>
    intro k hk hn
    rw [w_145_L8, shl_12 hm, nI_leI (by omega) (by omega)]
    by_cases c : 2 ^ m ≤ k
    · have : k = 2 ^ m := by omega
      subst this
      exact br_t c h1
    refine br_f c ?_
    obtain ⟨b1, b2, b3, b4⟩ := pc_ok (m := k) (by omega) s
    have nx := ih (k + 1) (by omega) (by omega)
    rw [← nI_1] at nx
    have hle := b3 m (by omega) (by omega)
    -- is it fewer
    have few : (fwn (tS D t) m w k ≤ nI (pcN 12 k)) ↔ ¬ (fw (tS D t) m w k = -1 ∨ pcR (nI k) 30 < pcR (fw (tS D t) m w k) 30) := by
      unfold fwn
      by_cases e : fw (tS D t) m w k = -1
      · rw [if_pos e, nI_leI (by omega) (by omega)]
        constructor
        · intro z; omega
        · intro z; exact absurd (Or.inl e) z
      · rw [if_neg e]
        obtain ⟨j, hj, ej⟩ := (fw_rng k).resolve_left e
        obtain ⟨d1, d2, d3, d4⟩ := pc_ok (m := j) (by omega) s
        rw [ej, d2, b2, nI_leI (by omega) (by omega), nI_ltI (by omega) (by omega)]
        have ne : ¬ nI j = -1 := m1n (by omega)
        constructor
        · intro z y
          rcases y with y | y
          · exact ne y
          · omega
        · intro z
          exact Classical.byContradiction (fun y => z (Or.inr (by omega)))
    simp only [e_283, b1]
    by_cases d : fwn (tS D t) m w k ≤ nI (pcN 12 k)
    · have e : fw (tS D t) m w (k + 1) = fw (tS D t) m w k := by rw [fw, if_neg (fun z => (few.mp d) z.2)]
      unfold fwb fwn at nx ⊢
      rw [e] at nx
      exact br_t d nx
    · refine br_f d ⟨13, l_146 h v h27 hm hok ?_ 13 0 (by omega) (by omega)⟩
      have dd : fw (tS D t) m w k = -1 ∨ pcR (nI k) 30 < pcR (fw (tS D t) m w k) 30 := Classical.byContradiction (fun z => d (few.mpr z))
      by_cases g : sumS (tS D t) (nI k) m = w
      · have e : fw (tS D t) m w (k + 1) = nI k := by rw [fw, if_pos ⟨g, dd⟩]
        refine br_f (fun z => z g) ?_
        unfold fwb fwn at nx
        rw [e, if_neg (m1n (by omega)), if_neg (m1n (by omega)), b2] at nx
        rw [b1]
        exact nx
      · have e : fw (tS D t) m w (k + 1) = fw (tS D t) m w k := by rw [fw, if_neg (fun z => g z.1)]
        unfold fwb fwn at nx ⊢
        rw [e] at nx
        exact br_t g nx
/-! the reference -/
abbrev fq95 : FS := ([], [95], [], false, false)
theorem l_245i {D s : ST} {x1 x2 x3 : Int32} {k : Nat} {X1 : Int32 → Int32 → Int32 → Int32 → Int32 → ST → Prop} {X2 : ST → Prop} {K : Int32 → ST → Prop} (hk : k < 12) (h95 : ∀ j, j < k → s.2.1 95 j = tp D j) (h1 : (∀ j, j < k → ¬ tp D j = tp D k) → X1 x1 x2 x3 (nI k) (tp D k) s) (h2 : ¬ (∀ j, j < k → ¬ tp D j = tp D k) → X2 s) : ∀ n j, j ≤ k → k - j < n → (∀ i, i < j → ¬ tp D i = tp D k) → w_245_L51 n x1 x2 x3 (nI k) (tp D k) (nI j) s X1 X2 K := by
  intro n
  induction n with
  | zero => intro j _ z; omega
  | succ n ih =>
    intro j hj hn hs
    rw [w_245_L51, nI_leI (by omega) (by omega)]
    by_cases c : k ≤ j
    · exact br_t c (h1 (fun i hi => hs i (by omega)))
    refine br_f c ⟨pin_nI (by omega) (by omega), ?_⟩
    rw [nI_clamp (by omega), h95 j (by omega), nI_1]
    by_cases d : tp D j = tp D k
    · exact br_f (fun z => z d) (h2 (fun z => z j (by omega) d))
    · refine br_t d (ih (j + 1) (by omega) (by omega) ?_)
      intro i hi
      by_cases e : i = j
      · subst e; exact d
      · exact hs i (by omega)
theorem RW_95 {D S s : ST} {t : Int32} (f : Fr fq95 S s) (h : RW D t S) : RW D t s := by
  unfold RW at h ⊢
  rw [f.1 5520 rfl, f.2.1 72 rfl, f.2.1 73 rfl, f.2.1 74 rfl]
  exact h
theorem l_245 {D S : ST} {t p1 : Int32} {m : Nat} {X1 : Int32 → Int32 → Int32 → ST → Prop} {X2 X3 : ST → Prop} {K : Int32 → ST → Prop} (h : Bk D) (f0 : Fr fsS D S) (r : RW D t S) (htp : ∀ k, k < 200 → D.2.1 27 k = D.2.1 75 k &&& 255) (hm : m ≤ 12) (h1 : ∀ s, Fr fq95 S s → (∀ j, j < m → s.2.1 95 j = tp D j) → (∀ k, k < m → tok D t k) → X1 p1 (nI m) (tA D t m) s) (h2 : ∀ s, Fr fq95 S s → ¬ (∀ k, k < m → tok D t k) → X2 s) (h3 : ∀ s, Fr fq95 S s → ¬ (∀ k, k < m → tok D t k) → X3 s) : ∀ n k s, k ≤ m → m - k < n → Fr fq95 S s → (∀ j, j < k → s.2.1 95 j = tp D j) → (∀ j, j < k → tok D t j) → w_245_L27 n p1 (nI m) (tA D t k) (nI k) s X1 X2 X3 K := by
  have hR := (bkR h).2.2
  intro n
  induction n with
  | zero => intro k s _ z; omega
  | succ n ih =>
    intro k s hk hn f hs hok
    have rs := RW_95 f r
    have fD : Fr fsS D s := fr_tr (F := fq95) rfl f0 f
    rw [w_245_L27, nI_leI (by omega) (by omega)]
    by_cases c : m ≤ k
    · have : k = m := by omega
      subst this
      exact br_t c (h1 s f hs hok)
    refine br_f c ⟨pin_nI (by omega) (by omega), ?_⟩
    have e75 : s.2.1 75 k &&& 255 = tp D k := by rw [fD.2.1 75 rfl]; exact (htp k (by omega)).symm
    rw [nI_clamp (by omega), e75]
    simp only [e_190, t_190, fD.1 5502 rfl]
    by_cases d : 0 ≤ (tp D k).toInt ∧ (tp D k).toInt < (D.1 5502).toInt
    · refine br_f (fun z => z d) ?_
      have hrow : (tp D k).toNatClampNeg < nR D := by show (tp D k).toInt.toNat < (D.1 5502).toInt.toNat; omega
      have hR2 := h.2.2.1.2.2.1
      have pt : pin (tp D k) 150 = true := pin_of d.1 (by omega)
      refine ⟨pt, ?_⟩
      by_cases e : s.2.1 74 (tp D k).toNatClampNeg = -1
      · exact br_f (fun z => z e) (h2 s f (fun z => ((place_ref h rs hrow).mp e) (z k (by omega)).1.2.2))
      · refine br_t e ⟨13, l_245i (by omega) hs (fun a => ?_) (fun a => ?_) 13 0 (by omega) (by omega) (fun i hi => absurd hi (by omega))⟩
        · have kk : kn D t (tp D k) := ⟨d.1, d.2, Classical.byContradiction (fun z => e ((place_ref h rs hrow).mpr z))⟩
          refine ⟨pin_nI (by omega) (by omega), pt, ?_⟩
          rw [nI_clamp (by omega), nI_1, rs.2.2.1 _ hrow]
          have nx := ih (k + 1) (sA s 95 (upd (s.2.1 95) k (tp D k))) (by omega) (by omega) (fr_sA 95 f) ?_ ?_
          · rw [tA] at nx
            exact nx
          · intro j hj
            show upd (s.2.1 95) k (tp D k) j = tp D j
            by_cases q : j = k
            · subst q; exact pk_us
            · rw [pk_un q]; exact hs j (by omega)
          · intro j hj
            by_cases q : j = k
            · subst q; exact ⟨kk, a⟩
            · exact hok j (by omega)
        · exact h3 s f (fun z => a (z k (by omega)).2)
    · exact br_t d (h2 s f (fun z => d ⟨(z k (by omega)).1.1, (z k (by omega)).1.2.1⟩))
theorem l_245s {D s : ST} {t x1 x3 x4 x : Int32} {m : Nat} {X : Int32 → Int32 → Int32 → Int32 → Int32 → Int32 → ST → Prop} {K : Int32 → ST → Prop} (h : Bk D) (r : RW D t s) (hm : m ≤ 12) (h95 : ∀ j, j < m → s.2.1 95 j = tp D j) (hok : ∀ k, k < m → tok D t k) (h1 : X x1 (nI m) x3 x4 x (sumS (tS D t) x m) s) : ∀ n k, k ≤ m → m - k < n → w_245_L91 n x1 (nI m) x3 x4 x (sumS (tS D t) x k) (nI k) s X K := by
  have hR := (bkR h).2.2
  intro n
  induction n with
  | zero => intro k _ z; omega
  | succ n ih =>
    intro k hk hn
    rw [w_245_L91, nI_leI (by omega) (by omega)]
    by_cases c : m ≤ k
    · have : k = m := by omega
      subst this
      exact br_t c h1
    refine br_f c ?_
    have nx := ih (k + 1) (by omega) (by omega)
    rw [sumS, ← nI_1] at nx
    simp only [bit1]
    obtain ⟨r1, r2⟩ := kn_row (hok k (by omega)).1
    rw [nI_clamp (by omega), h95 k (by omega)]
    by_cases d : bitI (nI k) x = 0
    · rw [if_pos d] at nx
      exact br_t (fun z => z d) nx
    · rw [if_neg d] at nx
      refine br_f (fun z => z d) ⟨pin_nI (by omega) (by omega), ?_, ?_⟩
      · rw [r2]; exact pin_nI (by omega) (by omega)
      · rw [r.2.2.1 _ r1]
        exact nx
theorem l_245b {D s : ST} {t p1 a : Int32} {m : Nat} {X K : Int32 → ST → Prop} (h : Bk D) (r : RW D t s) (hm : m ≤ 12) (h95 : ∀ j, j < m → s.2.1 95 j = tp D j) (hok : ∀ k, k < m → tok D t k) (h1 : X (fw (tS D t) m (a - p1) (2 ^ m)) s) : ∀ n k, k ≤ 2 ^ m → 2 ^ m - k < n → w_245_L82 n p1 (nI m) a (fw (tS D t) m (a - p1) k) (nI k) s X K := by
  have hp := pw12 hm
  intro n
  induction n with
  | zero => intro k _ z; omega
  | succ n ih =>
    intro k hk hn
    rw [w_245_L82, shl_12 hm, nI_leI (by omega) (by omega)]
    by_cases c : 2 ^ m ≤ k
    · have : k = 2 ^ m := by omega
      subst this
      exact br_t c h1
    refine br_f c ⟨13, l_245s h r hm h95 hok ?_ 13 0 (by omega) (by omega)⟩
    have nx := ih (k + 1) (by omega) (by omega)
    rw [← nI_1, fw] at nx
    by_cases g : sumS (tS D t) (nI k) m = a - p1
    · refine br_f (fun z => z g) ?_
      by_cases e : fw (tS D t) m (a - p1) k = -1
      · rw [if_pos ⟨g, Or.inl e⟩] at nx
        exact br_t e nx
      · refine br_f e (mp_244 (mp_244 ?_))
        by_cases q : pcR (fw (tS D t) m (a - p1) k) 30 ≤ pcR (nI k) 30
        · rw [if_neg (fun z => z.2.elim e (fun y => by rw [i_le] at q; rw [i_lt] at y; omega))] at nx
          exact br_t q nx
        · rw [if_pos ⟨g, Or.inr (by rw [i_le] at q; rw [i_lt]; omega)⟩] at nx
          exact br_f q nx
    · rw [if_neg (fun z => g z.1)] at nx
      exact br_t g nx
theorem sumS_rng {f : Nat → Int32} {x : Int32} : ∀ k, k ≤ 12 → (∀ j, j < k → 0 ≤ (f j).toInt ∧ (f j).toInt ≤ 1000000) → 0 ≤ (sumS f x k).toInt ∧ (sumS f x k).toInt ≤ 1000000 * k
  | 0, _, _ => ⟨by show 0 ≤ (0 : Int32).toInt; decide, by show (0 : Int32).toInt ≤ 1000000 * ((0 : Nat) : Int); decide⟩
  | k + 1, hk, h => by
    have ih := sumS_rng (f := f) (x := x) k (by omega) (fun j hj => h j (by omega))
    have hf := h k (by omega)
    rw [sumS]
    by_cases c : bitI (nI k) x = 0
    · rw [if_pos c, Int32.add_zero]; omega
    · rw [if_neg c, t_add (by omega) (by omega)]; omega
theorem tA_rng {D : ST} {t : Int32} (h : Bk D) : ∀ k, k ≤ 12 → (∀ j, j < k → tok D t j) → 0 ≤ (tA D t k).toInt ∧ (tA D t k).toInt ≤ 1000000 * k
  | 0, _, _ => ⟨by show 0 ≤ (0 : Int32).toInt; decide, by show (0 : Int32).toInt ≤ 1000000 * ((0 : Nat) : Int); decide⟩
  | k + 1, hk, hok => by
    have ih := tA_rng h k (by omega) (fun j hj => hok j (by omega))
    have hf := smI_rng h (t := t) (kn_row (hok k (by omega)).1).1
    have hf2 : 0 ≤ (tS D t k).toInt ∧ (tS D t k).toInt ≤ 1000000 := hf
    rw [tA, t_add (by omega) (by omega)]
    omega
theorem fw_none {f : Nat → Int32} {m : Nat} {w : Int32} (hm : m ≤ 12) (hw : w.toInt < 0) (h : ∀ j, j < m → 0 ≤ (f j).toInt ∧ (f j).toInt ≤ 1000000) : ∀ k, fw f m w k = -1
  | 0 => rfl
  | k + 1 => by
    rw [fw, if_neg]
    · exact fw_none hm hw h k
    · intro z
      have := (sumS_rng (f := f) (x := nI k) m hm h).1
      rw [z.1] at this
      omega
theorem sp_12 {t : Nat} {s : ST} {X F : ST → Prop} (a1 : Int32) (a2 : Int32) (h : J t s) (hX : ∀ s1, J (t + 1) s1 → X s1) : st_12 a1 a2 s X F := by
  obtain ⟨hnow, hhou, hrow, hord, hmen, htap, hthi, hjud, hask, hrea, hsca, hvie, hrul, hrnd, hroo⟩ := h
  have hJ : J t s := ⟨hnow, hhou, hrow, hord, hmen, htap, hthi, hjud, hask, hrea, hsca, hvie, hrul, hrnd, hroo⟩
  have hB := J_Bk hJ
  have h136 : ∀ {K : Int32 → ST → Prop}, w_136 a2 12 s K = K (if 1 ≤ a2.toInt ∧ a2.toInt ≤ 12 ∧ a2.toInt ≤ (s.1 5525).toInt then 1 else 0) s := by
    intro K
    unfold w_136
    simp only [e_181, t_181, Int32.reduceToInt, htap.1]
    by_cases c : 1 ≤ a2.toInt ∧ a2.toInt ≤ 12
    · rw [br_eqf (fun z => z c)]
      by_cases d : s.1 5525 < a2
      · rw [br_eqt d]
        rw [i_lt] at d
        rw [if_neg (by omega)]
      · rw [br_eqf d]
        rw [i_lt] at d
        rw [if_pos (by omega)]
    · rw [br_eqt c, if_neg (by omega)]
  unfold st_12 w_143
  simp only [e_181, t_181, Int32.reduceToInt, h136]
  have fin : X s := hX _ (J_s hJ)
  have rej : (¬ (0 ≤ a1.toInt ∧ a1.toInt ≤ 12000000) ∨ ¬ (1 ≤ a2.toInt ∧ a2.toInt ≤ 12 ∧ a2.toInt ≤ (s.1 5525).toInt)) → w_245 a1 a2 s (fun r4 s3 => (-1 = r4 → X s3) ∧ (¬ -1 = r4 → F s3)) := by
    intro hc
    unfold w_245
    simp only [e_186, t_186, Int32.reduceToInt]
    by_cases c : 0 ≤ a1.toInt ∧ a1.toInt ≤ 12000000
    · refine br_f (fun z => z c) ?_
      by_cases d : 1 ≤ a2.toInt ∧ a2.toInt ≤ 12
      · refine br_f (fun z => z d) (br_f ?_ (br_t (by trivial) fin))
        rw [i_le]
        omega
      · exact br_t d (br_t (by trivial) fin)
    · exact br_t c (br_t (by trivial) fin)
  by_cases c : 0 ≤ a1.toInt ∧ a1.toInt ≤ 12000000
  · refine br_f (fun z => z c) ?_
    by_cases d : 1 ≤ a2.toInt ∧ a2.toInt ≤ 12 ∧ a2.toInt ≤ (s.1 5525).toInt
    · rw [if_pos d]
      refine br_t (by decide) ?_
      obtain ⟨m, hm, rfl⟩ := of_rng (x := a2) (n := 13) (by omega) (by omega)
      have dm := d
      rw [nI_toInt (by omega)] at dm
      rw [hnow.1]
      have f0 : Fr fsS s (sI s 7 0) := fr_sI 7 (fr_rfl _ _)
      refine mp_111 hB f0 hvie (fun s1 f1 vw jv => ?_)
      have fS1 : Fr fsS s s1 := fr_tr (F := fqV) rfl f0 f1
      have e27 : s1.2.1 27 = s.2.1 27 := f1.2.1 27 rfl
      have e7 : s1.1 7 = 0 := f1.1 7 rfl
      -- the reference's part
      have ref : ∀ (y : Int32), ((¬ ∀ k, k < m → tok s (s.1 5500) k) → y = -3) → ((∀ k, k < m → tok s (s.1 5500) k) → y = (if fw (tS s (s.1 5500)) m (tA s (s.1 5500) m - a1) (2 ^ m) = -1 then -2 else fw (tS s (s.1 5500)) m (tA s (s.1 5500) m - a1) (2 ^ m))) → w_245 a1 (nI m) s1 (fun r4 s3 => (y = r4 → X s3) ∧ (¬ y = r4 → F s3)) := by
        intro y hy1 hy2
        have e5525 : s1.1 5525 = s.1 5525 := f1.1 5525 rfl
        have e5500 : s1.1 5500 = s.1 5500 := f1.1 5500 rfl
        unfold w_245
        simp only [e_186, t_186, Int32.reduceToInt, e5525, e5500]
        refine br_f (fun z => z c) (br_f (fun z => z ⟨d.1, d.2.1⟩) (br_t (by rw [i_le]; exact d.2.2) ?_))
        refine mp_197 hB (fr_sI 5525 fS1) (fun s2 f2 rw2 => ?_)
        have fS2 : Fr fsS s s2 := fr_tr (F := fq197) rfl (fr_sI 5525 fS1) f2
        have jf : ∀ s3, Fr fq95 s2 s3 → X s3 := by
          intro s3 f3
          have fT : Fr fsT s s3 := fr_tr (F := fq95) rfl (fr_tr (F := fq197) rfl (fr_sI 5525 (fr_tr (F := fqV) rfl (fr_sI 7 (fr_rfl _ _)) f1)) f2) f3
          refine hX _ (J_T fT hJ (Jvie_G f3 (Jvie_G f2 jv)) ?_)
          have k7 : s3.1 7 = 0 := by rw [f3.1 7 rfl, f2.1 7 rfl]; exact e7
          have k5525 : s3.1 5525 = 0 := by rw [f3.1 5525 rfl, f2.1 5525 rfl]; rfl
          refine ⟨by rw [k7, k5525], by rw [k5525]; decide, by rw [k5525]; decide, ?_⟩
          rw [fT.2.1 27 rfl, fT.2.1 75 rfl]
          exact htap.2.2.2
        refine ⟨13, l_245 hB fS2 rw2 htap.2.2.2 (by omega) ?_ ?_ ?_ 13 0 s2 (by omega) (by omega) (fr_rfl _ _) (fun j hj => absurd hj (by omega)) (fun j hj => absurd hj (by omega))⟩
        · intro s3 f3 h95 hok
          have hp := pw12 (n := m) (by omega)
          refine ⟨4097, l_245b hB (RW_95 f3 rw2) (by omega) h95 hok ?_ 4097 0 (by omega) (by omega)⟩
          have y2 := hy2 hok
          by_cases e : fw (tS s (s.1 5500)) m (tA s (s.1 5500) m - a1) (2 ^ m) = -1
          · rw [if_pos e] at y2
            exact br_f (fun z => z e) (br_t y2 (jf s3 f3))
          · rw [if_neg e] at y2
            exact br_t e (br_t y2 (jf s3 f3))
        · intro s3 f3 nok
          exact br_t (hy1 nok) (jf s3 f3)
        · intro s3 f3 nok
          exact br_t (hy1 nok) (jf s3 f3)
      refine ⟨13, l_143 hB vw e27 (by omega) (fun hok => ?_) (fun nok => ?_) 13 0 (by omega) (by omega) (fun j hj => absurd hj (by omega))⟩
      · have ra := tA_rng hB m (by omega) hok
        have es : (tA s (s.1 5500) m - a1).toInt = (tA s (s.1 5500) m).toInt - a1.toInt := t_sub (by omega) (by omega)
        by_cases e : a1 ≤ tA s (s.1 5500) m
        · refine br_t e ?_
          have hp := pw12 (n := m) (by omega)
          refine ⟨4097, ?_⟩
          rw [← fwb0 (f := tS s (s.1 5500)) (m := m) (w := tA s (s.1 5500) m - a1), ← fwn0 (f := tS s (s.1 5500)) (m := m) (w := tA s (s.1 5500) m - a1)]
          refine l_145 hB vw e27 (by omega) hok ?_ 4097 0 (by omega) (by omega)
          exact ref _ (fun z => absurd hok z) (fun _ => rfl)
        · refine br_f e ?_
          rw [i_le] at e
          refine ref _ (fun z => absurd hok z) (fun _ => ?_)
          rw [fw_none (by omega) (by omega), if_pos rfl]
          intro j hj
          exact smI_rng hB (kn_row (hok j hj).1).1
      · exact ref _ (fun _ => rfl) (fun z => absurd z nok)
    · rw [if_neg d]
      exact br_f (fun z => z rfl) (rej (Or.inr d))
  · exact br_t c (rej (Or.inl c))
