/-! ===== the class's search for a path ===== -/
abbrev fqVi : FS := ([], [44, 45], [], false, false)
theorem lsh_c {S : Nat → Nat} {v : Nat} : ∀ c, (lsh S c v = -1 ∧ ∀ j, j < c → ¬ S j = v) ∨ ∃ e, e < c ∧ lsh S c v = nI e ∧ S e = v ∧ ∀ j, e < j → j < c → ¬ S j = v
  | 0 => Or.inl ⟨rfl, fun j hj => absurd hj (by omega)⟩
  | c + 1 => by
    by_cases z : S c = v
    · right
      exact ⟨c, by omega, if_pos z, z, fun j h1 h2 => absurd h1 (by omega)⟩
    · have e : lsh S (c + 1) v = lsh S c v := if_neg z
      rcases lsh_c (S := S) (v := v) c with ⟨h1, h2⟩ | ⟨e0, h1, h2, h3, h4⟩
      · left
        refine ⟨e.trans h1, fun j hj => ?_⟩
        by_cases y : j = c
        · rw [y]; exact z
        · exact h2 j (by omega)
      · right
        refine ⟨e0, by omega, e.trans h2, h3, fun j a b => ?_⟩
        by_cases y : j = c
        · rw [y]; exact z
        · exact h4 j a (by omega)
def qlL (q : Nat → Nat) : Nat → List Nat
  | 0 => []
  | L + 1 => q L :: qlL q L
theorem qlL_mem {q : Nat → Nat} {v : Nat} : ∀ L, v ∈ qlL q L ↔ ∃ i, i < L ∧ q i = v
  | 0 => ⟨fun h => absurd h List.not_mem_nil, fun ⟨i, h, _⟩ => absurd h (by omega)⟩
  | L + 1 => by
    show v ∈ q L :: qlL q L ↔ _
    rw [List.mem_cons, qlL_mem L]
    constructor
    · rintro (h | ⟨i, h1, h2⟩)
      · exact ⟨L, by omega, h.symm⟩
      · exact ⟨i, by omega, h2⟩
    · rintro ⟨i, h1, h2⟩
      by_cases c : i = L
      · left; rw [← h2, c]
      · right; exact ⟨i, by omega, h2⟩
theorem qlL_nd {q : Nat → Nat} : ∀ L, (∀ i j, i < L → j < L → q i = q j → i = j) → (qlL q L).Nodup
  | 0, _ => List.nodup_nil
  | L + 1, h => by
    show (q L :: qlL q L).Nodup
    rw [List.nodup_cons]
    refine ⟨fun z => ?_, qlL_nd L (fun i j a b => h i j (by omega) (by omega))⟩
    obtain ⟨i, h1, h2⟩ := (qlL_mem L).mp z
    have := h i L (by omega) (by omega) h2
    omega
theorem qlL_len {q : Nat → Nat} : ∀ L, (qlL q L).length = L
  | 0 => rfl
  | L + 1 => congrArg (· + 1) (qlL_len L)
theorem pigeon {q : Nat → Nat} {L n : Nat} (h : ∀ i j, i < L → j < L → q i = q j → i = j) (hn : ∀ i, i < L → q i < n) : L ≤ n := by
  have := sub_len (qlL q L) (List.range n) (qlL_nd L h) (fun x hx => by
    obtain ⟨i, h1, h2⟩ := (qlL_mem L).mp hx
    rw [← h2]
    exact List.mem_range.mpr (hn i h1))
  rw [qlL_len, List.length_range] at this
  exact this
/-- what the search has reached: q in the order of reaching, by the half edge ed from the place pa -/
def BI (s : ST) (n E : Nat) (S G : Nat → Nat) (W : Nat → Int) (q ed pa : Nat → Nat) (L : Nat) : Prop := 0 < L ∧ q 0 = 0 ∧ (∀ i, i < L → q i < n ∧ s.2.1 45 i = nI (q i)) ∧ (∀ i j, i < L → j < L → q i = q j → i = j) ∧ s.2.1 44 0 = -2 ∧ (∀ v, v < n → (∀ i, i < L → ¬ q i = v) → s.2.1 44 v = -1) ∧ (∀ i, 0 < i → i < L → ed i < E ∧ pa i < i ∧ s.2.1 44 (q i) = nI (ed i) ∧ G (ed i) = q i ∧ S (ed i) = q (pa i) ∧ 0 < W (ed i))
theorem BI_via {s : ST} {n E L i : Nat} {S G : Nat → Nat} {W : Nat → Int} {q ed pa : Nat → Nat} (b : BI s n E S G W q ed pa L) (hE : E ≤ 624) (hi : i < L) : ¬ s.2.1 44 (q i) = -1 := by
  by_cases c : i = 0
  · rw [c, b.2.1, b.2.2.2.2.1]; decide
  · obtain ⟨b1, _, b3, _⟩ := b.2.2.2.2.2.2 i (by omega) hi
    rw [b3, i_eq, nI_toInt (by omega), l_m1]
    omega
theorem BI_in {s : ST} {n E L v : Nat} {S G : Nat → Nat} {W : Nat → Int} {q ed pa : Nat → Nat} (b : BI s n E S G W q ed pa L) (hE : E ≤ 624) (hv : v < n) : (∃ i, i < L ∧ q i = v) ↔ ¬ s.2.1 44 v = -1 := by
  constructor
  · rintro ⟨i, h1, h2⟩
    rw [← h2]
    exact BI_via b hE h1
  · intro h
    refine Classical.byContradiction (fun z => h (b.2.2.2.2.2.1 v hv (fun i hi e => z ⟨i, hi, e⟩)))
theorem BI_add {s : ST} {n E L e h : Nat} {S G : Nat → Nat} {W : Nat → Int} {q ed pa : Nat → Nat} (b : BI s n E S G W q ed pa L) (he : e < E) (hG : G e < n) (hh : h < L) (hS : S e = q h) (hW : 0 < W e) (nw : ∀ i, i < L → ¬ q i = G e) : BI (sA (sA s 44 (upd (s.2.1 44) (G e) (nI e))) 45 (upd (s.2.1 45) L (nI (G e)))) n E S G W (uf q L (G e)) (uf ed L e) (uf pa L h) (L + 1) := by
  obtain ⟨b1, b2, b3, b4, b5, b6, b7⟩ := b
  refine ⟨by omega, by rw [uf_n (by omega)]; exact b2, fun i hi => ?_, fun i j hi hj eq => ?_, ?_, fun v hv hn => ?_, fun i h0 hi => ?_⟩
  · show uf q L (G e) i < n ∧ upd (s.2.1 45) L (nI (G e)) i = nI (uf q L (G e) i)
    by_cases c : i = L
    · rw [c, uf_s, pk_us]; exact ⟨hG, rfl⟩
    · rw [uf_n c, pk_un c]; exact b3 i (by omega)
  · by_cases c : i = L <;> by_cases d : j = L
    · omega
    · rw [c, uf_s, uf_n d] at eq; exact absurd eq.symm (nw j (by omega))
    · rw [d, uf_s, uf_n c] at eq; exact absurd eq (nw i (by omega))
    · rw [uf_n c, uf_n d] at eq; exact b4 i j (by omega) (by omega) eq
  · show upd (s.2.1 44) (G e) (nI e) 0 = -2
    rw [pk_un (fun z => nw 0 b1 (by rw [b2]; exact z))]
    exact b5
  · show upd (s.2.1 44) (G e) (nI e) v = -1
    have h1 := hn L (by omega)
    rw [uf_s] at h1
    rw [pk_un (fun z => h1 z.symm)]
    refine b6 v hv (fun i hi => ?_)
    have := hn i (by omega)
    rw [uf_n (by omega)] at this
    exact this
  · show uf ed L e i < E ∧ uf pa L h i < i ∧ upd (s.2.1 44) (G e) (nI e) (uf q L (G e) i) = nI (uf ed L e i) ∧ G (uf ed L e i) = uf q L (G e) i ∧ S (uf ed L e i) = uf q L (G e) (uf pa L h i) ∧ 0 < W (uf ed L e i)
    by_cases c : i = L
    · rw [c, uf_s, uf_s, uf_s, pk_us, uf_n (show ¬ h = L by omega)]
      exact ⟨he, hh, rfl, rfl, hS, hW⟩
    · obtain ⟨c1, c2, c3, c4, c5, c6⟩ := b7 i h0 (by omega)
      rw [uf_n c, uf_n c, uf_n c, pk_un (nw i (by omega)), uf_n (show ¬ pa i = L by omega)]
      exact ⟨c1, c2, c3, c4, c5, c6⟩
/-- from the first h on nothing is left to be reached -/
def Clo (E : Nat) (S G : Nat → Nat) (W : Nat → Int) (q : Nat → Nat) (L h : Nat) : Prop := ∀ i, i < h → ∀ e, e < E → S e = q i → 0 < W e → ∃ j, j < L ∧ q j = G e
theorem l_48a {S0 : ST} {n E h u : Nat} {S G : Nat → Nat} {W : Nat → Int} {X : Int32 → Int32 → ST → Prop} {K : Int32 → ST → Prop} (hn : n ≤ 163) (hE : E ≤ 624) (hb : ∀ e, e < E → S e < n ∧ G e < n) (hX : ∀ s q ed pa L, Fr fqVi S0 s → HA s n E S G W → BI s n E S G W q ed pa L → h < L → Clo E S G W q L (h + 1) → X (nI L) (nI h) s) : ∀ (N c : Nat) (s : ST) (q ed pa : Nat → Nat) (L : Nat), c ≤ E → c < N → Fr fqVi S0 s → HA s n E S G W → BI s n E S G W q ed pa L → h < L → q h = u → Clo E S G W q L h → (∀ e, c ≤ e → e < E → S e = u → 0 < W e → ∃ j, j < L ∧ q j = G e) → w_48_L32 N (nI L) (nI h) (lsh S c u) s X K := by
  intro N
  induction N with
  | zero => intro c s q ed pa L _ z; omega
  | succ N ih =>
    intro c s q ed pa L hc hN f hA b hh hq cl dn
    have hL : L ≤ n := pigeon b.2.2.2.1 (fun i hi => (b.2.2.1 i hi).1)
    have e3 : s.1 3711 = nI E := hA.2.1
    have e3s : E < 1000000 → (s.1 3711 - 1).toInt = (E : Int) - 1 := fun z => by rw [e3]; exact nI_s1t z
    rw [w_48_L32]
    unfold w_51
    simp only [e_181, t_181, l_0, e3s (by omega)]
    rcases lsh_c (S := S) (v := u) c with ⟨h1, h2⟩ | ⟨e, h1, h2, h3, h4⟩
    · rw [h1, l_m1]
      refine br_t (fun z => absurd z.1 (by omega)) (hX s q ed pa L f hA b hh ?_)
      intro i hi e he hs hw
      by_cases z : i = h
      · rw [z, hq] at hs
        by_cases y : c ≤ e
        · exact dn e y he hs hw
        · exact absurd hs (h2 e (by omega))
      · exact cl i (by omega) e he hs hw
    · obtain ⟨g1, g2, g3⟩ := hA.2.2.1 e (by omega)
      obtain ⟨be1, be2⟩ := hb e (by omega)
      rw [h2, nI_toInt (show e < 2 ^ 31 by omega), nI_clamp (show e < 2 ^ 31 by omega), g1, nI_clamp (show G e < 2 ^ 31 by omega), g3, h3]
      have pe : pin (nI e) 624 = true := pin_nI (by omega) (by omega)
      have pG : pin (nI (G e)) 163 = true := pin_nI (by omega) (by omega)
      have nx : (if lsh S e u < nI e - 1 then lsh S e u else nI e - 1) = lsh S e u := by
        by_cases z : lsh S e u < nI e - 1
        · exact if_pos z
        · rw [if_neg z]
          rw [i_lt, nI_s1t (by omega)] at z
          rw [i_eq, nI_s1t (by omega)]
          rcases lsh_c (S := S) (v := u) e with ⟨y1, _⟩ | ⟨e0, y0, y1, _⟩
          · rw [y1, l_m1] at z ⊢; omega
          · rw [y1, nI_toInt (by omega)] at z ⊢; omega
      rw [nx]
      refine br_f (fun z => z ⟨by omega, by omega⟩) ⟨pe, pe, ?_⟩
      have skip : (0 < W e → ∃ j, j < L ∧ q j = G e) → w_48_L32 N (nI L) (nI h) (lsh S e u) s X K := by
        intro z
        refine ih e s q ed pa L (by omega) (by omega) f hA b hh hq cl ?_
        intro e1 a1 a2 a3 a4
        by_cases y : e1 = e
        · rw [y]; exact z (by rw [← y]; exact a4)
        · by_cases w : c ≤ e1
          · exact dn e1 w a2 a3 a4
          · exact absurd a3 (h4 e1 (by omega) (by omega))
      by_cases c1 : s.2.1 43 e ≤ 0
      · refine br_t c1 ⟨pe, skip (fun z => ?_)⟩
        rw [i_le, g2, l_0] at c1
        omega
      refine br_f c1 ⟨pG, ?_⟩
      have hw : 0 < W e := by
        rw [i_le, g2, l_0] at c1
        omega
      by_cases c2 : s.2.1 44 (G e) = -1
      · refine br_f (fun z => z c2) ?_
        have nw : ∀ i, i < L → ¬ q i = G e := fun i hi z => BI_via b hE hi (by rw [z]; exact c2)
        have b2 := BI_add b (by omega) be2 hh (h3.trans hq.symm) hw nw
        have hL2 : L + 1 ≤ n := pigeon b2.2.2.2.1 (fun i hi => (b2.2.2.1 i hi).1)
        refine br_f (by rw [show (163 : Int32) = nI 163 from rfl, nI_leI (by omega) (by omega)]; omega) ⟨pG, pin_nI (by omega) (by omega), pe, ?_⟩
        rw [nI_clamp (show L < 2 ^ 31 by omega), nI_1]
        have fs : Fr fqVi s (sA (sA s 44 (upd (s.2.1 44) (G e) (nI e))) 45 (upd (s.2.1 45) L (nI (G e)))) := fr_sA 45 (fr_sA 44 (fr_rfl _ _))
        refine ih e _ _ _ _ (L + 1) (by omega) (by omega) (fr_tr (F := fqVi) rfl f fs) (HA_fr fs hA) b2 (by omega) (by rw [uf_n (by omega)]; exact hq) ?_ ?_
        · intro i hi e1 a1 a2 a3
          rw [uf_n (by omega)] at a2
          obtain ⟨j, j1, j2⟩ := cl i hi e1 a1 a2 a3
          exact ⟨j, by omega, by rw [uf_n (by omega)]; exact j2⟩
        · intro e1 a1 a2 a3 a4
          by_cases y : e1 = e
          · exact ⟨L, by omega, by rw [uf_s, y]⟩
          · by_cases w : c ≤ e1
            · obtain ⟨j, j1, j2⟩ := dn e1 w a2 a3 a4
              exact ⟨j, by omega, by rw [uf_n (by omega)]; exact j2⟩
            · exact absurd a3 (h4 e1 (by omega) (by omega))
      · exact br_t c2 ⟨pe, skip (fun _ => (BI_in b hE be2).mpr c2)⟩
theorem l_48b {S0 : ST} {n E : Nat} {S G : Nat → Nat} {W : Nat → Int} {X : ST → Prop} {K : Int32 → ST → Prop} (hn : n ≤ 163) (hE : E ≤ 624) (hb : ∀ e, e < E → S e < n ∧ G e < n) (hX : ∀ s q ed pa L, Fr fqVi S0 s → HA s n E S G W → BI s n E S G W q ed pa L → Clo E S G W q L L → X s) : ∀ (N h : Nat) (s : ST) (q ed pa : Nat → Nat) (L : Nat), h ≤ L → 163 - h < N → Fr fqVi S0 s → HA s n E S G W → BI s n E S G W q ed pa L → Clo E S G W q L h → w_48_L18 N (nI L) (nI h) s X K := by
  intro N
  induction N with
  | zero => intro h s q ed pa L _ z; omega
  | succ N ih =>
    intro h s q ed pa L hh hN f hA b cl
    have hL : L ≤ n := pigeon b.2.2.2.1 (fun i hi => (b.2.2.1 i hi).1)
    rw [w_48_L18, nI_leI (by omega) (by omega)]
    by_cases c : L ≤ h
    · have e : h = L := by omega
      rw [e] at cl
      exact br_t c (hX s q ed pa L f hA b cl)
    obtain ⟨b1, b2⟩ := b.2.2.1 h (by omega)
    refine br_f c (br_f (by rw [show (163 : Int32) = nI 163 from rfl, nI_leI (by omega) (by omega)]; omega) ⟨pin_nI (by omega) (by omega), ?_⟩)
    rw [nI_clamp (show h < 2 ^ 31 by omega), b2, nI_clamp (show q h < 2 ^ 31 by omega), hA.2.2.2 (q h) b1]
    refine ⟨pin_nI (by omega) (by omega), E + 1, ?_⟩
    refine l_48a (S0 := S0) (u := q h) hn hE hb ?_ (E + 1) E s q ed pa L (by omega) (by omega) f hA b (by omega) rfl cl (fun e h1 h2 => absurd h2 (by omega))
    intro s1 q1 ed1 pa1 L1 f1 hA1 b1 hh1 cl1
    rw [nI_1]
    have hL1 : L1 ≤ n := pigeon b1.2.2.2.1 (fun i hi => (b1.2.2.1 i hi).1)
    exact ih (h + 1) s1 q1 ed1 pa1 L1 (by omega) (by omega) f1 hA1 b1 cl1
theorem l_302v {D : ST} {X K : ST → Prop} (hX : ∀ s, Fr fqVi D s → (∀ i, i < 163 → s.2.1 44 i = -1) → X s) : ∀ n k s, k ≤ 163 → 163 - k < n → Fr fqVi D s → (∀ i, i < k → s.2.1 44 i = -1) → w_302_R44_L5 n (-1) (nI k) (Int32.ofNat 163) s X K := by
  intro n
  induction n with
  | zero => intro k s _ z; omega
  | succ n ih =>
    intro k s hk hn f hs
    have e20 : Int32.ofNat 163 = nI 163 := rfl
    rw [w_302_R44_L5]
    rw [e20, nI_leI (by omega) (by omega)]
    by_cases c : 163 ≤ k
    · exact br_t c (hX s f (fun i hi => hs i (by omega)))
    refine br_f c ⟨pin_nI (by omega) (by omega), ?_⟩
    rw [nI_clamp (by omega), nI_1]
    refine ih (k + 1) _ (by omega) (by omega) (fr_sA 44 f) ?_
    intro i hi
    show upd (s.2.1 44) k (-1) i = -1
    by_cases e : i = k
    · subst e; exact pk_us
    · rw [pk_un e]; exact hs i (by omega)
theorem mp_48 {s : ST} {n E : Nat} {S G : Nat → Nat} {W : Nat → Int} {K : Int32 → ST → Prop} (hA : HA s n E S G W) (hn2 : 2 ≤ n) (hn : n ≤ 163) (hE : E ≤ 624) (hb : ∀ e, e < E → S e < n ∧ G e < n) (k0 : ∀ s1 q ed pa L, Fr fqVi s s1 → HA s1 n E S G W → BI s1 n E S G W q ed pa L → Clo E S G W q L L → (∀ i, i < L → ¬ q i = 1) → K 0 s1) (k1 : ∀ s1 q ed pa L i, Fr fqVi s s1 → HA s1 n E S G W → BI s1 n E S G W q ed pa L → i < L → q i = 1 → K 1 s1) : w_48 s K := by
  unfold w_48
  refine ⟨164, l_302v (D := s) ?_ 164 0 s (by omega) (by omega) (fr_rfl _ _) (fun i hi => absurd hi (by omega))⟩
  intro s1 f1 h1
  refine ⟨rfl, rfl, 164, ?_⟩
  have fs : Fr fqVi s (sA (sA s1 44 (upd (s1.2.1 44) 0 (-2))) 45 (upd (s1.2.1 45) 0 0)) := fr_sA 45 (fr_sA 44 f1)
  refine l_48b (S0 := s) (n := n) (E := E) (S := S) (G := G) (W := W) hn hE hb ?_ 164 0 _ (fun _ => 0) (fun _ => 0) (fun _ => 0) 1 (by omega) (by omega) fs (HA_fr fs hA) ?_ (fun i hi => absurd hi (by omega))
  · intro s4 q ed pa L f4 hA4 b4 cl4
    refine ⟨rfl, ?_⟩
    show ((s4.2.1 44 1 = -1 → K 0 s4) ∧ (¬ s4.2.1 44 1 = -1 → K 1 s4))
    by_cases c : s4.2.1 44 1 = -1
    · refine br_t c (k0 s4 q ed pa L f4 hA4 b4 cl4 (fun i hi z => ?_))
      exact BI_via b4 hE hi (by rw [z]; exact c)
    · obtain ⟨i, h1, h2⟩ := (BI_in b4 hE (show 1 < n by omega)).mpr c
      exact br_f c (k1 s4 q ed pa L i f4 hA4 b4 h1 h2)
  · refine ⟨by omega, rfl, fun i hi => ⟨by show 0 < n; omega, ?_⟩, fun i j hi hj _ => by omega, ?_, fun v hv hn0 => ?_, fun i h0 hi => absurd hi (by omega)⟩
    · show upd (s1.2.1 45) 0 0 i = nI 0
      rw [show i = 0 by omega, pk_us]
      rfl
    · show upd (s1.2.1 44) 0 (-2) 0 = -2
      exact pk_us
    · show upd (s1.2.1 44) 0 (-2) v = -1
      have := hn0 0 (by omega)
      rw [pk_un (fun z => this z.symm)]
      exact h1 v (by omega)
