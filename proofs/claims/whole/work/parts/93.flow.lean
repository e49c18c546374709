/-! ===== the reference's net: its edges, its rows ===== -/
abbrev fqRB : FS := ([5557, 5558], [96, 97, 98, 99, 101, 102], [], false, false)
abbrev fqRE : FS := ([5558], [96, 97, 98, 99], [], false, false)
abbrev fqRN : FS := ([5557], [], [], false, false)
def EB (s : ST) (n m : Nat) (F T : Nat → Nat) (C p : Nat → Int) : Prop := s.1 5557 = nI n ∧ s.1 5558 = nI m ∧ (∀ k, k < m → s.2.1 96 k = nI (F k) ∧ s.2.1 97 k = nI (T k) ∧ (s.2.1 98 k).toInt = C k ∧ (s.2.1 99 k).toInt = p k)
def NB (s : ST) (H : Nat) (nd : Nat → Nat) (hs : Nat → Int) (n m : Nat) (F T : Nat → Nat) (C : Nat → Int) : Prop := EB s n m F T C (fun _ => 0) ∧ (∀ h, h < H → s.2.1 101 h = nI (nd h) ∧ (s.2.1 102 h).toInt = hs h) ∧ (∀ k, k < m → F k < n ∧ T k < n ∧ 0 ≤ C k ∧ C k ≤ 1000000000)
theorem mp_246 {s : ST} {H n m f t : Nat} {nd F T : Nat → Nat} {hs C : Nat → Int} {c : Int32} {K : ST → Prop} (h : NB s H nd hs n m F T C) (hm : m < 700) (hf : f < n) (ht : t < n) (hc : 0 ≤ c.toInt ∧ c.toInt ≤ 1000000000) (k : ∀ s1, Fr fqRE s s1 → NB s1 H nd hs n (m + 1) (uf F m f) (uf T m t) (uf C m c.toInt) → K s1) : w_246 (nI f) (nI t) c s K := by
  obtain ⟨⟨h1, h2, h3⟩, hN, hE⟩ := h
  unfold w_246
  rw [h2, nI_clamp (show m < 2 ^ 31 by omega), nI_1]
  have pm : pin (nI m) 700 = true := pin_nI hm (by omega)
  refine ⟨pm, pm, pm, pm, k _ (fr_sA 99 (fr_sA 98 (fr_sA 97 (fr_sA 96 (fr_sI 5558 (fr_rfl _ _)))))) ⟨⟨h1, rfl, fun j hj => ?_⟩, hN, fun j hj => ?_⟩⟩
  · show upd (s.2.1 96) m (nI f) j = nI (uf F m f j) ∧ upd (s.2.1 97) m (nI t) j = nI (uf T m t j) ∧ (upd (s.2.1 98) m c j).toInt = uf C m c.toInt j ∧ (upd (s.2.1 99) m 0 j).toInt = 0
    by_cases z : j = m
    · subst z
      rw [pk_us, pk_us, pk_us, pk_us, uf_s, uf_s, uf_s]
      exact ⟨rfl, rfl, rfl, rfl⟩
    · rw [pk_un z, pk_un z, pk_un z, pk_un z, uf_n z, uf_n z, uf_n z]
      exact h3 j (by omega)
  · by_cases z : j = m
    · rw [z, uf_s, uf_s, uf_s]; exact ⟨hf, ht, hc⟩
    · rw [uf_n z, uf_n z, uf_n z]; exact hE j (by omega)
theorem mp_247 {s : ST} {H n m : Nat} {nd F T : Nat → Nat} {hs C : Nat → Int} {K : Int32 → ST → Prop} (h : NB s H nd hs n m F T C) (k : ∀ s1, Fr fqRN s s1 → NB s1 H nd hs (n + 1) m F T C → K (nI n) s1) : w_247 s K := by
  obtain ⟨⟨h1, h2, h3⟩, hN, hE⟩ := h
  unfold w_247
  rw [h1, t_a1s, nI_1]
  exact k _ (fr_sI 5557 (fr_rfl _ _)) ⟨⟨rfl, h2, h3⟩, hN, fun j hj => by have := hE j hj; omega⟩
theorem NB_has {s : ST} {H n m g : Nat} {nd F T : Nat → Nat} {hs C : Nat → Int} {x : Int32} (h : NB s H nd hs n m F T C) : NB (sA s 102 (upd (s.2.1 102) g x)) H nd (uf hs g x.toInt) n m F T C := by
  obtain ⟨hA, hN, hE⟩ := h
  refine ⟨hA, fun f hf => ⟨(hN f hf).1, ?_⟩, hE⟩
  show (upd (s.2.1 102) g x f).toInt = _
  by_cases z : f = g
  · rw [z, pk_us, uf_s]
  · rw [pk_un z, uf_n z]; exact (hN f hf).2
theorem NB_lat {s : ST} {H n m g y : Nat} {nd F T : Nat → Nat} {hs C : Nat → Int} (h : NB s H nd hs n m F T C) : NB (sA s 101 (upd (s.2.1 101) g (nI y))) H (uf nd g y) hs n m F T C := by
  obtain ⟨hA, hN, hE⟩ := h
  refine ⟨hA, fun f hf => ⟨?_, (hN f hf).2⟩, hE⟩
  show upd (s.2.1 101) g (nI y) f = _
  by_cases z : f = g
  · rw [z, pk_us, uf_s]
  · rw [pk_un z, uf_n z]; exact (hN f hf).1
theorem uf_lt {H g n : Nat} {nd : Nat → Nat} (hd : ∀ f, f < H → nd f < n) (f : Nat) (hf : f < H) : uf nd g n f < n + 1 := by
  have := hd f hf
  by_cases z : f = g
  · rw [z, uf_s]; omega
  · rw [uf_n z]; omega
theorem uf_rng {H g : Nat} {hs : Nat → Int} {B x : Int} (hb : ∀ f, f < H → 0 ≤ hs f ∧ hs f ≤ B) (hx : 0 ≤ x ∧ x ≤ B) (f : Nat) (hf : f < H) : 0 ≤ uf hs g x f ∧ uf hs g x f ≤ B := by
  by_cases z : f = g
  · rw [z, uf_s]; exact hx
  · rw [uf_n z]; exact hb f hf
theorem t248 {D s : ST} {t v : Int32} {x g n m : Nat} {nd F T : Nat → Nat} {hs C : Nat → Int} {B : Int} {Y : ST → Prop} (hB : Bk D) (fD : Fr fsS D s) (hx : x < nR D) (hk : kp D t x = true) (e73 : s.2.1 73 x = smI D t x) (h : NB s (nH D) nd hs n m F T C) (hn1 : 1 ≤ n) (hm : m + 3 ≤ 700) (hd : ∀ g, g < nH D → nd g < n) (hb : ∀ g, g < nH D → 0 ≤ hs g ∧ hs g ≤ B) (hBB : B ≤ 800000000) (k12 : D.2.1 57 x = 1 ∨ D.2.1 57 x = 2) (hg : g < nH D) (eg : D.2.1 58 x = nI g) (hv : (v - smI D t x).toInt = rs (hs g) (smI D t x).toInt) (k : ∀ s1 nd1 hs1 n1 m1 F1 T1 C1, Fr fqRB s s1 → NB s1 (nH D) nd1 hs1 n1 m1 F1 T1 C1 → n ≤ n1 → n1 ≤ n + 2 → m ≤ m1 → m1 ≤ m + 3 → (∀ g, g < nH D → nd1 g < n1) → (∀ g, g < nH D → 0 ≤ hs1 g ∧ hs1 g ≤ B + 1000000) → AgE m F T C F1 T1 C1 → (∀ (F' T' : Nat → Nat) (C' : Nat → Int) Q R, AgE m1 F1 T1 C1 F' T' C' → BB F' T' C' Q R nd1 hs1 n1 m1 → BB F' T' C' Q (rwD D t x :: R) nd hs n m) → Y s1) : w_247 s (fun r5 s4 => (pin (nI g) 10 = true ∧ (pin (nI g) 10 = true ∧ (pin (nI x) 150 = true ∧ w_246 ((s.2.1 101) g) ((upd (s4.2.1 101) g r5) g) (v - ((s4.2.1 73) x)) (sA s4 101 (upd (s4.2.1 101) g r5)) (fun s6 => (pin (nI x) 150 = true ∧ (pin (nI g) 10 = true ∧ (pin (nI x) 150 = true ∧ ((¬ ((s6.2.1 57) x) = (1 : Int32) → (pin (nI x) 150 = true ∧ (pin ((s6.2.1 59) x) 10 = true ∧ w_247 (sA s6 102 (upd (s6.2.1 102) g (v - ((s6.2.1 73) x)))) (fun r9 s8 => (pin ((s6.2.1 59) x) 10 = true ∧ (pin ((s6.2.1 59) x) 10 = true ∧ (pin ((s6.2.1 59) x) 10 = true ∧ w_246 ((s6.2.1 101) (((s6.2.1 59) x)).toNatClampNeg) ((upd (s8.2.1 101) (((s6.2.1 59) x)).toNatClampNeg r9) (((s6.2.1 59) x)).toNatClampNeg) ((s8.2.1 102) (((s6.2.1 59) x)).toNatClampNeg) (sA s8 101 (upd (s8.2.1 101) (((s6.2.1 59) x)).toNatClampNeg r9)) (fun s10 => (pin ((s6.2.1 59) x) 10 = true ∧ (pin (nI x) 150 = true ∧ w_246 ((s.2.1 101) g) ((s10.2.1 101) (((s6.2.1 59) x)).toNatClampNeg) ((s10.2.1 73) x) s10 (fun s12 => (pin ((s6.2.1 59) x) 10 = true ∧ (pin (nI x) 150 = true ∧ (pin ((s6.2.1 59) x) 10 = true ∧ Y (sA s12 102 (upd (s12.2.1 102) (((s6.2.1 59) x)).toNatClampNeg (((s12.2.1 102) (((s6.2.1 59) x)).toNatClampNeg) + ((s12.2.1 73) x)))))))))))))))))) ∧ (¬ (¬ ((s6.2.1 57) x) = (1 : Int32)) → (pin (nI x) 150 = true ∧ w_246 ((s.2.1 101) g) (0 : Int32) ((s6.2.1 73) x) (sA s6 102 (upd (s6.2.1 102) g (v - ((s6.2.1 73) x)))) (fun s14 => Y s14)))))))))))) := by
  have hR := (bkR hB).2.2
  have hH10 := (bkH10 hB).2.2.1
  have ok := (hB.2.2.1.2.2.2 x hx).2
  unfold Rok at ok
  obtain ⟨o1, o2, o3, o4, o5, _, _⟩ := ok
  have hH : nH D = (D.1 5501).toInt.toNat := rfl
  have sr := smI_rng hB (t := t) hx
  have rv := rwD_ok hB hx hk
  have rc := rs_c (a := hs g) (s := (smI D t x).toInt)
  have bg := hb g hg
  have dg := hd g hg
  have hrw : rwD D t x = ((D.2.1 57 x).toNatClampNeg, g, (D.2.1 59 x).toNatClampNeg, (smI D t x).toInt) := by
    unfold rwD; rw [eg, nI_clamp (show g < 2 ^ 31 by omega)]
  have px : pin (nI x) 150 = true := pin_nI (by omega) (by omega)
  have pg : pin (nI g) 10 = true := pin_nI (by omega) (by omega)
  refine mp_247 h ?_
  intro s1 f1 h1
  refine ⟨pg, pg, px, ?_⟩
  rw [(h.2.1 g hg).1, pk_us, f1.2.1 73 rfl, e73]
  have h2 := NB_lat (g := g) (y := n) h1
  refine mp_246 h2 (by omega) (f := nd g) (t := n) (by omega) (by omega) (by rw [hv]; omega) ?_
  intro s2 f2 h3
  rw [hv] at h3
  have F2 : Fr fqRB s s2 := fr_tr (F := fqRE) rfl (fr_sA 101 (fr_weak rfl f1)) f2
  have e57 : s2.2.1 57 x = D.2.1 57 x := by rw [F2.2.1 57 rfl, fD.2.1 57 rfl]
  have e59 : s2.2.1 59 x = D.2.1 59 x := by rw [F2.2.1 59 rfl, fD.2.1 59 rfl]
  have e73b : s2.2.1 73 x = smI D t x := by rw [F2.2.1 73 rfl, e73]
  rw [e57, e59, e73b]
  have h4 := NB_has (g := g) (x := v - smI D t x) h3
  rw [hv] at h4
  have F4 : Fr fqRB s (sA s2 102 (upd (s2.2.1 102) g (v - smI D t x))) := fr_sA 102 F2
  refine ⟨px, pg, px, ?_⟩
  by_cases k1 : D.2.1 57 x = 1
  · refine br_f (fun z => z k1) ⟨px, ?_⟩
    refine mp_246 h4 (by omega) (f := nd g) (t := 0) (by omega) (by omega) (by omega) ?_
    intro s3 f3 h5
    refine k s3 _ _ _ _ _ _ _ (fr_tr (F := fqRE) rfl F4 f3) h5 (by omega) (by omega) (by omega) (by omega) (uf_lt hd) ?_ (AgE_tr (by omega) AgE_up AgE_up) ?_
    · exact uf_rng (fun f hf => by have := hb f hf; omega) (by omega)
    · intro F' T' C' Q R ag hb2
      obtain ⟨q1, q2, q3⟩ := ag m (by omega)
      obtain ⟨q4, q5, q6⟩ := ag (m + 1) (by omega)
      rw [uf_n (by omega), uf_s] at q1 q2 q3
      rw [uf_s] at q4 q5 q6
      rw [hrw, k1]
      exact ⟨q1, q2, q3, q4, q5, q6, hb2⟩
  · refine br_t k1 ⟨px, ?_⟩
    have k2 : D.2.1 57 x = 2 := k12.resolve_left k1
    have oo := o5 (by rw [k2]; rfl)
    obtain ⟨o, ho, eo⟩ := of_rng (n := nH D) oo.1 (by omega)
    have hog : ¬ o = g := by
      intro z
      have := oo.2.2
      rw [eo, eg, z] at this
      exact this rfl
    rw [eo, nI_clamp (show o < 2 ^ 31 by omega)]
    have po : pin (nI o) 10 = true := pin_nI (by omega) (by omega)
    have bo := hb o ho
    have dgo := hd o ho
    refine ⟨po, mp_247 h4 ?_⟩
    intro s3 f3 h5
    have F5 : Fr fqRB s s3 := fr_tr (F := fqRN) rfl F4 f3
    have e101o : s2.2.1 101 o = nI (nd o) := by
      have := (h3.2.1 o ho).1
      rw [uf_n hog] at this
      exact this
    have e102o : (s3.2.1 102 o).toInt = hs o := by
      have := (h5.2.1 o ho).2
      rw [uf_n hog] at this
      exact this
    refine ⟨po, po, po, ?_⟩
    rw [e101o, pk_us]
    have h6 := NB_lat (g := o) (y := n + 1) h5
    refine mp_246 h6 (by omega) (f := nd o) (t := n + 1) (by omega) (by omega) (by rw [e102o]; omega) ?_
    intro s4 f4 h7
    rw [e102o] at h7
    have F6 : Fr fqRB s s4 := fr_tr (F := fqRE) rfl (fr_sA 101 F5) f4
    refine ⟨po, px, ?_⟩
    have e101b : s4.2.1 101 o = nI (n + 1) := by
      have := (h7.2.1 o ho).1
      rw [uf_s] at this
      exact this
    rw [e101b, F6.2.1 73 rfl, e73]
    refine mp_246 h7 (by omega) (f := nd g) (t := n + 1) (by omega) (by omega) (by omega) ?_
    intro s5 f5 h8
    have F7 : Fr fqRB s s5 := fr_tr (F := fqRE) rfl F6 f5
    refine ⟨po, px, po, ?_⟩
    have e102c : (s5.2.1 102 o).toInt = hs o := by
      have := (h8.2.1 o ho).2
      rw [uf_n hog] at this
      exact this
    rw [F7.2.1 73 rfl, e73]
    have ex : (s5.2.1 102 o + smI D t x).toInt = hs o + (smI D t x).toInt := by rw [t_add] <;> rw [e102c] <;> omega
    have h9 := NB_has (g := o) (x := s5.2.1 102 o + smI D t x) h8
    rw [ex] at h9
    refine k _ _ _ _ _ _ _ _ (fr_sA 102 F7) h9 (by omega) (by omega) (by omega) (by omega) (uf_lt (uf_lt hd)) ?_ (AgE_tr (by omega) AgE_up (AgE_tr (by omega) AgE_up AgE_up)) ?_
    · exact uf_rng (uf_rng (fun f hf => by have := hb f hf; omega) (by omega)) (by omega)
    · intro F' T' C' Q R ag hb2
      obtain ⟨q1, q2, q3⟩ := ag m (by omega)
      obtain ⟨q4, q5, q6⟩ := ag (m + 1) (by omega)
      obtain ⟨q7, q8, q9⟩ := ag (m + 1 + 1) (by omega)
      rw [uf_n (by omega), uf_n (by omega), uf_s] at q1 q2 q3
      rw [uf_n (by omega), uf_s] at q4 q5 q6
      rw [uf_s] at q7 q8 q9
      rw [hrw, k2, eo, nI_clamp (show o < 2 ^ 31 by omega)]
      exact ⟨q1, q2, q3, q4, q5, q6, q7, q8, q9, hb2⟩
theorem l_248r {D S0 : ST} {t : Int32} {X K : ST → Prop} (hB : Bk D) (fD0 : Fr fsS D S0) : ∀ (N k : Nat) (s : ST) (nd : Nat → Nat) (hs : Nat → Int) (n m : Nat) (F T : Nat → Nat) (C : Nat → Int) (B : Int), k ≤ (kL D t).length → (kL D t).length - k < N → Fr fqRB S0 s → RW D t s → NB s (nH D) nd hs n m F T C → 1 ≤ n → m + 3 * ((kL D t).length - k) ≤ 650 → (∀ g, g < nH D → nd g < n) → (∀ g, g < nH D → 0 ≤ hs g ∧ hs g ≤ B) → B + 1000000 * (((kL D t).length - k : Nat) : Int) ≤ 800000000 → (∀ s1 nd1 hs1 n1 m1 F1 T1 C1, Fr fqRB S0 s1 → NB s1 (nH D) nd1 hs1 n1 m1 F1 T1 C1 → n ≤ n1 → n1 ≤ n + 2 * ((kL D t).length - k) → m ≤ m1 → m1 ≤ m + 3 * ((kL D t).length - k) → (∀ g, g < nH D → nd1 g < n1) → (∀ g, g < nH D → 0 ≤ hs1 g ∧ hs1 g ≤ 800000000) → AgE m F T C F1 T1 C1 → (∀ (F' T' : Nat → Nat) (C' : Nat → Int) Q, AgE m1 F1 T1 C1 F' T' C' → Q nd1 hs1 n1 m1 → BB F' T' C' Q (((kL D t).drop k).map (rwD D t)) nd hs n m) → X s1) → w_248_L30 N (nI k) s X K := by
  have h150 := kL_150 hB (t := t)
  have hR := (bkR hB).2.2
  have hH10 := (bkH10 hB).2.2.1
  intro N
  induction N with
  | zero => intro k s nd hs n m F T C B _ z; omega
  | succ N ih =>
    intro k s nd hs n m F T C B hk hN f0 r h hn1 hm hd hb hBB hX
    rw [w_248_L30, r.1, nI_leI (by omega) (by omega)]
    by_cases c : (kL D t).length ≤ k
    · refine br_t c (hX s nd hs n m F T C f0 h (by omega) (by omega) (by omega) (by omega) hd (fun g hg => by have := hb g hg; omega) AgE_rf ?_)
      intro F' T' C' Q ag q
      rw [List.drop_of_length_le c]
      exact q
    have hkl : k < (kL D t).length := by omega
    obtain ⟨hx, hkp⟩ := kL_lt hB hkl
    have fD : Fr fsS D s := fr_tr (F := fqRB) rfl fD0 f0
    have ok := (hB.2.2.1.2.2.2 _ hx).2
    unfold Rok at ok
    obtain ⟨o1, o2, o3, o4, o5, _, _⟩ := ok
    have hH : nH D = (D.1 5501).toInt.toNat := rfl
    obtain ⟨g, hg, eg⟩ := of_rng (n := nH D) o3 (by omega)
    have e73 : s.2.1 73 (kL D t)[k] = smI D t (kL D t)[k] := r.2.2.1 _ hx
    have sr := smI_rng hB (t := t) hx
    have rc := rs_c (a := hs g) (s := (smI D t (kL D t)[k]).toInt)
    have n2 := (h.2.1 g hg).2
    have bg := hb g hg
    have pk : pin (nI k) 150 = true := pin_nI (by omega) (by omega)
    have px : pin (nI (kL D t)[k]) 150 = true := pin_nI (by omega) (by omega)
    have pg : pin (nI g) 10 = true := pin_nI (by omega) (by omega)
    rw [nI_clamp (show k < 2 ^ 31 by omega), r.2.1 k hkl, nI_1, nI_clamp (show (kL D t)[k] < 2 ^ 31 by omega), fD.2.1 57 rfl, fD.2.1 58 rfl, eg, nI_clamp (show g < 2 ^ 31 by omega)]
    have go : ∀ s1 nd1 hs1 n1 m1 F1 T1 C1, Fr fqRB s s1 → NB s1 (nH D) nd1 hs1 n1 m1 F1 T1 C1 → n ≤ n1 → n1 ≤ n + 2 → m ≤ m1 → m1 ≤ m + 3 → (∀ g, g < nH D → nd1 g < n1) → (∀ g, g < nH D → 0 ≤ hs1 g ∧ hs1 g ≤ B + 1000000) → AgE m F T C F1 T1 C1 → (∀ (F' T' : Nat → Nat) (C' : Nat → Int) Q R, AgE m1 F1 T1 C1 F' T' C' → BB F' T' C' Q R nd1 hs1 n1 m1 → BB F' T' C' Q (rwD D t (kL D t)[k] :: R) nd hs n m) → w_248_L30 N (nI (k + 1)) s1 X K := by
      intro s1 nd1 hs1 n1 m1 F1 T1 C1 f1 h1 a1 a2 a3 a4 d1 b1 ag1 bb1
      refine ih (k + 1) s1 nd1 hs1 n1 m1 F1 T1 C1 (B + 1000000) (by omega) (by omega) (fr_tr (F := fqRB) rfl f0 f1) (RW_g f1 r) h1 (by omega) (by omega) d1 b1 (by omega) ?_
      intro s2 nd2 hs2 n2 m2 F2 T2 C2 f2 h2 z1 z2 z3 z4 d2 b2 ag2 bb2
      refine hX s2 nd2 hs2 n2 m2 F2 T2 C2 f2 h2 (by omega) (by omega) (by omega) (by omega) d2 b2 (AgE_tr a3 ag1 ag2) ?_
      intro F' T' C' Q ag q
      rw [List.drop_eq_getElem_cons hkl, List.map_cons]
      exact bb1 F' T' C' Q _ (AgE_tr z3 ag2 ag) (bb2 F' T' C' Q ag q)
    have hrw : rwD D t (kL D t)[k] = ((D.2.1 57 (kL D t)[k]).toNatClampNeg, g, (D.2.1 59 (kL D t)[k]).toNatClampNeg, (smI D t (kL D t)[k]).toInt) := by
      unfold rwD; rw [eg, nI_clamp (show g < 2 ^ 31 by omega)]
    refine br_f c ⟨pk, px, px, ?_⟩
    by_cases k3 : D.2.1 57 (kL D t)[k] = 3
    · refine br_f (fun z => z k3) (go s nd hs n m F T C (fr_rfl _ _) h (by omega) (by omega) (by omega) (by omega) hd (fun f hf => by have := hb f hf; omega) AgE_rf ?_)
      intro F' T' C' Q R ag hb2
      rw [hrw, k3]
      exact hb2
    refine br_t k3 ⟨px, ?_⟩
    by_cases k0 : D.2.1 57 (kL D t)[k] = 0
    · refine br_f (fun z => z k0) ⟨pg, px, pg, ?_⟩
      have ex : (s.2.1 102 g + s.2.1 73 (kL D t)[k]).toInt = hs g + (smI D t (kL D t)[k]).toInt := by rw [e73, t_add] <;> rw [n2] <;> omega
      have h2 := NB_has (g := g) (x := s.2.1 102 g + s.2.1 73 (kL D t)[k]) h
      rw [ex] at h2
      refine go _ nd _ n m F T C (fr_sA 102 (fr_rfl _ _)) h2 (by omega) (by omega) (by omega) (by omega) hd (uf_rng (fun f hf => by have := hb f hf; omega) (by omega)) AgE_rf ?_
      intro F' T' C' Q R ag hb2
      rw [hrw, k0]
      exact hb2
    refine br_t k0 ⟨pg, px, ?_⟩
    have k12 : D.2.1 57 (kL D t)[k] = 1 ∨ D.2.1 57 (kL D t)[k] = 2 := by
      have l2 : (2 : Int32).toInt = 2 := rfl
      have l3 : (3 : Int32).toInt = 3 := rfl
      rw [i_eq, l_0] at k0
      rw [i_eq, l3] at k3
      rw [i_eq, i_eq, l_1, l2]
      omega
    by_cases cl : s.2.1 73 (kL D t)[k] ≤ s.2.1 102 g
    · refine br_t cl ⟨pg, pg, t248 (v := s.2.1 102 g) hB fD hx hkp e73 h hn1 (by omega) hd hb (by omega) k12 hg eg ?_ go⟩
      rw [e73, i_le, n2] at cl
      rw [t_sub] <;> rw [n2] <;> omega
    · refine br_f cl ⟨px, pg, t248 (v := s.2.1 73 (kL D t)[k]) hB fD hx hkp e73 h hn1 (by omega) hd hb (by omega) k12 hg eg ?_ go⟩
      rw [e73, i_le, n2] at cl
      rw [e73, t_sub] <;> omega
theorem NB_more {s : ST} {j n m y : Nat} {nd F T : Nat → Nat} {hs C : Nat → Int} {x : Int32} (h : NB s j nd hs n m F T C) (ey : nd j = y) (ex : hs j = x.toInt) : NB (sA (sA s 101 (upd (s.2.1 101) j (nI y))) 102 (upd (s.2.1 102) j x)) (j + 1) nd hs n m F T C := by
  obtain ⟨hA, hN, hE⟩ := h
  refine ⟨hA, fun f hf => ?_, hE⟩
  show upd (s.2.1 101) j (nI y) f = _ ∧ (upd (s.2.1 102) j x f).toInt = _
  by_cases z : f = j
  · rw [z, pk_us, pk_us, ey, ex]; exact ⟨rfl, rfl⟩
  · rw [pk_un z, pk_un z]; exact hN f (by omega)
theorem l_248a {D S0 : ST} {F T : Nat → Nat} {C : Nat → Int} {X K : ST → Prop} (hB : Bk D) (f0 : Fr fsS D S0) (hX : ∀ s, Fr fqRB S0 s → NB s (nH D) (fun h => 1 + h) (h0D D) (1 + nH D) 0 F T C → X s) : ∀ (N j : Nat) (s : ST), j ≤ nH D → nH D - j < N → Fr fqRB S0 s → NB s j (fun h => 1 + h) (h0D D) (1 + j) 0 F T C → w_248_L8 N (nI j) s X K := by
  obtain ⟨e1, e2, e3, e4⟩ := bkH10 hB
  intro N
  induction N with
  | zero => intro j s _ z; omega
  | succ N ih =>
    intro j s hj hN f h
    rw [w_248_L8, f.1 5501 rfl, f0.1 5501 rfl, e2, nI_leI (by omega) (by omega)]
    by_cases c : nH D ≤ j
    · have : j = nH D := by omega
      rw [this] at h
      exact br_t c (hX s f h)
    refine br_f c (mp_247 h ?_)
    intro s1 f1 h1
    have pj : pin (nI j) 10 = true := pin_nI (by omega) (by omega)
    have g1 : Fr fqRB S0 s1 := fr_tr (F := fqRN) rfl f f1
    rw [nI_clamp (show j < 2 ^ 31 by omega), nI_1]
    refine ⟨pj, pj, pj, ih (j + 1) _ (by omega) (by omega) (fr_sA 102 (fr_sA 101 g1)) (NB_more h1 rfl ?_)⟩
    rw [g1.2.1 56 rfl, f0.2.1 56 rfl]
    rfl
theorem mp_248 {D s : ST} {t : Int32} {K : ST → Prop} (hB : Bk D) (f0 : Fr fsS D s) (r : RW D t s) (k : ∀ s1 nd1 hs1 n1 m1 F1 T1 C1, Fr fqRB s s1 → NB s1 (nH D) nd1 hs1 n1 m1 F1 T1 C1 → 1 + nH D ≤ n1 → n1 ≤ 311 → m1 ≤ 450 → (∀ g, g < nH D → nd1 g < n1) → (∀ g, g < nH D → 0 ≤ hs1 g ∧ hs1 g ≤ 800000000) → (∀ (F' T' : Nat → Nat) (C' : Nat → Int) Q, AgE m1 F1 T1 C1 F' T' C' → Q nd1 hs1 n1 m1 → BB F' T' C' Q ((kL D t).map (rwD D t)) (fun h => 1 + h) (h0D D) (1 + nH D) 0) → K s1) : w_248 s K := by
  obtain ⟨e1, e2, e3, e4⟩ := bkH10 hB
  have h150 := kL_150 hB (t := t)
  unfold w_248
  refine ⟨nH D + 1, l_248a (S0 := s) (F := fun _ => 0) (T := fun _ => 0) (C := fun _ => 0) hB f0 ?_ (nH D + 1) 0 _ (by omega) (by omega) (fr_sI 5558 (fr_sI 5557 (fr_rfl _ _))) ⟨⟨rfl, rfl, fun k hk => absurd hk (by omega)⟩, fun h hh => absurd hh (by omega), fun k hk => absurd hk (by omega)⟩⟩
  intro s1 f1 h1
  refine ⟨(kL D t).length + 1, l_248r (S0 := s) (t := t) hB f0 ((kL D t).length + 1) 0 s1 (fun h => 1 + h) (h0D D) (1 + nH D) 0 _ _ _ 1000000 (by omega) (by omega) f1 (RW_g f1 r) h1 (by omega) (by omega) (fun g hg => by show 1 + g < 1 + nH D; omega) (fun g hg => (e4 g hg).2) (by omega) ?_⟩
  intro s2 nd2 hs2 n2 m2 F2 T2 C2 f2 h2 z1 z2 z3 z4 d2 b2 ag2 bb2
  exact k s2 nd2 hs2 n2 m2 F2 T2 C2 f2 h2 z1 (by omega) (by omega) d2 b2 bb2
