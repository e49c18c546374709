/-! ===== the class's answer: its net, and the greatest flow in it ===== -/
theorem AgE_rf {m : Nat} {F T : Nat → Nat} {C : Nat → Int} : AgE m F T C F T C := fun _ _ => ⟨rfl, rfl, rfl⟩
theorem flA {H a MA : Nat} {sk : Nat → Bool} {ok : Bool} {FA TA : Nat → Nat} {CA h0 pA : Nat → Int} {va : Int} {R : List Rw} (hr : ∀ r, r ∈ R → Rv H r) (f0 : FA 0 = 0) (t0 : TA 0 = 3 + a) (hA : BA FA TA CA (fun nd _ _ m => SK H sk ok nd (fun _ => 1000000000) 2 1 FA TA CA MA H m) R (fun h => 3 + h) h0 (3 + H) 1) (bA : ∀ k, k < MA → 0 ≤ pA k ∧ pA k ≤ CA k) (qA : QF MA FA TA pA va 0 1) : 0 ≤ va ∧ va ≤ CA 0 := by
  have nkA : Nk H 3 (fun h => 3 + h) (3 + H) := ⟨by omega, fun h hh => by show 3 ≤ 3 + h ∧ 3 + h < 3 + H; omega, fun h g _ _ e => by have e : 3 + h = 3 + g := e; omega⟩
  have uA := BA_un (H := H) (u := 0) (M := MA) (by omega) (fun nd hs n m k hn hd h => SK_un (fun g hg _ => hd g hg) (fun _ => by omega) (by omega) H m (Nat.le_refl _) h) R _ _ _ _ hr nkA (by omega) (fun h _ => by show ¬ 3 + h = 0; omega) hA
  have e0 := xv_fin (u := 0) qA (by omega)
  have x1 : ∀ u, xv va 0 FA TA pA 1 u = va * dl u 0 + (0 + pA 0 * (dl u (3 + a) - dl u 0)) := fun u => by
    show va * dl u 0 + (0 + pA 0 * (dl u (TA 0) - dl u (FA 0))) = _
    rw [f0, t0]
  rw [xv_stay uA, x1 0, dl_s, dl_n (show ¬ 3 + a = 0 by omega)] at e0
  have ep : pA 0 = va := by omega
  have b0 := bA 0 (by omega)
  rw [ep] at b0
  exact b0
def FA1 (D : ST) (t : Int32) (a b : Nat) (mo : Bool) (v : Int) : Prop := ∃ (F T : Nat → Nat) (C : Nat → Int) (M : Nat), F 0 = 0 ∧ T 0 = 3 + a ∧ C 0 = h0D D a ∧ BA F T C (fun nd _ _ m => SK (nH D) (skB b mo) (!mo) nd (fun _ => 1000000000) 2 1 F T C M (nH D) m) ((kL D t).map (rwD D t)) (fun h => 3 + h) (h0D D) (3 + nH D) 1 ∧ Gf M F T C 0 1 (h0D D a) v
theorem rwD_all {D : ST} {t : Int32} (hB : Bk D) (r : Rw) (h : r ∈ (kL D t).map (rwD D t)) : Rv (nH D) r := by
  obtain ⟨x, hx, e⟩ := List.mem_map.mp h
  have hx := kLn_mem.mp hx
  rw [← e]
  exact rwD_ok hB hx.1 hx.2
theorem mp_40e {D s : ST} {t : Int32} {a b n M : Nat} {mo : Bool} {nd F T : Nat → Nat} {hs C : Nat → Int} {K : Int32 → ST → Prop} (hB : Bk D) (ha : a < nH D) (h : NA s (nH D) nd hs n M F T C) (hn3 : 3 ≤ n) (hn : n ≤ 163) (hM : 2 * M ≤ 624) (g1 : F 0 = 0) (g2 : T 0 = 3 + a) (g3 : C 0 = h0D D a) (g4 : BA F T C (fun nd _ _ m => SK (nH D) (skB b mo) (!mo) nd (fun _ => 1000000000) 2 1 F T C M (nH D) m) ((kL D t).map (rwD D t)) (fun h => 3 + h) (h0D D) (3 + nH D) 1) (k : ∀ s1 (v : Int32), Fr fqGr s s1 → FA1 D t a b mo v.toInt → 0 ≤ v.toInt → v.toInt ≤ h0D D a → K v s1) : w_47 s K := by
  obtain ⟨e1, e2, e3, e4⟩ := bkH10 hB
  have hha := (e4 a ha).2
  obtain ⟨hA, hN, hE⟩ := h
  have hm : ∀ p v, (∀ k, k < M → 0 ≤ p k ∧ p k ≤ C k) → QF M F T p v 0 1 → v ≤ h0D D a := by
    intro p v h1 h2
    have := flA (rwD_all hB) g1 g2 g4 h1 h2
    rw [g3] at this
    exact this.2
  refine mp_47 (V := h0D D a) hA (by omega) hn hM (fun k hk => ⟨(hE k hk).1, (hE k hk).2.1⟩) (fun k hk => (hE k hk).2.2) (by omega) hm ?_
  intro s1 v f1 gf v0
  refine k s1 v f1 ⟨F, T, C, M, g1, g2, g3, g4, gf⟩ v0 ?_
  obtain ⟨p, h1, h2, _⟩ := gf
  exact hm p _ h1 h2
theorem mp_40 {D s : ST} {t : Int32} {a b : Nat} {mo : Bool} {K : Int32 → ST → Prop} (hB : Bk D) (pv : PV D t s) (ha : a < nH D) (hb : b < nH D) (k : ∀ s1 (r : Int32) (v : Int), Fr fqFl s s1 → FA1 D t a b mo v → r.toInt = (if mo = true then v else h0D D a - v) → K r s1) : w_40 (nI a) (nI b) (moI mo) s K := by
  obtain ⟨e1, e2, e3, e4⟩ := bkH10 hB
  have h150 := kL_150 hB (t := t)
  have hha := (e4 a ha).2
  unfold w_40
  refine mp_41 hB pv.1 ha ?_
  intro s1 f1 h1
  refine ⟨(kL D t).length + 1, l_40 (S0 := s) hB ((kL D t).length + 1) 0 s1 (fun h => 3 + h) (h0D D) (3 + nH D) 1 _ _ _ 1000000 (by omega) (by omega) f1 (PV_g f1 pv) h1 (by omega) (by omega) (by omega) (fun g hg => by show 3 + g < 3 + nH D; omega) (fun g hg => (e4 g hg).2) (by omega) ?_⟩
  intro s2 nd2 hs2 n2 m2 F2 T2 C2 f2 pv2 h2 z1 z2 z3 d2 z4 ag2 bb2
  refine ⟨nH D + 1, l_40s (S0 := s) (mo := mo) hB pv.1 hb d2 (by omega) (by omega) (nH D + 1) 0 s2 m2 F2 T2 C2 (by omega) (by omega) f2 h2 (by omega) ?_⟩
  intro s3 m3 F3 T3 C3 f3 h3 y1 y2 ag3 sk3
  have ag : AgE 1 _ _ _ F3 T3 C3 := AgE_tr z4 ag2 ag3
  obtain ⟨q1, q2, q3⟩ := ag 0 (by omega)
  rw [uf_s] at q1 q2 q3
  cases mo with
  | true =>
    refine br_t (by decide) ?_
    have g4 := bb2 F3 T3 C3 (fun nd _ _ m => SK (nH D) (skB b true) (!true) nd (fun _ => 1000000000) 2 1 F3 T3 C3 m3 (nH D) m) ag3 (sk3 F3 T3 C3 m3 AgE_rf ⟨fun z => absurd z (by decide), fun _ => rfl⟩)
    refine mp_40e (t := t) (b := b) (mo := true) hB ha h3 (by omega) (by omega) (by omega) q1 q2 q3 g4 ?_
    intro s4 v f4 fa v0 v1
    exact br_f (by decide) (k s4 v v.toInt (fr_tr (F := fqGr) rfl f3 f4) fa (if_pos rfl).symm)
  | false =>
    refine br_f (fun z => z rfl) ?_
    have eM : (1000000000 : Int32).toInt = 1000000000 := rfl
    refine mp_45 h3 (by omega) (by omega) (f := 2) (t := 1) (by omega) (by omega) (by rw [eM]; omega) ?_
    intro s4 f4 h4
    rw [eM] at h4
    have agU : AgE m3 F3 T3 C3 (uf F3 m3 2) (uf T3 m3 1) (uf C3 m3 1000000000) := AgE_up
    have hm3 : 0 < m3 := by omega
    have g4 := bb2 (uf F3 m3 2) (uf T3 m3 1) (uf C3 m3 1000000000) (fun nd _ _ m => SK (nH D) (skB b false) (!false) nd (fun _ => 1000000000) 2 1 (uf F3 m3 2) (uf T3 m3 1) (uf C3 m3 1000000000) (m3 + 1) (nH D) m) (AgE_tr y1 ag3 agU) (sk3 _ _ _ (m3 + 1) agU ⟨fun _ => ⟨uf_s, uf_s, uf_s, rfl⟩, fun z => absurd z (by decide)⟩)
    have u0 : ¬ 0 = m3 := by omega
    refine mp_40e (t := t) (b := b) (mo := false) hB ha h4 (by omega) (by omega) (by omega) (by rw [uf_n u0]; exact q1) (by rw [uf_n u0]; exact q2) (by rw [uf_n u0]; exact q3) g4 ?_
    intro s5 v f5 fa v0 v1
    refine br_t rfl ?_
    have g5 : Fr fqFl s s5 := fr_tr (F := fqGr) rfl (fr_tr (F := fqL) rfl f3 f4) f5
    rw [w4v hB (fr_tr (F := fqFl) rfl pv.1 g5) ha]
    refine k s5 _ v.toInt g5 fa ?_
    have hd : (D.2.1 56 a).toInt = h0D D a := rfl
    rw [if_neg (by decide), t_sub] <;> rw [hd] <;> omega
