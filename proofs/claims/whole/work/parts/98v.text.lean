/-! ===== a text of the class is the reference's; texts that stay ===== -/
theorem pob_i {dy : PH} {a c : Nat} {fs : List Value} (h : pob dy a c = some fs) : dy[a]? = some (.inr (c, fs)) := by
  unfold pob at h
  split at h
  · rename_i c' fs' e
    by_cases d : c' = c
    · rw [if_pos d] at h
      cases h
      rw [e, d]
    · rw [if_neg d] at h
      cases h
  · cases h
theorem prow_i {dy : PH} {a t n : Nat} {f : Nat → Int32} (h : prow dy a t = some (n, f)) : dy[a]? = some (.inl (t, n, .inl f)) := by
  unfold prow at h
  split at h
  · rename_i t' n' f' e
    by_cases d : t' = t
    · rw [if_pos d] at h
      cases h
      rw [e, d]
    · rw [if_neg d] at h
      cases h
  · cases h
theorem prowR_i {dy : PH} {a n : Nat} {f : Nat → Option Nat} (h : prowR dy a = some (n, f)) : dy[a]? = some (.inl (4, n, .inr (.inr f))) := by
  unfold prowR at h
  split at h
  · rename_i n' f' e
    cases h
    exact e
  · cases h
theorem gf_get {G : List Pc} {p : Nat} (h : p < G.length) : gf G p = G[p] := by
  unfold gf
  rw [List.getElem?_eq_getElem h]
  rfl
theorem mpi_mpo {o : Nat} (h : o ≤ 12) : mpi (mpo o) = o ∧ mpo o ≤ 12 := by
  have : ∀ o : Fin 13, mpi (mpo o.val) = o.val ∧ mpo o.val ≤ 12 := by decide +kernel
  exact this ⟨o, by omega⟩
/-- what a piece's code is, as a number, and back -/
theorem enc_dec {G : Nat → Pc} {L b p : Nat} {st : Nat → List Bool} (h : wt1 G L st p) (hL : L ≤ 160) (hb : b ≤ 160) : encR b (G p) < 2 ^ 31 ∧ encR b (G p) / 16777216 = mpo (G p).1 ∧ mpi (mpo (G p).1) = (G p).1 ∧ encR b (G p) = 16777216 * mpo (G p).1 + (if (G p).1 = 3 ∨ (G p).1 = 4 then b + (G p).2 else (G p).2) ∧ (if (G p).1 = 3 ∨ (G p).1 = 4 then encR b (G p) % 16777216 - b else encR b (G p) % 16777216) = (G p).2 := by
  obtain ⟨w0, w1, w2, w3, w4, w5⟩ := h
  obtain ⟨m1, m2⟩ := mpi_mpo w0
  have hx : (if (G p).1 = 3 ∨ (G p).1 = 4 then b + (G p).2 else (G p).2) < 16777216 := by
    by_cases c : (G p).1 = 3 ∨ (G p).1 = 4
    · obtain ⟨r, _, _, q1, q2, _⟩ := w4 c
      rw [if_pos c]
      omega
    · rw [if_neg c]
      by_cases c0 : (G p).1 = 0
      · have := (w1 c0).2; omega
      by_cases c1 : (G p).1 = 1
      · have := (w2 c1).2; omega
      by_cases c2 : (G p).1 = 2
      · have := (w3 c2).1; omega
      · have := (w5 (by omega)).1; omega
  have he : encR b (G p) = 16777216 * mpo (G p).1 + (if (G p).1 = 3 ∨ (G p).1 = 4 then b + (G p).2 else (G p).2) := by
    unfold encR
    by_cases c : (G p).1 = 3 ∨ (G p).1 = 4
    · obtain ⟨r, _, _, q1, q2, _⟩ := w4 c
      rw [if_pos c, if_pos c, if_neg (by omega)]
    · rw [if_neg c, if_neg c]
  refine ⟨by omega, by omega, m1, he, ?_⟩
  by_cases c : (G p).1 = 3 ∨ (G p).1 = 4
  · rw [if_pos c] at he hx ⊢
    omega
  · rw [if_neg c] at he hx ⊢
    omega
section Nt
variable {s s2 : ST} {dy : PH} {C : List Clz} {I M a L0 : Nat} {fr to : Int32}
theorem CodA_new {j m : Nat} {z : Clz} {sg : Nat → Nat} {n : Nat} (hs : ∀ a, n ≤ a → sg a = 256) (hn : n ≤ 160) (hI : I < 26) (hM : M ≤ 160) (hj : j < C.length) (hr : RCz s M j z) (hk : Kpt s s2 I M C.length) (h120 : ¬ z.1 = 120) (hok : ∃ a a1, pEn sg n a = .inr (a1, cdL z)) (hc : ∃ f, dy[m]? = some (.inl (0, (cdL z).length, .inl f)) ∧ ∀ p (hp : p < (cdL z).length), f p = nI (16 * (cdL z)[p].2 + (cdL z)[p].1)) : CodR s2 I j ∧ CodC s2 dy m I j := by
  obtain ⟨b, r1, r2, r3, r4, _⟩ := hr
  have ez : cdR z = cdL z := if_neg h120
  rw [ez] at r2 r3
  obtain ⟨_, kd, kc, _⟩ := hk
  obtain ⟨_, _, _, q4, q5⟩ := kc.1 j hj
  rw [r1, nI_add] at q4
  rw [r2, nI_add] at q5
  obtain ⟨a0, a1, hp⟩ := hok
  obtain ⟨g1, g2, g3, st, g4, g5, g6⟩ := pEn_ok hs hp
  have ecf : cfN s2 I j = 180 * I + b := by
    unfold cfN
    rw [q4, nI_clamp (by omega)]
  have eln : Ln s2 I j = (cdL z).length := by
    unfold Ln
    rw [ecf, q5, nI_clamp (by omega)]
    omega
  have eof : ofN s2 I j = b := by
    unfold ofN
    rw [ecf]
    omega
  have gen : ∀ (H : List Pc), cdR z = H → ∀ p (hp : p < H.length), s.2.1 76 (b + p) = nI (encR b H[p]) := by
    intro H e
    subst e
    exact r4
  have e83 : ∀ p (hp : p < (cdL z).length), s2.2.1 83 (cfN s2 I j + p) = nI (encR b (cdL z)[p]) := by
    intro p hp
    rw [ecf, Nat.add_assoc, kd.1 (b + p) (by omega)]
    exact gen _ ez p hp
  have eGd : ∀ p, p < (cdL z).length → Gd s2 I j p = gf (cdL z) p := by
    intro p hp
    obtain ⟨d1, d2, d3, d4, d5⟩ := enc_dec (b := b) (g6 p hp) (by omega) (by omega)
    have e1 : cdN s2 I j p = encR b (gf (cdL z) p) := by
      unfold cdN
      rw [e83 p hp, gf_get hp, nI_clamp]
      rw [gf_get hp] at d1
      exact d1
    have e2 : Gd s2 I j p = ((gf (cdL z) p).1, (gf (cdL z) p).2) := by
      unfold Gd
      rw [e1, d2, d3, eof, d5]
    exact e2
  refine ⟨⟨⟨st, g4, ?_, ?_, ?_⟩, ?_, ?_, ?_, ?_, ?_⟩, ?_⟩
  · rw [eln]; exact g5
  · rw [eln]; omega
  · intro p hp
    rw [eln] at hp ⊢
    exact wt1_c (g6 p hp) (eGd p hp) (Nat.le_refl _) hp (fun _ _ _ => rfl)
  · rw [ecf]; exact q4
  · rw [ecf, eln, Nat.add_assoc]; exact q5
  · rw [ecf]; omega
  · rw [ecf, eln]; omega
  · intro p hp
    rw [eln] at hp
    obtain ⟨d1, d2, d3, d4, d5⟩ := enc_dec (b := b) (g6 p hp) (by omega) (by omega)
    rw [e83 p hp, eGd p hp, eof, ← d4, gf_get hp]
  · obtain ⟨f, f1, f2⟩ := hc
    refine ⟨f, ?_, fun p hp => ?_⟩
    · rw [eln]
      exact prow_of f1
    · rw [eln] at hp
      rw [f2 p hp, eGd p hp, gf_get hp]
theorem TxA_new {sg : Nat → Nat} {n : Nat} (hs : ∀ a, n ≤ a → sg a = 256) (hn : n ≤ 160) (hI : I < 26) (ha : a ≤ n) (hr : RIz s C a M) (hk : Kpt s s2 I M C.length) (hl : LI dy L0 fr to C) (h1 : 1 ≤ C.length) (h10 : C.length ≤ 10) (hok : ∀ z, z ∈ C → okZ sg n (fun x => (I < 20 → x = 114 ∨ x = 108 ∨ x = 120) ∧ (20 ≤ I → x = 40)) z) : TxA s2 dy I L0 fr to := by
  obtain ⟨i1, i2, i3, i4, i5⟩ := hr
  have hM : M ≤ 160 := by omega
  have eK : nK s2 I = C.length := by
    unfold nK
    rw [hk.2.2.2.1, nI_clamp (by omega)]
  obtain ⟨l1, g, ⟨_, ⟨mc, l2⟩, _⟩, l4⟩ := hl
  rcases l2 with ⟨z, _⟩ | ⟨b, cap, l5, l6, l7, _⟩
  · omega
  unfold TxA
  rw [eK]
  refine ⟨hk.2.2.2.1, h1, h10, L0 + 1, mc, b, cap, g, pob_of l1, pob_of l5, prowR_of l6, l7, fun j hj => ?_⟩
  obtain ⟨c, c1, m, tg, tc, c2, c3, c4, c5⟩ := l4 j hj
  refine ⟨c, c1, nI C[j].1, m, tg, tc, pob_of c2, ?_, ?_, ?_, ?_⟩
  · intro lt
    obtain ⟨⟨p1, p2⟩, p3⟩ := hok C[j] (List.getElem_mem hj)
    have p1 := p1 lt
    obtain ⟨bb, r1, r2, r3, r4, r5, r6, r7⟩ := i5 j hj
    obtain ⟨q1, _⟩ := hk.2.2.1.1 j hj
    refine ⟨?_, ?_⟩
    · rw [q1, r5 (by omega)]
    · rcases p1 with y | y | y <;> rw [y]
      · exact Or.inl rfl
      · exact Or.inr (Or.inl rfl)
      · exact Or.inr (Or.inr rfl)
  · intro ge
    obtain ⟨⟨p1, p2⟩, p3⟩ := hok C[j] (List.getElem_mem hj)
    have p2 := p2 ge
    obtain ⟨bb, r1, r2, r3, r4, r5, r6, r7⟩ := i5 j hj
    obtain ⟨_, q2, _⟩ := hk.2.2.1.1 j hj
    obtain ⟨w, G, e1, e2, e3⟩ := c4 p2
    obtain ⟨w', G', e1', e2'⟩ := r7 p2
    rw [e1] at e1'
    have ew : w = w' := (Prod.mk.inj (List.cons.inj e1').1).1
    refine ⟨by rw [p2]; rfl, ?_, ?_, ?_⟩
    · rw [q2, e2', e2, ew]
    · rw [e2, nI_toInt (by omega)]; omega
    · rw [e2, nI_toInt (by omega)]; omega
  · intro k120
    have k120 : nI C[j].1 = nI 120 := k120
    obtain ⟨⟨p1, p2⟩, p3⟩ := hok C[j] (List.getElem_mem hj)
    have y120 : C[j].1 = 120 := by
      by_cases lt : I < 20
      · have p1 := p1 lt
        rwa [nI_eq (by omega) (by omega)] at k120
      · have p2 := p2 (by omega)
        rwa [nI_eq (by omega) (by omega)] at k120
    obtain ⟨bb, r1, r2, r3, r4, r5, r6, r7⟩ := i5 j hj
    obtain ⟨_, q2, q3, _⟩ := hk.2.2.1.1 j hj
    obtain ⟨v1, v2, e1, e2, e3, e4, e5⟩ := c3 y120
    obtain ⟨v1', v2', e1', e2', e3'⟩ := r6 y120
    rw [e1] at e1'
    have ev1 : v1 = v1' := (Prod.mk.inj (List.cons.inj e1').1).1
    have ev2 : v2 = v2' := (Prod.mk.inj (List.cons.inj (List.cons.inj e1').2).1).1
    refine ⟨?_, ?_, ?_, ?_, ?_, ?_⟩
    · rw [q2, e2', e2, ev1]
    · rw [q3, e3', e3, ev2]
    · rw [e2, nI_toInt (by omega)]; omega
    · rw [e2, nI_toInt (by omega)]; omega
    · rw [e3, nI_toInt (by omega)]; omega
    · rw [e3, nI_toInt (by omega)]; omega
  · intro n120
    have y120 : ¬ C[j].1 = 120 := fun y => n120 (by rw [y]; rfl)
    exact CodA_new hs hn hI hM hj (i5 j hj) hk y120 ((hok C[j] (List.getElem_mem hj)).2 y120) (c5 y120)
end Nt
/-- a text that is not touched -/
theorem TxA_old {s s2 : ST} {dy : PH} {I y : Nat} {fr to : Int32} (h86 : s2.2.1 86 I = s.2.1 86 I) (h83 : ∀ x, 180 * I ≤ x → x < 180 * I + 180 → s2.2.1 83 x = s.2.1 83 x) (hr : ∀ r, 87 ≤ r → r ≤ 91 → ∀ j, j < 10 → s2.2.1 r (10 * I + j) = s.2.1 r (10 * I + j)) (h : TxA s dy I y fr to) : TxA s2 dy I y fr to := by
  obtain ⟨h1, h2, h3, v, mc, b, cap, g, k1, k2, k3, k4, k5⟩ := h
  have eK : nK s2 I = nK s I := by unfold nK; rw [h86]
  unfold TxA
  rw [eK, h86]
  refine ⟨h1, h2, h3, v, mc, b, cap, g, k1, k2, k3, k4, fun j hj => ?_⟩
  obtain ⟨c, q1, kd, m, tg, tc, a1, a2, a3, a4, a5⟩ := k5 j hj
  have hj : j < 10 := by omega
  refine ⟨c, q1, kd, m, tg, tc, a1, ?_, ?_, ?_, ?_⟩
  · rw [hr 87 (by omega) (by omega) j hj]; exact a2
  · rw [hr 90 (by omega) (by omega) j hj]; exact a3
  · rw [hr 90 (by omega) (by omega) j hj, hr 91 (by omega) (by omega) j hj]; exact a4
  · intro n120
    obtain ⟨⟨⟨st, t0, t1, t2, t3⟩, b1, b2, b3, b4, b5⟩, f, f1, f2⟩ := a5 n120
    have ecf : cfN s2 I j = cfN s I j := by unfold cfN; rw [hr 88 (by omega) (by omega) j hj]
    have eln : Ln s2 I j = Ln s I j := by unfold Ln; rw [ecf, hr 89 (by omega) (by omega) j hj]
    have eof : ofN s2 I j = ofN s I j := by unfold ofN; rw [ecf]
    have e83 : ∀ p, p < Ln s I j → s2.2.1 83 (cfN s I j + p) = s.2.1 83 (cfN s I j + p) := fun p hp => h83 _ (by omega) (by omega)
    have eGd : ∀ p, p < Ln s I j → Gd s2 I j p = Gd s I j p := by
      intro p hp
      have e1 : cdN s2 I j p = cdN s I j p := by unfold cdN; rw [ecf, e83 p hp]
      unfold Gd
      rw [e1, eof]
    unfold CodR CodC
    rw [ecf, eln, eof, hr 88 (by omega) (by omega) j hj, hr 89 (by omega) (by omega) j hj]
    refine ⟨⟨⟨st, t0, t1, t2, fun p hp => ?_⟩, b1, b2, b3, b4, fun p hp => ?_⟩, f, f1, fun p hp => ?_⟩
    · exact wt1_c (t3 p hp) (eGd p hp) (Nat.le_refl _) hp (fun _ _ _ => rfl)
    · rw [e83 p hp, eGd p hp]; exact b5 p hp
    · rw [eGd p hp]; exact f2 p hp
/-- a row of texts, at q, is changed: no text lies in it -/
def Qrow (dy : PH) (q : Nat) : Prop := ∀ x, dy[q]? = some x → ∃ cap g y fs, x = (.inl (4, cap, .inr (.inr g)) : PC) ∧ g 0 = some (y + 118) ∧ dy[y]? = some (.inr (9, fs))
theorem TxA_mv {s : ST} {dy dy1 : PH} {q I y : Nat} {fr to : Int32} (hq : Qrow dy q) (hk : ∀ i x, dy[i]? = some x → ¬ i = q → dy1[i]? = some x) (h : TxA s dy I y fr to) : TxA s dy1 I y fr to := by
  obtain ⟨h1, h2, h3, v, mc, b, cap, g, k1, k2, k3, k4, k5⟩ := h
  have ob : ∀ (a c : Nat) (fs : List Value), pob dy a c = some fs → pob dy1 a c = some fs := by
    intro a c fs hp
    have hp := pob_i hp
    refine pob_of (hk a _ hp (fun e => ?_))
    rw [e] at hp
    obtain ⟨_, _, _, _, e1, _⟩ := hq _ hp
    cases e1
  have bq : ¬ b = q := by
    intro e
    have k3 := prowR_i k3
    rw [e] at k3
    obtain ⟨cap', g', y', fs', e1, e2, e3⟩ := hq _ k3
    cases e1
    obtain ⟨c, q1, kd, m, tg, tc, a1, _⟩ := k5 0 (by omega)
    rw [e2] at q1
    have a1 := pob_i a1
    have ey : y' = c := by
      injection q1 with q1
      omega
    rw [← ey, e3] at a1
    cases a1
  refine ⟨h1, h2, h3, v, mc, b, cap, g, ob _ _ _ k1, ob _ _ _ k2, prowR_of (hk b _ (prowR_i k3) bq), k4, fun j hj => ?_⟩
  obtain ⟨c, q1, kd, m, tg, tc, a1, a2, a3, a4, a5⟩ := k5 j hj
  refine ⟨c, q1, kd, m, tg, tc, ob _ _ _ a1, a2, a3, a4, fun n120 => ?_⟩
  obtain ⟨b1, f, f1, f2⟩ := a5 n120
  have f1 := prow_i f1
  refine ⟨b1, f, prow_of (hk m _ f1 (fun e => ?_)), f2⟩
  rw [e] at f1
  obtain ⟨_, _, _, _, e1, _⟩ := hq _ f1
  cases e1
theorem LI_mv {dy dy1 : PH} {q L0 : Nat} {fr to : Int32} {C : List Clz} (h1 : 1 ≤ C.length) (hq : Qrow dy q) (hk : ∀ i x, dy[i]? = some x → ¬ i = q → dy1[i]? = some x) (h : LI dy L0 fr to C) : LI dy1 L0 fr to C := by
  obtain ⟨k1, g, ⟨k2, ⟨mc, k3⟩, k4⟩, k5⟩ := h
  have ob : ∀ (a : Nat) (o : Nat × List Value), dy[a]? = some (.inr o) → dy1[a]? = some (.inr o) := by
    intro a o hp
    refine hk a _ hp (fun e => ?_)
    rw [e] at hp
    obtain ⟨_, _, _, _, e1, _⟩ := hq _ hp
    cases e1
  rcases k3 with ⟨z, _⟩ | ⟨b, cap, l5, l6, l7⟩
  · omega
  have bq : ¬ b = q := by
    intro e
    rw [e] at l6
    obtain ⟨cap', g', y', fs', e1, e2, e3⟩ := hq _ l6
    cases e1
    obtain ⟨c, q1, m, tg, tc, a1, _⟩ := k5 0 (by omega)
    rw [e2] at q1
    have ey : y' = c := by
      injection q1 with q1
      omega
    rw [← ey, e3] at a1
    cases a1
  refine ⟨ob _ _ k1, g, ⟨k2, ⟨mc, Or.inr ⟨b, cap, ob _ _ l5, hk b _ l6 bq, l7⟩⟩, fun j hj => ?_⟩, fun j hj => ?_⟩
  · obtain ⟨c, o, q1, q2⟩ := k4 j hj
    exact ⟨c, o, q1, ob _ _ q2⟩
  · obtain ⟨c, q1, m, tg, tc, a1, a2, a3, a4⟩ := k5 j hj
    refine ⟨c, q1, m, tg, tc, ob _ _ a1, a2, a3, fun z => ?_⟩
    obtain ⟨f, f1, f2⟩ := a4 z
    refine ⟨f, hk m _ f1 (fun e => ?_), f2⟩
    rw [e] at f1
    obtain ⟨_, _, _, _, e1, _⟩ := hq _ f1
    cases e1
