/-! ===== steps that make cells; casts, natives, switches ===== -/
section PS3
variable {p : Program} {l : Launch} {e : Env} {R : Room} {s : State} {m : MethodId} {args : Array Value} {below : List Frame} {meth : Method} {c : Code} {Q : State → Prop}
variable {base : Nat} {sp : Nat → Nat} {D : va_G} {dA : Nat → ClassId} {sc : Nat × (Nat → Int32)}
theorem W_le {H : Heap} {locs : List Loc} {cells slots : Nat} {g : JFrame} (k : H.size ≤ s.heap.size + cells → W p l e R s m args below meth c H locs cells slots Q g) : W p l e R s m args below meth c H locs cells slots Q g :=
  fun T hT X => k (by have := X.heapSize; rw [hT] at this; exact this) T hT X
theorem pDf_map : ∀ (k : Nat) (fs : List Value), pDf[k]? = some fs → fs.map (ptr base sp) = fs := by
  intro k fs h
  match k, h with
  | 0, h => cases h; rfl
  | 1, h => cases h; rfl
  | 2, h => cases h; rfl
  | 3, h => cases h; rfl
  | 4, h => cases h; rfl
  | 5, h => cases h; rfl
  | 6, h => cases h; rfl
  | 7, h => cases h; rfl
  | 8, h => cases h; rfl
  | 9, h => cases h; rfl
  | 10, h => cases h; rfl
  | 11, h => cases h; rfl
  | 12, h => cases h; rfl
  | 13, h => cases h; rfl
  | k + 14, h => simp [pDf] at h
theorem pA_all (n : Nat) : ∀ q : Nat, s.heap.size ≤ q → s.heap.size = base + n → pAb base q := fun q h1 h2 => by show base ≤ q; omega
/-- behind a cell's making -/
theorem pmade {h h0 : PH} {ec : PC} {q : Nat} {H1 : Heap} {locs : List Loc} {k pc' : Nat} {ls : Array Slot} {rest : List Value} (hsz : s.heap.size = base + h0.length) (h01 : h0.length ≤ h.length) (h02 : psl h0 ≤ psl h) (hk : psz ec = k)
    (hP1 : va_P D pcl (pws base sp dA h ++ [(q, pE base sp dA ec)]) H1) (hD1 : va_D (pAb base) (pws base sp dA h ++ [(q, pE base sp dA ec)]))
    (kk : va_P D pcl (pws base sp dA (h ++ [ec])) H1 → W p l e R s m args below meth c H1 locs ((h ++ [ec]).length - h0.length) (psl (h ++ [ec]) - psl h0) Q (F0 m pc' ls (.ref (base + h.length) :: rest))) :
    W p l e R s m args below meth c H1 locs (h.length - h0.length + 1) (psl h - psl h0 + k) Q (F0 m pc' ls (.ref q :: rest)) := by
  refine W_le (fun hz => ?_)
  have hq : q = base + h.length := pws_fresh hP1 hD1 (by omega)
  subst hq
  have e1 : (h ++ [ec]).length - h0.length = h.length - h0.length + 1 := by simp; omega
  have e2 : psl (h ++ [ec]) - psl h0 = psl h - psl h0 + k := by rw [psl_push]; omega
  rw [e1, e2, pws_push] at kk
  exact kk hP1
theorem psum_map {S : List Value} : psum S = ((S.map (ptr base sp)).map fun v => v.category).sum := by
  unfold psum
  rw [List.map_map]
  congr 1
  apply List.map_congr_left
  intro v _
  exact (ptr_cat v).symm

set_option maxHeartbeats 4000000 in
theorem ps_new {q : PM} {i pc d j : Nat} {ex : List Nat} {L S L' S' : List Value} {h h' h0 hf : PH} {ls : Array Slot} {H : Heap} {locs : List Loc} {e' : PI} {idx : Nat}
    (C : Cx p R s m args meth c base sp D dA sc q d h0 hf) (hok : okI prog q i (pc, .new idx, ex) = true)
    (hs : stp sc q.2.2.2.1 d (.new idx) ex L S h = some (.inl (j, L', S', h'))) (hl : pL base sp ls q.2.2.1 L) (hP : va_P D pcl (pws base sp dA h) H) (hS : va_S (pAb base) s.heap H locs)
    (h01 : h0.length ≤ h.length) (h02 : psl h0 ≤ psl h) (h11 : h'.length ≤ hf.length) (h12 : psl h' ≤ psl hf)
    (hn : q.2.2.2.2[match j with | 0 => i + 1 | t + 1 => t]? = some e')
    (kk : ∀ (ls' : Array Slot) (H' : Heap) (locs' : List Loc), pL base sp ls' q.2.2.1 L' → va_P D pcl (pws base sp dA h') H' → va_S (pAb base) s.heap H' locs' →
      W p l e R s m args below meth c H' locs' (h'.length - h0.length) (psl h' - psl h0) Q (F0 m e'.1 ls' (S'.map (ptr base sp)))) :
    W p l e R s m args below meth c H locs (h.length - h0.length) (psl h - psl h0) Q (F0 m pc ls (S.map (ptr base sp))) := by
  obtain ⟨hx, hb, hml, hown, hts, hnm, hKf, hSf, hsz, hrc, hrs, hrd, hrl⟩ := C
  unfold okI at hok
  simp only [Bool.and_eq_true] at hok
  obtain ⟨hdg, hnp⟩ := okD_spec hok.1 rfl
  have hdg : decode q.2.1 pc = .ok (.new idx, 3) := hdg
  simp only [stp, pnew] at hs
  split at hs
  · rename_i k r
    split at hs
    · rename_i fs hfs
      cases hs
      have hp : e'.1 = pc + 3 := hnp e' hn
      rw [hp] at kk
      match r, hok.2 with
      | [j1, j2, j3], hk =>
        cases hr : pcl[k]? with
        | none =>
          simp only [okL, hr] at hk
          exact Bool.noConfusion hk
        | some r =>
          simp only [okL, hr, Bool.and_eq_true] at hk
          obtain ⟨fs2, g1, g2, g3⟩ := (pcl_ok k r hr).2.2.2.1
          cases hfs.symm.trans g1
          have hm := pDf_map (base := base) (sp := sp) k fs hfs
          have hz : psz (.inr (k, fs) : PC) = r.2.2 := g2
          have hlen : (h ++ [(.inr (k, fs) : PC)]).length = h.length + 1 := by simp
          have hpsl : psl (h ++ [(.inr (k, fs) : PC)]) = psl h + r.2.2 := by rw [psl_push, hz]
          rw [hlen] at h11
          rw [hpsl] at h12
          refine va_new (D := D) hx hb hts (pcl_ok k r hr).1 (pY k) (pcl_ok k r hr).2.1 hown (hts _ (okW_mem hk.1.1)) (hts _ (okW_mem hk.1.2)) (hts _ (okW_mem hk.2)) hKf.1 hP pws_D hS (fun q hq => pA_all (base := base) _ q hq hsz) hr g3 (by omega) (by omega) hdg (fun q H1 hP1 hD1 hS1 => ?_)
          have e0 : (Sum.inr (k, fs) : va_E) = pE base sp dA (.inr (k, fs)) := by simp only [pE, hm]
          rw [e0] at hP1 hD1
          exact pmade hsz h01 h02 hz hP1 hD1 (fun hP2 => kk ls H1 locs hl hP2 hS1)
      | [], hk => exact Bool.noConfusion (show false = true from hk)
      | [_], hk => exact Bool.noConfusion (show false = true from hk)
      | [_, _], hk => exact Bool.noConfusion (show false = true from hk)
      | _ :: _ :: _ :: _ :: _, hk => exact Bool.noConfusion (show false = true from hk)
    · cases hs
  · cases hs

set_option maxHeartbeats 4000000 in
theorem ps_newarray {q : PM} {i pc d j : Nat} {ex : List Nat} {L S L' S' : List Value} {h h' h0 hf : PH} {ls : Array Slot} {H : Heap} {locs : List Loc} {e' : PI} {aty : ArrayType}
    (C : Cx p R s m args meth c base sp D dA sc q d h0 hf) (hok : okI prog q i (pc, .newarray aty, ex) = true)
    (hs : stp sc q.2.2.2.1 d (.newarray aty) ex L S h = some (.inl (j, L', S', h'))) (hl : pL base sp ls q.2.2.1 L) (hP : va_P D pcl (pws base sp dA h) H) (hS : va_S (pAb base) s.heap H locs)
    (h01 : h0.length ≤ h.length) (h02 : psl h0 ≤ psl h) (h11 : h'.length ≤ hf.length) (h12 : psl h' ≤ psl hf)
    (hn : q.2.2.2.2[match j with | 0 => i + 1 | t + 1 => t]? = some e')
    (kk : ∀ (ls' : Array Slot) (H' : Heap) (locs' : List Loc), pL base sp ls' q.2.2.1 L' → va_P D pcl (pws base sp dA h') H' → va_S (pAb base) s.heap H' locs' →
      W p l e R s m args below meth c H' locs' (h'.length - h0.length) (psl h' - psl h0) Q (F0 m e'.1 ls' (S'.map (ptr base sp)))) :
    W p l e R s m args below meth c H locs (h.length - h0.length) (psl h - psl h0) Q (F0 m pc ls (S.map (ptr base sp))) := by
  obtain ⟨hx, hb, hml, hown, hts, hnm, hKf, hSf, hsz, hrc, hrs, hrd, hrl⟩ := C
  unfold okI at hok
  simp only [Bool.and_eq_true] at hok
  obtain ⟨hdg, hnp⟩ := okD_spec hok.1 rfl
  have hdg : decode q.2.1 pc = .ok (.newarray aty, 2) := hdg
  simp only [stp, pnewa] at hs
  split at hs
  · rename_i t r n S2
    split at hs
    · rename_i hc
      cases hs
      have hp : e'.1 = pc + 2 := hnp e' hn
      rw [hp] at kk
      match r, hok.2 with
      | [j1], hk =>
        simp only [okL, Bool.and_eq_true, decide_eq_true_eq] at hk
        have hlen : (h ++ [(.inl (t, n.toNatClampNeg, pZ t) : PC)]).length = h.length + 1 := by simp
        have hpsl : psl (h ++ [(.inl (t, n.toNatClampNeg, pZ t) : PC)]) = psl h + n.toNatClampNeg := by rw [psl_push]; rfl
        rw [hlen] at h11
        rw [hpsl] at h12
        have cont : ∀ (q : Nat) (cA : ClassId) (H1 : Heap) (x : vp_A), cA = dA t → (Sum.inl (dA t, x) : va_E) = pE base sp dA (.inl (t, n.toNatClampNeg, pZ t)) → va_P D pcl (pws base sp dA h ++ [(q, .inl (cA, x))]) H1 → va_D (pAb base) (pws base sp dA h ++ [(q, .inl (cA, x))]) → va_S (pAb base) s.heap H1 locs →
            W p l e R s m args below meth c H1 locs (h.length - h0.length + 1) (psl h - psl h0 + n.toNatClampNeg) Q (F0 m (pc + 2) ls (.ref q :: List.map (ptr base sp) S2)) := by
          intro q cA H1 x hcA hx2 hP1 hD1 hS1
          subst hcA
          rw [hx2] at hP1 hD1
          exact pmade hsz h01 h02 rfl hP1 hD1 (fun hP2 => kk ls H1 locs hl hP2 hS1)
        have same : ∀ (cA : ClassId) (ty : FieldType), (ty = .int ∨ ty = .long ∨ ty = .boolean ∨ ty = .byte) → va_K D pcl (ptys dA ++ [(cA, ty)]) s → pkind t = ty → t < 4 → cA = dA t := by
          intro cA ty hty hK1 hkt ht
          have g1 := (hK1.2 5 (cA, ty) rfl).2
          have g2 := (hKf.1.2 t _ (pt_all (by omega))).2
          rw [hkt] at g2
          rcases hty with rfl | rfl | rfl | rfl <;> exact Option.some.inj (g1.symm.trans g2)
        rcases (show t = 0 ∨ t = 1 ∨ t = 2 ∨ t = 3 by omega) with rfl | rfl | rfl | rfl
        · exact va_newa (a0 := (n.toNatClampNeg, .inl (fun _ => 0))) hx hb (hts _ (okW_mem hk.2)) hk.1.1 hKf.1 hP pws_D hS (fun q hq => pA_all (base := base) _ q hq hsz) (fun _ => rfl) hc.1 rfl (by simp [pkind, componentBytes]; omega) (by omega) (by omega) hdg (fun q cA H1 hK1 hP1 hD1 hS1 => cont q cA H1 _ (same cA _ (Or.inl rfl) hK1 rfl (by omega)) rfl hP1 hD1 hS1)
        · exact va_newa (a0 := (n.toNatClampNeg, .inr (.inl (fun _ => 0)))) hx hb (hts _ (okW_mem hk.2)) hk.1.1 hKf.1 hP pws_D hS (fun q hq => pA_all (base := base) _ q hq hsz) (fun _ => rfl) hc.1 rfl (by simp [pkind, componentBytes]; omega) (by omega) (by omega) hdg (fun q cA H1 hK1 hP1 hD1 hS1 => cont q cA H1 _ (same cA _ (Or.inr (Or.inl rfl)) hK1 rfl (by omega)) rfl hP1 hD1 hS1)
        · exact va_newa (a0 := (n.toNatClampNeg, .inl (fun _ => 0))) hx hb (hts _ (okW_mem hk.2)) hk.1.1 hKf.1 hP pws_D hS (fun q hq => pA_all (base := base) _ q hq hsz) (fun _ => rfl) hc.1 rfl (by simp [pkind, componentBytes]; omega) (by omega) (by omega) hdg (fun q cA H1 hK1 hP1 hD1 hS1 => cont q cA H1 _ (same cA _ (Or.inr (Or.inr (Or.inl rfl))) hK1 rfl (by omega)) rfl hP1 hD1 hS1)
        · exact va_newa (a0 := (n.toNatClampNeg, .inl (fun _ => 0))) hx hb (hts _ (okW_mem hk.2)) hk.1.1 hKf.1 hP pws_D hS (fun q hq => pA_all (base := base) _ q hq hsz) (fun _ => rfl) hc.1 rfl (by simp [pkind, componentBytes]; omega) (by omega) (by omega) hdg (fun q cA H1 hK1 hP1 hD1 hS1 => cont q cA H1 _ (same cA _ (Or.inr (Or.inr (Or.inr rfl))) hK1 rfl (by omega)) rfl hP1 hD1 hS1)
      | [], hk => exact Bool.noConfusion (show false = true from hk)
      | _ :: _ :: _, hk => exact Bool.noConfusion (show false = true from hk)
    · cases hs
  · cases hs

set_option maxHeartbeats 4000000 in
theorem ps_anewarray {q : PM} {i pc d j : Nat} {ex : List Nat} {L S L' S' : List Value} {h h' h0 hf : PH} {ls : Array Slot} {H : Heap} {locs : List Loc} {e' : PI} {idx : Nat}
    (C : Cx p R s m args meth c base sp D dA sc q d h0 hf) (hok : okI prog q i (pc, .anewarray idx, ex) = true)
    (hs : stp sc q.2.2.2.1 d (.anewarray idx) ex L S h = some (.inl (j, L', S', h'))) (hl : pL base sp ls q.2.2.1 L) (hP : va_P D pcl (pws base sp dA h) H) (hS : va_S (pAb base) s.heap H locs)
    (h01 : h0.length ≤ h.length) (h02 : psl h0 ≤ psl h) (h11 : h'.length ≤ hf.length) (h12 : psl h' ≤ psl hf)
    (hn : q.2.2.2.2[match j with | 0 => i + 1 | t + 1 => t]? = some e')
    (kk : ∀ (ls' : Array Slot) (H' : Heap) (locs' : List Loc), pL base sp ls' q.2.2.1 L' → va_P D pcl (pws base sp dA h') H' → va_S (pAb base) s.heap H' locs' →
      W p l e R s m args below meth c H' locs' (h'.length - h0.length) (psl h' - psl h0) Q (F0 m e'.1 ls' (S'.map (ptr base sp)))) :
    W p l e R s m args below meth c H locs (h.length - h0.length) (psl h - psl h0) Q (F0 m pc ls (S.map (ptr base sp))) := by
  obtain ⟨hx, hb, hml, hown, hts, hnm, hKf, hSf, hsz, hrc, hrs, hrd, hrl⟩ := C
  unfold okI at hok
  simp only [Bool.and_eq_true] at hok
  obtain ⟨hdg, hnp⟩ := okD_spec hok.1 rfl
  have hdg : decode q.2.1 pc = .ok (.anewarray idx, 3) := hdg
  simp only [stp, panew] at hs
  split at hs
  · rename_i n S2
    split at hs
    · rename_i hc
      cases hs
      have hp : e'.1 = pc + 3 := hnp e' hn
      rw [hp] at kk
      match ex, hok.2 with
      | [j1, _], hk =>
        have hk : okW j1 (.classLink q.1.cls idx "java/lang/Object") = true := hk
        have hlen : (h ++ [(.inl (4, n.toNatClampNeg, .inr (.inr (fun _ => none))) : PC)]).length = h.length + 1 := by simp
        have hpsl : psl (h ++ [(.inl (4, n.toNatClampNeg, .inr (.inr (fun _ => none))) : PC)]) = psl h + n.toNatClampNeg := by rw [psl_push]; rfl
        rw [hlen] at h11
        rw [hpsl] at h12
        refine va_newq hx hb hown (hts _ (okW_mem hk)) hKf.2.2 hKf.1 hP pws_D hS (fun q hq => pA_all (base := base) _ q hq hsz) hc.1 rfl (by omega) (by omega) (by omega) hdg (fun q cA H1 hK1 hP1 hD1 hS1 => ?_)
        have g1 := (hK1.2 5 (cA, .object "java/lang/Object") rfl).2
        have g2 := (hKf.1.2 4 _ pt_4).2
        obtain ⟨kA, comp, -, -, -, g3⟩ := g1
        obtain ⟨kA2, comp2, -, -, -, g4⟩ := g2
        have hcA : cA = dA 4 := Option.some.inj (g3.symm.trans g4)
        subst hcA
        exact pmade (ec := .inl (4, n.toNatClampNeg, .inr (.inr (fun _ => none)))) hsz h01 h02 rfl hP1 hD1 (fun hP2 => kk ls H1 locs hl hP2 hS1)
      | [], hk => exact Bool.noConfusion (show false = true from hk)
      | [_], hk => exact Bool.noConfusion (show false = true from hk)
      | _ :: _ :: _ :: _, hk => exact Bool.noConfusion (show false = true from hk)
    · cases hs
  · cases hs

set_option maxHeartbeats 4000000 in
theorem ps_checkcast {q : PM} {i pc d j : Nat} {ex : List Nat} {L S L' S' : List Value} {h h' h0 hf : PH} {ls : Array Slot} {H : Heap} {locs : List Loc} {e' : PI} {idx : Nat}
    (C : Cx p R s m args meth c base sp D dA sc q d h0 hf) (hok : okI prog q i (pc, .checkcast idx, ex) = true)
    (hs : stp sc q.2.2.2.1 d (.checkcast idx) ex L S h = some (.inl (j, L', S', h'))) (hl : pL base sp ls q.2.2.1 L) (hP : va_P D pcl (pws base sp dA h) H) (hS : va_S (pAb base) s.heap H locs)
    (h01 : h0.length ≤ h.length) (h02 : psl h0 ≤ psl h) (h11 : h'.length ≤ hf.length) (h12 : psl h' ≤ psl hf)
    (hn : q.2.2.2.2[match j with | 0 => i + 1 | t + 1 => t]? = some e')
    (kk : ∀ (ls' : Array Slot) (H' : Heap) (locs' : List Loc), pL base sp ls' q.2.2.1 L' → va_P D pcl (pws base sp dA h') H' → va_S (pAb base) s.heap H' locs' →
      W p l e R s m args below meth c H' locs' (h'.length - h0.length) (psl h' - psl h0) Q (F0 m e'.1 ls' (S'.map (ptr base sp)))) :
    W p l e R s m args below meth c H locs (h.length - h0.length) (psl h - psl h0) Q (F0 m pc ls (S.map (ptr base sp))) := by
  obtain ⟨hx, hb, hml, hown, hts, hnm, hKf, hSf, hsz, hrc, hrs, hrd, hrl⟩ := C
  unfold okI at hok
  simp only [Bool.and_eq_true] at hok
  obtain ⟨hdg, hnp⟩ := okD_spec hok.1 rfl
  have hdg : decode q.2.1 pc = .ok (.checkcast idx, 3) := hdg
  simp only [stp, pcast] at hs
  split at hs
  · rename_i k r a S2
    split at hs
    · rename_i fs he
      cases hs
      have hp : e'.1 = pc + 3 := hnp e' hn
      rw [hp] at kk
      match r, hok.2 with
      | [j1], hk =>
        cases hr : pcl[k]? with
        | none =>
          simp only [okL, hr] at hk
          exact Bool.noConfusion hk
        | some r =>
          simp only [okL, hr] at hk
          exact va_castS hx hb hown (hts _ (okW_mem hk)) (hKf.1.1 k r hr).2 (va_recv hKf.1 hP hr (pws_get (pob_spec he))) hdg (kk ls H locs hl hP hS)
      | [], hk => exact Bool.noConfusion (show false = true from hk)
      | _ :: _ :: _, hk => exact Bool.noConfusion (show false = true from hk)
    · cases hs
  · rename_i r a S2
    split at hs
    · rename_i fs he
      obtain ⟨n, f⟩ := fs
      cases hs
      have hp : e'.1 = pc + 3 := hnp e' hn
      rw [hp] at kk
      match r, hok.2 with
      | [0, j1], hk =>
        have hk : okW j1 (.classLink q.1.cls idx "[I") = true := hk
        exact va_castA hx hb hown (hts _ (okW_mem hk)) hP _ (pws_get (prow_spec he)) (hKf.1.2 0 _ pt_0).2 hdg (kk ls H locs hl hP hS)
      | [], hk => simp [okL] at hk
      | [_], hk => simp [okL] at hk
      | [_ + 1, _], hk => simp [okL] at hk
      | _ :: _ :: _ :: _, hk => simp [okL] at hk
    · cases hs
  · rename_i S2 _ _
    cases hs
    have hp : e'.1 = pc + 3 := hnp e' hn
    rw [hp] at kk
    exact lv_castN hx hb hdg (kk ls H locs hl hP hS)
  · cases hs
theorem pacm_spec {x y : Value} {b : Bool} {s : State} {H : Heap} (hSf : Sf base sp sc s H) (h : pacm x y = some b) : ∃ rx ry : Option Nat, ptr base sp x = va_rf rx ∧ ptr base sp y = va_rf ry ∧ (b = true ↔ rx = ry) := by
  have hlt : ∀ z : UInt32, z.toNat < 4 → sp z.toNat < base := fun z hz => hSf.1 _ hz
  cases x <;> cases y <;> simp only [pacm] at h <;> first | (cases h; done) | skip
  · rename_i a b'
    split at h
    · rename_i hab
      subst hab
      cases h
      exact ⟨some (sp a.toNat), some (sp a.toNat), rfl, rfl, by simp⟩
    · cases h
  · rename_i a
    cases h
    exact ⟨some (sp a.toNat), none, rfl, rfl, by simp⟩
  · rename_i a b'
    split at h
    · rename_i h4
      cases h
      refine ⟨some (sp a.toNat), some (base + b'), rfl, rfl, ?_⟩
      have := hlt a h4
      simp
      omega
    · cases h
  · rename_i a
    cases h
    exact ⟨none, some (sp a.toNat), rfl, rfl, by simp⟩
  · cases h
    exact ⟨none, none, rfl, rfl, by simp⟩
  · rename_i a
    cases h
    exact ⟨none, some (base + a), rfl, rfl, by simp⟩
  · rename_i b' a
    split at h
    · rename_i h4
      cases h
      refine ⟨some (base + b'), some (sp a.toNat), rfl, rfl, ?_⟩
      have := hlt a h4
      simp
      omega
    · cases h
  · rename_i a
    cases h
    exact ⟨some (base + a), none, rfl, rfl, by simp⟩
  · rename_i a b'
    cases h
    exact ⟨some (base + a), some (base + b'), rfl, rfl, by simp⟩

set_option maxHeartbeats 4000000 in
theorem ps_acmp_eq {q : PM} {i pc d j : Nat} {ex : List Nat} {L S L' S' : List Value} {h h' h0 hf : PH} {ls : Array Slot} {H : Heap} {locs : List Loc} {e' : PI} {off : Int}
    (C : Cx p R s m args meth c base sp D dA sc q d h0 hf) (hok : okI prog q i (pc, .if_acmp .eq off, ex) = true)
    (hs : stp sc q.2.2.2.1 d (.if_acmp .eq off) ex L S h = some (.inl (j, L', S', h'))) (hl : pL base sp ls q.2.2.1 L) (hP : va_P D pcl (pws base sp dA h) H) (hS : va_S (pAb base) s.heap H locs)
    (h01 : h0.length ≤ h.length) (h02 : psl h0 ≤ psl h) (h11 : h'.length ≤ hf.length) (h12 : psl h' ≤ psl hf)
    (hn : q.2.2.2.2[match j with | 0 => i + 1 | t + 1 => t]? = some e')
    (kk : ∀ (ls' : Array Slot) (H' : Heap) (locs' : List Loc), pL base sp ls' q.2.2.1 L' → va_P D pcl (pws base sp dA h') H' → va_S (pAb base) s.heap H' locs' →
      W p l e R s m args below meth c H' locs' (h'.length - h0.length) (psl h' - psl h0) Q (F0 m e'.1 ls' (S'.map (ptr base sp)))) :
    W p l e R s m args below meth c H locs (h.length - h0.length) (psl h - psl h0) Q (F0 m pc ls (S.map (ptr base sp))) := by
  obtain ⟨hx, hb, hml, hown, hts, hnm, hKf, hSf, hsz, hrc, hrs, hrd, hrl⟩ := C
  unfold okI at hok
  simp only [Bool.and_eq_true] at hok
  obtain ⟨hdg, hnp⟩ := okD_spec hok.1 rfl
  have hdg : decode q.2.1 pc = .ok (.if_acmp .eq off, 3) := hdg
  simp only [stp] at hs
  split at hs
  · rename_i y x S2
    split at hs
    · rename_i b hb2
      obtain ⟨rx, ry, e1, e2, hab⟩ := pacm_spec hSf hb2
      simp only [List.map_cons, e1, e2]
      unfold pif at hs
      split at hs
      · rename_i t
        have hj : okJ q pc t off = true := by simpa [okL] using hok.2
        split at hs
        · rename_i hc
          cases hs
          exact lv_acmp_eq hx hb hdg (okJ_spec hj hn) (fun _ => kk ls H locs hl hP hS) (fun hf => absurd (hab.mp hc) hf)
        · rename_i hc
          cases hs
          have hp : e'.1 = pc + 3 := hnp e' hn
          rw [hp] at kk
          cases ht : q.2.2.2.2[t]? with
          | none => simp [okJ, ht] at hj
          | some e2 => exact lv_acmp_eq hx hb hdg (okJ_spec hj ht) (fun hf => absurd (hab.mpr hf) hc) (fun _ => kk ls H locs hl hP hS)
      · cases hs
    · cases hs
  · cases hs

set_option maxHeartbeats 4000000 in
theorem ps_acmp_ne {q : PM} {i pc d j : Nat} {ex : List Nat} {L S L' S' : List Value} {h h' h0 hf : PH} {ls : Array Slot} {H : Heap} {locs : List Loc} {e' : PI} {off : Int}
    (C : Cx p R s m args meth c base sp D dA sc q d h0 hf) (hok : okI prog q i (pc, .if_acmp .ne off, ex) = true)
    (hs : stp sc q.2.2.2.1 d (.if_acmp .ne off) ex L S h = some (.inl (j, L', S', h'))) (hl : pL base sp ls q.2.2.1 L) (hP : va_P D pcl (pws base sp dA h) H) (hS : va_S (pAb base) s.heap H locs)
    (h01 : h0.length ≤ h.length) (h02 : psl h0 ≤ psl h) (h11 : h'.length ≤ hf.length) (h12 : psl h' ≤ psl hf)
    (hn : q.2.2.2.2[match j with | 0 => i + 1 | t + 1 => t]? = some e')
    (kk : ∀ (ls' : Array Slot) (H' : Heap) (locs' : List Loc), pL base sp ls' q.2.2.1 L' → va_P D pcl (pws base sp dA h') H' → va_S (pAb base) s.heap H' locs' →
      W p l e R s m args below meth c H' locs' (h'.length - h0.length) (psl h' - psl h0) Q (F0 m e'.1 ls' (S'.map (ptr base sp)))) :
    W p l e R s m args below meth c H locs (h.length - h0.length) (psl h - psl h0) Q (F0 m pc ls (S.map (ptr base sp))) := by
  obtain ⟨hx, hb, hml, hown, hts, hnm, hKf, hSf, hsz, hrc, hrs, hrd, hrl⟩ := C
  unfold okI at hok
  simp only [Bool.and_eq_true] at hok
  obtain ⟨hdg, hnp⟩ := okD_spec hok.1 rfl
  have hdg : decode q.2.1 pc = .ok (.if_acmp .ne off, 3) := hdg
  simp only [stp] at hs
  split at hs
  · rename_i y x S2
    split at hs
    · rename_i b hb2
      obtain ⟨rx, ry, e1, e2, hab⟩ := pacm_spec hSf hb2
      simp only [List.map_cons, e1, e2]
      unfold pif at hs
      split at hs
      · rename_i t
        have hj : okJ q pc t off = true := by simpa [okL] using hok.2
        split at hs
        · rename_i hc
          cases hs
          exact lv_acmp_ne hx hb hdg (okJ_spec hj hn) (fun _ => kk ls H locs hl hP hS) (fun hf => absurd (hab.mpr hf) (by simpa using hc))
        · rename_i hc
          cases hs
          have hp : e'.1 = pc + 3 := hnp e' hn
          rw [hp] at kk
          cases ht : q.2.2.2.2[t]? with
          | none => simp [okJ, ht] at hj
          | some e2 => exact lv_acmp_ne hx hb hdg (okJ_spec hj ht) (fun hf => absurd (hab.mp (by simpa using hc)) hf) (fun _ => kk ls H locs hl hP hS)
      · cases hs
    · cases hs
  · cases hs
theorem plook_spec {q : PM} {pc : Nat} {x : Int} {d : Int} {t0 : Nat} : ∀ (ps : List (Int × Int)) (ts : List Nat), ts.length = ps.length → (ps.zip ts).all (fun x => okJ q pc x.2 x.1.2) = true → okJ q pc t0 d = true → okJ q pc (plook ps ts t0 x) (Op.lookupswitch.offset ps d x) = true
  | [], [], _, _, h0 => h0
  | [], _ :: _, hl, _, _ => by simp at hl
  | _ :: _, [], hl, _, _ => by simp at hl
  | (a, o) :: ps, t :: ts, hl, ha, h0 => by
    simp only [List.zip_cons_cons, List.all_cons, Bool.and_eq_true] at ha
    rw [Op.lookupswitch.offset_cons, plook]
    by_cases h : a = x
    · rw [if_pos h.symm, if_pos h]
      exact ha.1
    · rw [if_neg (fun z => h z.symm), if_neg h]
      exact plook_spec ps ts (by simpa using hl) ha.2 h0

set_option maxHeartbeats 4000000 in
theorem ps_tableswitch {q : PM} {i pc d j : Nat} {ex : List Nat} {L S L' S' : List Value} {h h' h0 hf : PH} {ls : Array Slot} {H : Heap} {locs : List Loc} {e' : PI} {dflt lo hi : Int} {offs : Array Int}
    (C : Cx p R s m args meth c base sp D dA sc q d h0 hf) (hok : okI prog q i (pc, .tableswitch dflt lo hi offs, ex) = true)
    (hs : stp sc q.2.2.2.1 d (.tableswitch dflt lo hi offs) ex L S h = some (.inl (j, L', S', h'))) (hl : pL base sp ls q.2.2.1 L) (hP : va_P D pcl (pws base sp dA h) H) (hS : va_S (pAb base) s.heap H locs)
    (h01 : h0.length ≤ h.length) (h02 : psl h0 ≤ psl h) (h11 : h'.length ≤ hf.length) (h12 : psl h' ≤ psl hf)
    (hn : q.2.2.2.2[match j with | 0 => i + 1 | t + 1 => t]? = some e')
    (kk : ∀ (ls' : Array Slot) (H' : Heap) (locs' : List Loc), pL base sp ls' q.2.2.1 L' → va_P D pcl (pws base sp dA h') H' → va_S (pAb base) s.heap H' locs' →
      W p l e R s m args below meth c H' locs' (h'.length - h0.length) (psl h' - psl h0) Q (F0 m e'.1 ls' (S'.map (ptr base sp)))) :
    W p l e R s m args below meth c H locs (h.length - h0.length) (psl h - psl h0) Q (F0 m pc ls (S.map (ptr base sp))) := by
  obtain ⟨hx, hb, hml, hown, hts, hnm, hKf, hSf, hsz, hrc, hrs, hrd, hrl⟩ := C
  unfold okI at hok
  simp only [Bool.and_eq_true] at hok
  obtain ⟨ln, hdg⟩ := okD_sw hok.1 rfl
  have hdg : decode q.2.1 pc = .ok (.tableswitch dflt lo hi offs, ln) := hdg
  simp only [stp, ptab] at hs
  split at hs
  · rename_i t0 ts x S2
    have hk := hok.2
    simp only [okL, Bool.and_eq_true] at hk
    split at hs
    · rename_i hc
      cases hs
      exact lv_tableOut hx hb hdg hc (okJ_spec hk.1 hn) (kk ls H locs hl hP hS)
    · rename_i hc
      split at hs
      · rename_i t ht
        cases hs
        have hlt := (List.getElem?_eq_some_iff.mp ht).1
        have h3 := List.all_eq_true.mp hk.2 (x.toInt - lo).toNat (List.mem_range.mpr hlt)
        simp only [ht] at h3
        cases ho : offs[(x.toInt - lo).toNat]? with
        | none => simp [ho] at h3
        | some o =>
          simp only [ho] at h3
          exact lv_tableIn hx hb hdg (fun z => hc (Or.inl z)) (fun z => hc (Or.inr z)) ho (okJ_spec h3 hn) (kk ls H locs hl hP hS)
      · cases hs
  · cases hs

set_option maxHeartbeats 4000000 in
theorem ps_lookupswitch {q : PM} {i pc d j : Nat} {ex : List Nat} {L S L' S' : List Value} {h h' h0 hf : PH} {ls : Array Slot} {H : Heap} {locs : List Loc} {e' : PI} {dflt : Int} {ps : Array (Int × Int)}
    (C : Cx p R s m args meth c base sp D dA sc q d h0 hf) (hok : okI prog q i (pc, .lookupswitch dflt ps, ex) = true)
    (hs : stp sc q.2.2.2.1 d (.lookupswitch dflt ps) ex L S h = some (.inl (j, L', S', h'))) (hl : pL base sp ls q.2.2.1 L) (hP : va_P D pcl (pws base sp dA h) H) (hS : va_S (pAb base) s.heap H locs)
    (h01 : h0.length ≤ h.length) (h02 : psl h0 ≤ psl h) (h11 : h'.length ≤ hf.length) (h12 : psl h' ≤ psl hf)
    (hn : q.2.2.2.2[match j with | 0 => i + 1 | t + 1 => t]? = some e')
    (kk : ∀ (ls' : Array Slot) (H' : Heap) (locs' : List Loc), pL base sp ls' q.2.2.1 L' → va_P D pcl (pws base sp dA h') H' → va_S (pAb base) s.heap H' locs' →
      W p l e R s m args below meth c H' locs' (h'.length - h0.length) (psl h' - psl h0) Q (F0 m e'.1 ls' (S'.map (ptr base sp)))) :
    W p l e R s m args below meth c H locs (h.length - h0.length) (psl h - psl h0) Q (F0 m pc ls (S.map (ptr base sp))) := by
  obtain ⟨hx, hb, hml, hown, hts, hnm, hKf, hSf, hsz, hrc, hrs, hrd, hrl⟩ := C
  unfold okI at hok
  simp only [Bool.and_eq_true] at hok
  obtain ⟨ln, hdg⟩ := okD_sw hok.1 rfl
  have hdg : decode q.2.1 pc = .ok (.lookupswitch dflt ps, ln) := hdg
  simp only [stp] at hs
  split at hs
  · rename_i t0 ts x S2
    have hk := hok.2
    simp only [okL, Bool.and_eq_true, decide_eq_true_eq] at hk
    cases hs
    have h3 := plook_spec (x := x.toInt) ps.toList ts hk.1.1.2 hk.1.2 hk.1.1.1
    exact lv_lookup hx hb hdg hk.2 rfl (okJ_spec h3 hn) (kk ls H locs hl hP hS)
  · cases hs

set_option maxHeartbeats 4000000 in
theorem ps_special {q : PM} {i pc d j : Nat} {ex : List Nat} {L S L' S' : List Value} {h h' h0 hf : PH} {ls : Array Slot} {H : Heap} {locs : List Loc} {e' : PI} {idx : Nat}
    (C : Cx p R s m args meth c base sp D dA sc q d h0 hf) (hok : okI prog q i (pc, .invokespecial idx, ex) = true)
    (hs : stp sc q.2.2.2.1 d (.invokespecial idx) ex L S h = some (.inl (j, L', S', h'))) (hl : pL base sp ls q.2.2.1 L) (hP : va_P D pcl (pws base sp dA h) H) (hS : va_S (pAb base) s.heap H locs)
    (h01 : h0.length ≤ h.length) (h02 : psl h0 ≤ psl h) (h11 : h'.length ≤ hf.length) (h12 : psl h' ≤ psl hf)
    (hn : q.2.2.2.2[match j with | 0 => i + 1 | t + 1 => t]? = some e')
    (kk : ∀ (ls' : Array Slot) (H' : Heap) (locs' : List Loc), pL base sp ls' q.2.2.1 L' → va_P D pcl (pws base sp dA h') H' → va_S (pAb base) s.heap H' locs' →
      W p l e R s m args below meth c H' locs' (h'.length - h0.length) (psl h' - psl h0) Q (F0 m e'.1 ls' (S'.map (ptr base sp)))) :
    W p l e R s m args below meth c H locs (h.length - h0.length) (psl h - psl h0) Q (F0 m pc ls (S.map (ptr base sp))) := by
  obtain ⟨hx, hb, hml, hown, hts, hnm, hKf, hSf, hsz, hrc, hrs, hrd, hrl⟩ := C
  unfold okI at hok
  simp only [Bool.and_eq_true] at hok
  obtain ⟨hdg, hnp⟩ := okD_spec hok.1 rfl
  have hdg : decode q.2.1 pc = .ok (.invokespecial idx, 3) := hdg
  simp only [stp, pinvI] at hs
  split at hs
  · rename_i r
    split at hs
    · rename_i a S2
      split at hs
      · rename_i hc
        cases hs
        have hp : e'.1 = pc + 3 := hnp e' hn
        rw [hp] at kk
        match r, hok.2 with
        | [j1, j2, j3], hk =>
          simp only [okL, Bool.and_eq_true] at hk
          refine W.objInit hx hb hown (hts _ (okW_mem hk.1.1)) (hts _ (okW_mem hk.1.2)) (hts _ (okW_mem hk.2)) rfl (hl.1.trans hml.symm) rfl hdg (by omega) (by
            have h2 : 2 * (F0 m pc ls (.ref (base + a) :: List.map (ptr base sp) S')).monitorRoom + ((List.map (ptr base sp) S').map fun v => v.category).sum ≤ 8 := lv_room (by rw [← psum_map]; exact hc.2)
            exact Nat.le_trans (Nat.add_le_add_right h2 12) (by omega)) ?_
          exact W.eq (g2 := F0 m (pc + 3) ls (List.map (ptr base sp) S')) rfl (kk ls H locs hl hP hS)
        | [], hk => simp [okL] at hk
        | [_], hk => simp [okL] at hk
        | [_, _], hk => simp [okL] at hk
        | _ :: _ :: _ :: _ :: _, hk => simp [okL] at hk
      · cases hs
    · cases hs
  · split at hs
    · split at hs
      · cases hs
      · cases hs
    · cases hs
  · cases hs

set_option maxHeartbeats 4000000 in
theorem ps_static {q : PM} {i pc d j : Nat} {ex : List Nat} {L S L' S' : List Value} {h h' h0 hf : PH} {ls : Array Slot} {H : Heap} {locs : List Loc} {e' : PI} {idx : Nat}
    (C : Cx p R s m args meth c base sp D dA sc q d h0 hf) (hok : okI prog q i (pc, .invokestatic idx, ex) = true)
    (hs : stp sc q.2.2.2.1 d (.invokestatic idx) ex L S h = some (.inl (j, L', S', h'))) (hl : pL base sp ls q.2.2.1 L) (hP : va_P D pcl (pws base sp dA h) H) (hS : va_S (pAb base) s.heap H locs)
    (h01 : h0.length ≤ h.length) (h02 : psl h0 ≤ psl h) (h11 : h'.length ≤ hf.length) (h12 : psl h' ≤ psl hf)
    (hn : q.2.2.2.2[match j with | 0 => i + 1 | t + 1 => t]? = some e')
    (kk : ∀ (ls' : Array Slot) (H' : Heap) (locs' : List Loc), pL base sp ls' q.2.2.1 L' → va_P D pcl (pws base sp dA h') H' → va_S (pAb base) s.heap H' locs' →
      W p l e R s m args below meth c H' locs' (h'.length - h0.length) (psl h' - psl h0) Q (F0 m e'.1 ls' (S'.map (ptr base sp)))) :
    W p l e R s m args below meth c H locs (h.length - h0.length) (psl h - psl h0) Q (F0 m pc ls (S.map (ptr base sp))) := by
  obtain ⟨hx, hb, hml, hown, hts, hnm, hKf, hSf, hsz, hrc, hrs, hrd, hrl⟩ := C
  unfold okI at hok
  simp only [Bool.and_eq_true] at hok
  obtain ⟨hdg, hnp⟩ := okD_spec hok.1 rfl
  have hdg : decode q.2.1 pc = .ok (.invokestatic idx, 3) := hdg
  simp only [stp, pinvS] at hs
  split at hs
  · rename_i r
    unfold pcopy at hs
    split at hs
    · rename_i n dp b sp0 a S2
      split at hs
      · rename_i n0 f n1 g he1 he2
        split at hs
        · rename_i hc
          cases hs
          have hp : e'.1 = pc + 3 := hnp e' hn
          rw [hp] at kk
          obtain ⟨z1, z2⟩ := psl_keep (e := .inl (0, n1, .inl (va_cpy f g sp0.toNatClampNeg dp.toNatClampNeg n.toNatClampNeg))) (prow_spec he2) rfl
          rw [z1, z2] at kk
          match r, hok.2 with
          | [j1, j2, j3, j4], hk =>
            simp only [okL, Bool.and_eq_true] at hk
            have hsum : ((List.map (ptr base sp) S').map fun v => v.category).sum ≤ 8 := by rw [← psum_map]; exact hc.2.2.2.2.2.2
            exact va_copyi (ty := .int) hx hb (by rw [hml]; exact hl.1.symm) hown (hts _ (okW_mem hk.1.1.1)) (hts _ (okW_mem hk.1.1.2)) (hts _ (okW_mem hk.1.2)) (hts _ (okW_mem hk.2)) hKf.1 hP pws_D hS _ _ _ _ (pws_get (prow_spec he1)) (pws_get (prow_spec he2)) pt_0 pt_0 rfl hc.1 hc.2.1 hc.2.2.1 hc.2.2.2.1 hc.2.2.2.2.1 (fun _ _ => rfl) (by omega) (Nat.le_trans (Nat.add_le_add_right hsum _) (by simp [nativeFrameWords]; omega)) hdg (fun H1 locs1 hP1 _ hS1 => kk ls H1 locs1 hl (by rw [← pws_set]; exact hP1) hS1)
          | [], hk => simp [okL] at hk
          | [_], hk => simp [okL] at hk
          | [_, _], hk => simp [okL] at hk
          | [_, _, _], hk => simp [okL] at hk
          | _ :: _ :: _ :: _ :: _ :: _, hk => simp [okL] at hk
        · cases hs
      · split at hs
        · rename_i n0 f n1 g he1 he2
          split at hs
          · rename_i hc
            cases hs
            have hp : e'.1 = pc + 3 := hnp e' hn
            rw [hp] at kk
            obtain ⟨z1, z2⟩ := psl_keep (e := .inl (4, n1, .inr (.inr (va_cpy f g sp0.toNatClampNeg dp.toNatClampNeg n.toNatClampNeg)))) (prowR_spec he2) rfl
            rw [z1, z2] at kk
            match r, hok.2 with
            | [j1, j2, j3, j4], hk =>
              simp only [okL, Bool.and_eq_true] at hk
              have hsum : ((List.map (ptr base sp) S').map fun v => v.category).sum ≤ 8 := by rw [← psum_map]; exact hc.2.2.2.2.2.2.1
              refine va_copyM (E0 := "java/lang/Object") (E1 := "java/lang/Object") hx hb (by rw [hml]; exact hl.1.symm) hown (hts _ (okW_mem hk.1.1.1)) (hts _ (okW_mem hk.1.1.2)) (hts _ (okW_mem hk.1.2)) (hts _ (okW_mem hk.2)) hKf.1 hP pws_D hS _ _ _ _ (pws_get (prowR_spec he1)) (pws_get (prowR_spec he2)) pt_4 pt_4 hc.1 hc.2.1 hc.2.2.1 hc.2.2.2.1 hc.2.2.2.2.1 ?_ (by omega) (Nat.le_trans (Nat.add_le_add_right hsum _) (by simp [nativeFrameWords]; omega)) hdg (fun H1 locs1 hP1 _ hS1 => kk ls H1 locs1 hl ?_ hS1)
              · intro i2 hi2 y hy
                have hall := List.all_eq_true.mp hc.2.2.2.2.2.2.2 i2 (List.mem_range.mpr hi2)
                cases hfy : f (sp0.toNatClampNeg + i2) with
                | none => simp [hfy] at hy
                | some y0 =>
                  simp only [hfy, Option.map_some, Option.some.injEq] at hy
                  subst hy
                  simp only [hfy] at hall
                  cases hob : h[y0]? with
                  | none => simp [hob] at hall
                  | some ob =>
                    cases ob with
                    | inl _ => simp [hob] at hall
                    | inr ob =>
                      obtain ⟨ck, fs⟩ := ob
                      obtain ⟨rr, hr, -⟩ := hP _ _ (pws_get hob)
                      have hr : pcl[ck]? = some rr := hr
                      exact va_rAny hKf.1 hP (pws_get hob) hr (fun comp c0 h1 h2 => vb_asgC (hKf.2.1 _ (pcl_ok ck rr hr).2.2.2.2 rfl) comp c0 h1 h2)
              · rw [← pws_set]
                have e2 : (fun j => Option.map (fun a => base + a) (va_cpy f g sp0.toNatClampNeg dp.toNatClampNeg n.toNatClampNeg j)) = va_cpy (fun j => (f j).map (fun a => base + a)) (fun j => (g j).map (fun a => base + a)) sp0.toNatClampNeg dp.toNatClampNeg n.toNatClampNeg := by
                  funext jj
                  unfold va_cpy
                  split <;> rfl
                simp only [pE, e2]
                exact hP1
            | [], hk => simp [okL] at hk
            | [_], hk => simp [okL] at hk
            | [_, _], hk => simp [okL] at hk
            | [_, _, _], hk => simp [okL] at hk
            | _ :: _ :: _ :: _ :: _ :: _, hk => simp [okL] at hk
          · cases hs
        · cases hs
    · cases hs
  · rename_i w r
    unfold pmath at hs
    split at hs
    · rename_i y x S2
      split at hs
      · rename_i hc
        cases hs
        have hp : e'.1 = pc + 3 := hnp e' hn
        rw [hp] at kk
        match r, hok.2 with
        | [j1, j2, j3, j4], hk =>
          simp only [okL, Bool.and_eq_true] at hk
          have hsum : ((List.map (ptr base sp) S2).map fun v => v.category).sum ≤ 8 := by rw [← psum_map]; exact hc.2
          exact va_mmax hx hb (by rw [hml]; exact hl.1.symm) hown (hts _ (okW_mem hk.1.1.1)) (hts _ (okW_mem hk.1.1.2)) (hts _ (okW_mem hk.1.2)) (hts _ (okW_mem hk.2)) (by omega) (Nat.le_trans (Nat.add_le_add_right hsum _) (by omega)) (by omega) (by omega) hdg (kk ls H locs hl hP hS)
        | [], hk => simp [okL] at hk
        | [_], hk => simp [okL] at hk
        | [_, _], hk => simp [okL] at hk
        | [_, _, _], hk => simp [okL] at hk
        | _ :: _ :: _ :: _ :: _ :: _, hk => simp [okL] at hk
      · cases hs
    · rename_i y x S2
      split at hs
      · rename_i hc
        cases hs
        have hp : e'.1 = pc + 3 := hnp e' hn
        rw [hp] at kk
        match r, hok.2 with
        | [j1, j2, j3, j4], hk =>
          simp only [okL, Bool.and_eq_true] at hk
          have hsum : ((List.map (ptr base sp) S2).map fun v => v.category).sum ≤ 8 := by rw [← psum_map]; exact hc.2
          exact va_mmin hx hb (by rw [hml]; exact hl.1.symm) hown (hts _ (okW_mem hk.1.1.1)) (hts _ (okW_mem hk.1.1.2)) (hts _ (okW_mem hk.1.2)) (hts _ (okW_mem hk.2)) (by omega) (Nat.le_trans (Nat.add_le_add_right hsum _) (by omega)) (by omega) (by omega) hdg (kk ls H locs hl hP hS)
        | [], hk => simp [okL] at hk
        | [_], hk => simp [okL] at hk
        | [_, _], hk => simp [okL] at hk
        | [_, _, _], hk => simp [okL] at hk
        | _ :: _ :: _ :: _ :: _ :: _, hk => simp [okL] at hk
      · cases hs
    · rename_i x S2
      split at hs
      · rename_i hc
        cases hs
        have hp : e'.1 = pc + 3 := hnp e' hn
        rw [hp] at kk
        match r, hok.2 with
        | [j1, j2, j3, j4], hk =>
          simp only [okL, Bool.and_eq_true] at hk
          have hsum : ((List.map (ptr base sp) S2).map fun v => v.category).sum ≤ 8 := by rw [← psum_map]; exact hc.2
          exact va_mabs hx hb (by rw [hml]; exact hl.1.symm) hown (hts _ (okW_mem hk.1.1.1)) (hts _ (okW_mem hk.1.1.2)) (hts _ (okW_mem hk.1.2)) (hts _ (okW_mem hk.2)) (by omega) (Nat.le_trans (Nat.add_le_add_right hsum _) (by omega)) (by omega) (by omega) hdg (kk ls H locs hl hP hS)
        | [], hk => simp [okL] at hk
        | [_], hk => simp [okL] at hk
        | [_, _], hk => simp [okL] at hk
        | [_, _, _], hk => simp [okL] at hk
        | _ :: _ :: _ :: _ :: _ :: _, hk => simp [okL] at hk
      · cases hs
    · cases hs
  · split at hs
    · cases hs
    · cases hs
  · cases hs

set_option maxHeartbeats 4000000 in
theorem ps_virtual {q : PM} {i pc d j : Nat} {ex : List Nat} {L S L' S' : List Value} {h h' h0 hf : PH} {ls : Array Slot} {H : Heap} {locs : List Loc} {e' : PI} {idx : Nat}
    (C : Cx p R s m args meth c base sp D dA sc q d h0 hf) (hok : okI prog q i (pc, .invokevirtual idx, ex) = true)
    (hs : stp sc q.2.2.2.1 d (.invokevirtual idx) ex L S h = some (.inl (j, L', S', h'))) (hl : pL base sp ls q.2.2.1 L) (hP : va_P D pcl (pws base sp dA h) H) (hS : va_S (pAb base) s.heap H locs)
    (h01 : h0.length ≤ h.length) (h02 : psl h0 ≤ psl h) (h11 : h'.length ≤ hf.length) (h12 : psl h' ≤ psl hf)
    (hn : q.2.2.2.2[match j with | 0 => i + 1 | t + 1 => t]? = some e')
    (kk : ∀ (ls' : Array Slot) (H' : Heap) (locs' : List Loc), pL base sp ls' q.2.2.1 L' → va_P D pcl (pws base sp dA h') H' → va_S (pAb base) s.heap H' locs' →
      W p l e R s m args below meth c H' locs' (h'.length - h0.length) (psl h' - psl h0) Q (F0 m e'.1 ls' (S'.map (ptr base sp)))) :
    W p l e R s m args below meth c H locs (h.length - h0.length) (psl h - psl h0) Q (F0 m pc ls (S.map (ptr base sp))) := by
  obtain ⟨hx, hb, hml, hown, hts, hnm, hKf, hSf, hsz, hrc, hrs, hrd, hrl⟩ := C
  unfold okI at hok
  simp only [Bool.and_eq_true] at hok
  obtain ⟨hdg, hnp⟩ := okD_spec hok.1 rfl
  have hdg : decode q.2.1 pc = .ok (.invokevirtual idx, 3) := hdg
  simp only [stp, pinvV] at hs
  split at hs
  · rename_i r
    unfold pclone at hs
    split at hs
    · rename_i a S2
      split at hs
      · rename_i n f he
        split at hs
        · rename_i hc
          cases hs
          have hp : e'.1 = pc + 3 := hnp e' hn
          rw [hp] at kk
          have hlen : (h ++ [(.inl (0, n, .inl f) : PC)]).length = h.length + 1 := by simp
          have hpsl : psl (h ++ [(.inl (0, n, .inl f) : PC)]) = psl h + n := by rw [psl_push]; rfl
          rw [hlen] at h11
          rw [hpsl] at h12
          match r, hok.2 with
          | [j1, j2, j3, j4, j5, j6], hk =>
            simp only [okL, Bool.and_eq_true] at hk
            have hsum : ((List.map (ptr base sp) S2).map fun v => v.category).sum ≤ 8 := by rw [← psum_map]; exact hc.2
            refine va_clone (ty := .int) hx hb (by rw [hml]; exact hl.1.symm) hown (hts _ (okW_mem hk.1.1.1.1.1)) (hts _ (okW_mem hk.1.1.1.1.2)) (hts _ (okW_mem hk.1.1.1.2)) (hts _ (okW_mem hk.1.1.2)) (hts _ (okW_mem hk.1.2)) (hKf.2.1 _ (okN_mem hk.2).1 rfl) hKf.1 hP pws_D hS (fun q hq => pA_all (base := base) _ q hq hsz) _ _ (pws_get (prow_spec he)) pt_0 (hKf.1.2 0 _ pt_0).2 ?_ (by omega) (Nat.le_trans (Nat.add_le_add_right hsum _) (by omega)) (by omega) (by show _ + n ≤ _; omega) hdg (fun q H1 hK1 hP1 hD1 hS1 => ?_)
            · intro i2 v hv
              have hv : (arrV (dA 0) n (fun j => .int (f j))).slots[i2]? = some v := hv
              have hi2 : i2 < n := by
                have := (Array.getElem?_eq_some_iff.mp hv).1
                rwa [arrV_size] at this
              rw [arrV_read _ _ hi2] at hv
              cases hv
              rfl
            · exact pmade (ec := .inl (0, n, .inl f)) hsz h01 h02 rfl hP1 hD1 (fun hP2 => kk ls H1 locs hl hP2 hS1)
          | [], hk => simp [okL] at hk
          | [_], hk => simp [okL] at hk
          | [_, _], hk => simp [okL] at hk
          | [_, _, _], hk => simp [okL] at hk
          | [_, _, _, _], hk => simp [okL] at hk
          | [_, _, _, _, _], hk => simp [okL] at hk
          | _ :: _ :: _ :: _ :: _ :: _ :: _ :: _, hk => simp [okL] at hk
        · cases hs
      · cases hs
    · cases hs
  · rename_i r
    unfold pgetC at hs
    split at hs
    · rename_i a S2
      split at hs
      · rename_i nf he
        obtain ⟨n, f⟩ := nf
        split at hs
        · rename_i hc
          cases hs
          have hp : e'.1 = pc + 3 := hnp e' hn
          rw [hp] at kk
          match r, hok.2 with
          | [j1, j2, j3, j4, j5], hk =>
            simp only [okL, Bool.and_eq_true] at hk
            have hsum : ((List.map (ptr base sp) S2).map fun v => v.category).sum ≤ 8 := by rw [← psum_map]; exact hc.2
            have hcell := hP _ _ (pws_get (prowR_spec he))
            exact va_getC (mi := sp 4) (C := "[Ljava/lang/Object;") hx hb (by rw [hml]; exact hl.1.symm) hown (hts _ (okW_mem hk.1.1.1.1)) (va_Nw.use rfl (hKf.2.1 _ (okN_mem hk.1.1.1.2).1 rfl)) (hts _ (okW_mem hk.1.1.2)) (hts _ (okW_mem hk.1.2)) (hts _ (okW_mem hk.2)) hSf.2.2.2.2.2.2.2.2.2.2 ⟨_, hcell, rfl, va_nmO (hKf.1.2 4 _ pt_4).2 rfl⟩ (by omega) (Nat.le_trans (Nat.add_le_add_right hsum _) (by omega)) hdg (kk ls H locs hl hP hS)
          | [], hk => simp [okL] at hk
          | [_], hk => simp [okL] at hk
          | [_, _], hk => simp [okL] at hk
          | [_, _, _], hk => simp [okL] at hk
          | [_, _, _, _], hk => simp [okL] at hk
          | _ :: _ :: _ :: _ :: _ :: _ :: _, hk => simp [okL] at hk
        · cases hs
      · cases hs
    · cases hs
  · split at hs
    · split at hs
      · split at hs
        · cases hs
        · cases hs
      · cases hs
    · split at hs
      · cases hs
      · cases hs
    · cases hs
  · cases hs
end PS3
