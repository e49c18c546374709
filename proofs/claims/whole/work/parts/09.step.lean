/-! ===== steps that touch cells ===== -/
section PS2
variable {p : Program} {l : Launch} {e : Env} {R : Room} {s : State} {m : MethodId} {args : Array Value} {below : List Frame} {meth : Method} {c : Code} {Q : State → Prop}
variable {base : Nat} {sp : Nat → Nat} {D : va_G} {dA : Nat → ClassId} {sc : Nat × (Nat → Int32)}
theorem pt_0 {dA : Nat → ClassId} : (ptys dA)[0]? = some (dA 0, .int) := rfl
theorem pt_1 {dA : Nat → ClassId} : (ptys dA)[1]? = some (dA 1, .long) := rfl
theorem pt_2 {dA : Nat → ClassId} : (ptys dA)[2]? = some (dA 2, .boolean) := rfl
theorem pt_3 {dA : Nat → ClassId} : (ptys dA)[3]? = some (dA 3, .byte) := rfl
theorem pt_4 {dA : Nat → ClassId} : (ptys dA)[4]? = some (dA 4, .object "java/lang/Object") := rfl
theorem pt_all {dA : Nat → ClassId} {t : Nat} (h : t < 5) : (ptys dA)[t]? = some (dA t, pkind t) := by
  rcases (show t = 0 ∨ t = 1 ∨ t = 2 ∨ t = 3 ∨ t = 4 by omega) with rfl | rfl | rfl | rfl | rfl <;> rfl
theorem sp_out {k : Nat} {s : State} {H : Heap} (h : Sf base sp sc s H) (hk : k < 4) : ¬ pAb base (sp k) := by
  have := h.1 k hk
  show ¬ base ≤ sp k
  omega
theorem psl_keep {h : PH} {a : Nat} {e0 e : PC} (h0 : h[a]? = some e0) (hz : psz e = psz e0) : (h.set a e).length = h.length ∧ psl (h.set a e) = psl h := ⟨List.length_set, psl_set h0 hz⟩
theorem pP_low {h h0 : PH} {H H0 : Heap} {locs : List Loc} (hP : va_P D pcl (pws base sp dA h) H) (hS : va_S (pAb base) H0 H locs) (hz : H0.size = base + h0.length) (h01 : h0.length ≤ h.length) : base + h.length ≤ H.size := by
  have hS1 := hS.1
  by_cases hl : h.length = 0
  · omega
  · have hk : h.length - 1 < h.length := by omega
    have hg : h[h.length - 1]? = some h[h.length - 1] := List.getElem?_eq_getElem hk
    have := (hP _ _ (pws_get hg)).lt
    dsimp only at this
    omega
theorem okF_spec {q : PM} {idx k f j : Nat} (h : okF q idx k f j = true) : ∃ r, pcl[k]? = some r ∧ f < r.2.2 ∧ Cond.fieldLink q.1.cls idx (r.2.1 f).1 (r.2.1 f).2.1 (r.2.1 f).2.2.1 ∈ wg := by
  unfold okF at h
  cases hr : pcl[k]? with
  | none => rw [hr] at h; cases h
  | some r =>
    rw [hr] at h
    simp only [Bool.and_eq_true, decide_eq_true_eq] at h
    exact ⟨r, rfl, h.1, okW_mem h.2⟩
theorem okFS_spec {q : PM} {idx k f j js : Nat} (h : okFS q idx k f j js = true) : ∃ r, pcl[k]? = some r ∧ f < r.2.2 ∧ Cond.fieldLink q.1.cls idx r.1 (r.2.1 f).2.1 (r.2.1 f).2.2.1 ∈ wg ∧ Cond.sameField r.1 (r.2.1 f).1 (r.2.1 f).2.1 (r.2.1 f).2.2.1 ∈ wg := by
  unfold okFS at h
  cases hr : pcl[k]? with
  | none => rw [hr] at h; cases h
  | some r =>
    rw [hr] at h
    simp only [Bool.and_eq_true, decide_eq_true_eq] at h
    exact ⟨r, rfl, h.1.1, okW_mem h.1.2, okW_mem h.2⟩

set_option maxHeartbeats 4000000 in
theorem ps_ldc {q : PM} {i pc d j : Nat} {ex : List Nat} {L S L' S' : List Value} {h h' h0 hf : PH} {ls : Array Slot} {H : Heap} {locs : List Loc} {e' : PI} {idx : Nat}
    (C : Cx p R s m args meth c base sp D dA sc q d h0 hf) (hok : okI prog q i (pc, .ldc idx, ex) = true)
    (hs : stp sc q.2.2.2.1 d (.ldc idx) ex L S h = some (.inl (j, L', S', h'))) (hl : pL base sp ls q.2.2.1 L) (hP : va_P D pcl (pws base sp dA h) H) (hS : va_S (pAb base) s.heap H locs)
    (h01 : h0.length ≤ h.length) (h02 : psl h0 ≤ psl h) (h11 : h'.length ≤ hf.length) (h12 : psl h' ≤ psl hf)
    (hn : q.2.2.2.2[match j with | 0 => i + 1 | t + 1 => t]? = some e')
    (kk : ∀ (ls' : Array Slot) (H' : Heap) (locs' : List Loc), pL base sp ls' q.2.2.1 L' → va_P D pcl (pws base sp dA h') H' → va_S (pAb base) s.heap H' locs' →
      W p l e R s m args below meth c H' locs' (h'.length - h0.length) (psl h' - psl h0) Q (F0 m e'.1 ls' (S'.map (ptr base sp)))) :
    W p l e R s m args below meth c H locs (h.length - h0.length) (psl h - psl h0) Q (F0 m pc ls (S.map (ptr base sp))) := by
  obtain ⟨hx, hb, hml, hown, hts, hnm, hKf, hSf, hsz, hrc, hrs, hrd, hrl⟩ := C
  unfold okI at hok
  simp only [Bool.and_eq_true] at hok
  obtain ⟨hdg, hnp⟩ := okD_spec hok.1 rfl
  have hdg : decode q.2.1 pc = .ok (.ldc idx, 2) := hdg
  simp only [stp, pldc] at hs
  split at hs
  · rename_i v r
    cases hs
    have hp : e'.1 = pc + 2 := hnp e' hn
    rw [hp] at kk
    match r, hok.2 with
    | [j1], hk => exact lv_ldc hx hb hown (hts _ (okW_mem hk)) hdg (kk ls H locs hl hP hS)
    | [], hk => exact Bool.noConfusion (show false = true from hk)
    | _ :: _ :: _, hk => exact Bool.noConfusion (show false = true from hk)
  · rename_i r
    cases hs
    have hp : e'.1 = pc + 2 := hnp e' hn
    rw [hp] at kk
    match r, hok.2 with
    | [j1], hk =>
      have hk : (q.1.cls == "RowAuditor$Parser" && idx == 141) = true := hk
      simp only [Bool.and_eq_true, beq_iff_eq] at hk
      have hZ : vk_R q.1.cls idx "ksdhwvoepqant" (sp 2) s := by rw [hk.1, hk.2]; exact hSf.2.2.2.2.2.1
      exact va_ldcS hx hb hown hZ hdg (kk ls H locs hl hP hS)
    | [], hk => exact Bool.noConfusion (show false = true from hk)
    | _ :: _ :: _, hk => exact Bool.noConfusion (show false = true from hk)
  · rename_i r
    cases hs
    have hp : e'.1 = pc + 2 := hnp e' hn
    rw [hp] at kk
    match r, hok.2 with
    | [j1], hk => exact va_ldcM (mi := sp 4) hx hb hown (hts _ (okW_mem hk)) hSf.2.2.2.2.2.2.2.2.2.2 hdg (kk ls H locs hl hP hS)
    | [], hk => exact Bool.noConfusion (show false = true from hk)
    | _ :: _ :: _, hk => exact Bool.noConfusion (show false = true from hk)
  · cases hs

set_option maxHeartbeats 4000000 in
theorem ps_ldc_w {q : PM} {i pc d j : Nat} {ex : List Nat} {L S L' S' : List Value} {h h' h0 hf : PH} {ls : Array Slot} {H : Heap} {locs : List Loc} {e' : PI} {idx : Nat}
    (C : Cx p R s m args meth c base sp D dA sc q d h0 hf) (hok : okI prog q i (pc, .ldc_w idx, ex) = true)
    (hs : stp sc q.2.2.2.1 d (.ldc_w idx) ex L S h = some (.inl (j, L', S', h'))) (hl : pL base sp ls q.2.2.1 L) (hP : va_P D pcl (pws base sp dA h) H) (hS : va_S (pAb base) s.heap H locs)
    (h01 : h0.length ≤ h.length) (h02 : psl h0 ≤ psl h) (h11 : h'.length ≤ hf.length) (h12 : psl h' ≤ psl hf)
    (hn : q.2.2.2.2[match j with | 0 => i + 1 | t + 1 => t]? = some e')
    (kk : ∀ (ls' : Array Slot) (H' : Heap) (locs' : List Loc), pL base sp ls' q.2.2.1 L' → va_P D pcl (pws base sp dA h') H' → va_S (pAb base) s.heap H' locs' →
      W p l e R s m args below meth c H' locs' (h'.length - h0.length) (psl h' - psl h0) Q (F0 m e'.1 ls' (S'.map (ptr base sp)))) :
    W p l e R s m args below meth c H locs (h.length - h0.length) (psl h - psl h0) Q (F0 m pc ls (S.map (ptr base sp))) := by
  obtain ⟨hx, hb, hml, hown, hts, hnm, hKf, hSf, hsz, hrc, hrs, hrd, hrl⟩ := C
  unfold okI at hok
  simp only [Bool.and_eq_true] at hok
  obtain ⟨hdg, hnp⟩ := okD_spec hok.1 rfl
  have hdg : decode q.2.1 pc = .ok (.ldc_w idx, 3) := hdg
  simp only [stp, pldc] at hs
  split at hs
  · rename_i v r
    cases hs
    have hp : e'.1 = pc + 3 := hnp e' hn
    rw [hp] at kk
    match r, hok.2 with
    | [j1], hk => exact lv_ldcw hx hb hown (hts _ (okW_mem hk)) hdg (kk ls H locs hl hP hS)
    | [], hk => exact Bool.noConfusion (show false = true from hk)
    | _ :: _ :: _, hk => exact Bool.noConfusion (show false = true from hk)
  · rename_i r
    exact Bool.noConfusion (show false = true from hok.2)
  · exact Bool.noConfusion (show false = true from hok.2)
  · cases hs

set_option maxHeartbeats 4000000 in
theorem ps_ldc2_w {q : PM} {i pc d j : Nat} {ex : List Nat} {L S L' S' : List Value} {h h' h0 hf : PH} {ls : Array Slot} {H : Heap} {locs : List Loc} {e' : PI} {idx : Nat}
    (C : Cx p R s m args meth c base sp D dA sc q d h0 hf) (hok : okI prog q i (pc, .ldc2_w idx, ex) = true)
    (hs : stp sc q.2.2.2.1 d (.ldc2_w idx) ex L S h = some (.inl (j, L', S', h'))) (hl : pL base sp ls q.2.2.1 L) (hP : va_P D pcl (pws base sp dA h) H) (hS : va_S (pAb base) s.heap H locs)
    (h01 : h0.length ≤ h.length) (h02 : psl h0 ≤ psl h) (h11 : h'.length ≤ hf.length) (h12 : psl h' ≤ psl hf)
    (hn : q.2.2.2.2[match j with | 0 => i + 1 | t + 1 => t]? = some e')
    (kk : ∀ (ls' : Array Slot) (H' : Heap) (locs' : List Loc), pL base sp ls' q.2.2.1 L' → va_P D pcl (pws base sp dA h') H' → va_S (pAb base) s.heap H' locs' →
      W p l e R s m args below meth c H' locs' (h'.length - h0.length) (psl h' - psl h0) Q (F0 m e'.1 ls' (S'.map (ptr base sp)))) :
    W p l e R s m args below meth c H locs (h.length - h0.length) (psl h - psl h0) Q (F0 m pc ls (S.map (ptr base sp))) := by
  obtain ⟨hx, hb, hml, hown, hts, hnm, hKf, hSf, hsz, hrc, hrs, hrd, hrl⟩ := C
  unfold okI at hok
  simp only [Bool.and_eq_true] at hok
  obtain ⟨hdg, hnp⟩ := okD_spec hok.1 rfl
  have hdg : decode q.2.1 pc = .ok (.ldc2_w idx, 3) := hdg
  simp only [stp, pldcL] at hs
  split at hs
  · rename_i v r
    cases hs
    have hp : e'.1 = pc + 3 := hnp e' hn
    rw [hp] at kk
    match r, hok.2 with
    | [j1], hk => exact lv_ldc2 hx hb hown (hts _ (okW_mem hk)) hdg (kk ls H locs hl hP hS)
    | [], hk => exact Bool.noConfusion (show false = true from hk)
    | _ :: _ :: _, hk => exact Bool.noConfusion (show false = true from hk)
  · cases hs

set_option maxHeartbeats 4000000 in
theorem ps_getstatic {q : PM} {i pc d j : Nat} {ex : List Nat} {L S L' S' : List Value} {h h' h0 hf : PH} {ls : Array Slot} {H : Heap} {locs : List Loc} {e' : PI} {idx : Nat}
    (C : Cx p R s m args meth c base sp D dA sc q d h0 hf) (hok : okI prog q i (pc, .getstatic idx, ex) = true)
    (hs : stp sc q.2.2.2.1 d (.getstatic idx) ex L S h = some (.inl (j, L', S', h'))) (hl : pL base sp ls q.2.2.1 L) (hP : va_P D pcl (pws base sp dA h) H) (hS : va_S (pAb base) s.heap H locs)
    (h01 : h0.length ≤ h.length) (h02 : psl h0 ≤ psl h) (h11 : h'.length ≤ hf.length) (h12 : psl h' ≤ psl hf)
    (hn : q.2.2.2.2[match j with | 0 => i + 1 | t + 1 => t]? = some e')
    (kk : ∀ (ls' : Array Slot) (H' : Heap) (locs' : List Loc), pL base sp ls' q.2.2.1 L' → va_P D pcl (pws base sp dA h') H' → va_S (pAb base) s.heap H' locs' →
      W p l e R s m args below meth c H' locs' (h'.length - h0.length) (psl h' - psl h0) Q (F0 m e'.1 ls' (S'.map (ptr base sp)))) :
    W p l e R s m args below meth c H locs (h.length - h0.length) (psl h - psl h0) Q (F0 m pc ls (S.map (ptr base sp))) := by
  obtain ⟨hx, hb, hml, hown, hts, hnm, hKf, hSf, hsz, hrc, hrs, hrd, hrl⟩ := C
  unfold okI at hok
  simp only [Bool.and_eq_true] at hok
  obtain ⟨hdg, hnp⟩ := okD_spec hok.1 rfl
  have hdg : decode q.2.1 pc = .ok (.getstatic idx, 3) := hdg
  simp only [stp, pgets] at hs
  split at hs
  · rename_i r
    cases hs
    have hp : e'.1 = pc + 3 := hnp e' hn
    rw [hp] at kk
    match r, hok.2 with
    | [j1], hk => exact va_gets hx hb hSf.2.2.1 hS hown (hts _ (okW_mem hk)) (fun _ h => h) hdg (kk ls H locs hl hP hS)
    | [], hk => exact Bool.noConfusion (show false = true from hk)
    | _ :: _ :: _, hk => exact Bool.noConfusion (show false = true from hk)
  · rename_i r
    cases hs
    have hp : e'.1 = pc + 3 := hnp e' hn
    rw [hp] at kk
    match r, hok.2 with
    | [j1], hk => exact va_gets hx hb hSf.2.2.2.2.1 hS hown (hts _ (okW_mem hk)) (fun _ h => h) hdg (kk ls H locs hl hP hS)
    | [], hk => exact Bool.noConfusion (show false = true from hk)
    | _ :: _ :: _, hk => exact Bool.noConfusion (show false = true from hk)
  · cases hs

set_option maxHeartbeats 4000000 in
theorem ps_getfield {q : PM} {i pc d j : Nat} {ex : List Nat} {L S L' S' : List Value} {h h' h0 hf : PH} {ls : Array Slot} {H : Heap} {locs : List Loc} {e' : PI} {idx : Nat}
    (C : Cx p R s m args meth c base sp D dA sc q d h0 hf) (hok : okI prog q i (pc, .getfield idx, ex) = true)
    (hs : stp sc q.2.2.2.1 d (.getfield idx) ex L S h = some (.inl (j, L', S', h'))) (hl : pL base sp ls q.2.2.1 L) (hP : va_P D pcl (pws base sp dA h) H) (hS : va_S (pAb base) s.heap H locs)
    (h01 : h0.length ≤ h.length) (h02 : psl h0 ≤ psl h) (h11 : h'.length ≤ hf.length) (h12 : psl h' ≤ psl hf)
    (hn : q.2.2.2.2[match j with | 0 => i + 1 | t + 1 => t]? = some e')
    (kk : ∀ (ls' : Array Slot) (H' : Heap) (locs' : List Loc), pL base sp ls' q.2.2.1 L' → va_P D pcl (pws base sp dA h') H' → va_S (pAb base) s.heap H' locs' →
      W p l e R s m args below meth c H' locs' (h'.length - h0.length) (psl h' - psl h0) Q (F0 m e'.1 ls' (S'.map (ptr base sp)))) :
    W p l e R s m args below meth c H locs (h.length - h0.length) (psl h - psl h0) Q (F0 m pc ls (S.map (ptr base sp))) := by
  obtain ⟨hx, hb, hml, hown, hts, hnm, hKf, hSf, hsz, hrc, hrs, hrd, hrl⟩ := C
  unfold okI at hok
  simp only [Bool.and_eq_true] at hok
  obtain ⟨hdg, hnp⟩ := okD_spec hok.1 rfl
  have hdg : decode q.2.1 pc = .ok (.getfield idx, 3) := hdg
  simp only [stp, pgetf] at hs
  split at hs
  · rename_i k f r a S2
    split at hs
    · rename_i fs he
      split at hs
      · rename_i v hv
        cases hs
        have hp : e'.1 = pc + 3 := hnp e' hn
        rw [hp] at kk
        match r, hok.2 with
        | [j1], hk =>
          obtain ⟨r, hr, hf, hw⟩ := okF_spec hk
          exact va_get (D := D) hx hb hts (pcl_ok k r hr).1 hown hKf.1 hP a (pws_get (pob_spec he)) hr f hf (hts _ hw) (fun _ h => h) (v := ptr base sp v) (by simp [hv]) hdg (kk ls H locs hl hP hS)
        | [], hk => exact Bool.noConfusion (show false = true from hk)
        | _ :: _ :: _, hk => exact Bool.noConfusion (show false = true from hk)
      · cases hs
    · cases hs
  · rename_i k f r a S2
    split at hs
    · rename_i fs he
      split at hs
      · rename_i v hv
        cases hs
        have hp : e'.1 = pc + 3 := hnp e' hn
        rw [hp] at kk
        match r, hok.2 with
        | [j1, j2], hk =>
          obtain ⟨r, hr, hf, hw, hw2⟩ := okFS_spec hk
          exact va_get (D := D) hx hb hts (pcl_ok k r hr).1 hown hKf.1 hP a (pws_get (pob_spec he)) hr f hf (hts _ hw) (fun x h => u_same (hts _ hw2) x h) (v := ptr base sp v) (by simp [hv]) hdg (kk ls H locs hl hP hS)
        | [], hk => exact Bool.noConfusion (show false = true from hk)
        | [_], hk => exact Bool.noConfusion (show false = true from hk)
        | _ :: _ :: _ :: _, hk => exact Bool.noConfusion (show false = true from hk)
      · cases hs
    · cases hs
  · rename_i w r S2
    match r, hok.2 with
    | [j1], hk =>
      have hk2 : ((w == 0 && okW j1 (.fieldLink q.1.cls idx "java/lang/String" "coder" "B")) || (w == 1 && okW j1 (.fieldLink q.1.cls idx "java/lang/String" "value" "[B"))) = true := hk
      simp only [Bool.or_eq_true, Bool.and_eq_true, beq_iff_eq] at hk2
      rcases hk2 with ⟨rfl, hk3⟩ | ⟨rfl, hk3⟩
      · rw [if_pos rfl] at hs
        cases hs
        have hp : e'.1 = pc + 3 := hnp e' hn
        rw [hp] at kk
        exact vk_getf hx hb hSf.2.2.2.2.2.2.2.1 hS hown (hts _ (okW_mem hk3)) (fun _ h => h) hdg (kk ls H locs hl hP hS)
      · rw [if_neg (by decide)] at hs
        cases hs
        have hp : e'.1 = pc + 3 := hnp e' hn
        rw [hp] at kk
        exact vk_getf hx hb hSf.2.2.2.2.2.2.2.2.1 hS hown (hts _ (okW_mem hk3)) (fun _ h => h) hdg (kk ls H locs hl hP hS)
    | [], hk => exact Bool.noConfusion (show false = true from hk)
    | _ :: _ :: _, hk => exact Bool.noConfusion (show false = true from hk)
  · cases hs

set_option maxHeartbeats 4000000 in
theorem ps_putfield {q : PM} {i pc d j : Nat} {ex : List Nat} {L S L' S' : List Value} {h h' h0 hf : PH} {ls : Array Slot} {H : Heap} {locs : List Loc} {e' : PI} {idx : Nat}
    (C : Cx p R s m args meth c base sp D dA sc q d h0 hf) (hok : okI prog q i (pc, .putfield idx, ex) = true)
    (hs : stp sc q.2.2.2.1 d (.putfield idx) ex L S h = some (.inl (j, L', S', h'))) (hl : pL base sp ls q.2.2.1 L) (hP : va_P D pcl (pws base sp dA h) H) (hS : va_S (pAb base) s.heap H locs)
    (h01 : h0.length ≤ h.length) (h02 : psl h0 ≤ psl h) (h11 : h'.length ≤ hf.length) (h12 : psl h' ≤ psl hf)
    (hn : q.2.2.2.2[match j with | 0 => i + 1 | t + 1 => t]? = some e')
    (kk : ∀ (ls' : Array Slot) (H' : Heap) (locs' : List Loc), pL base sp ls' q.2.2.1 L' → va_P D pcl (pws base sp dA h') H' → va_S (pAb base) s.heap H' locs' →
      W p l e R s m args below meth c H' locs' (h'.length - h0.length) (psl h' - psl h0) Q (F0 m e'.1 ls' (S'.map (ptr base sp)))) :
    W p l e R s m args below meth c H locs (h.length - h0.length) (psl h - psl h0) Q (F0 m pc ls (S.map (ptr base sp))) := by
  obtain ⟨hx, hb, hml, hown, hts, hnm, hKf, hSf, hsz, hrc, hrs, hrd, hrl⟩ := C
  unfold okI at hok
  simp only [Bool.and_eq_true] at hok
  obtain ⟨hdg, hnp⟩ := okD_spec hok.1 rfl
  have hdg : decode q.2.1 pc = .ok (.putfield idx, 3) := hdg
  simp only [stp, pputf] at hs
  split at hs
  · rename_i k f r v a S2
    split at hs
    · rename_i fs he
      split at hs
      · rename_i hc
        cases hs
        have hp : e'.1 = pc + 3 := hnp e' hn
        rw [hp] at kk
        match r, hok.2 with
        | [j1], hk =>
          have hk : (okF q idx k f j1 && okFin q k f) = true := hk
          simp only [Bool.and_eq_true] at hk
          obtain ⟨r, hr, hf, hw⟩ := okF_spec hk.1
          obtain ⟨z1, z2⟩ := psl_keep (e := .inr (k, fs.set f v)) (pob_spec he) (by simp [psz])
          rw [z1, z2] at kk
          obtain ⟨hn1, hn2⟩ := pnar (base := base) (sp := sp) hc.2
          have cont : ∀ (H1 : Heap) (locs1 : List Loc), va_P D pcl ((pws base sp dA h).set a (base + a, .inr (k, (fs.map (ptr base sp)).set f (ptr base sp v)))) H1 → va_S (pAb base) s.heap H1 locs1 → W p l e R s m args below meth c H1 locs1 (h.length - h0.length) (psl h - psl h0) Q (F0 m (pc + 3) ls (List.map (ptr base sp) S')) := by
            intro H1 locs1 hP1 hS1
            refine kk ls H1 locs1 hl ?_ hS1
            rw [← pws_set]
            simpa [pE, List.map_set] using hP1
          have hfn := hk.2
          unfold okFin at hfn
          rw [hr] at hfn
          simp only [Bool.or_eq_true, Bool.and_eq_true, Bool.not_eq_true', beq_iff_eq] at hfn
          cases hfin : (r.2.1 f).2.2.2 with
          | false => exact va_put (D := D) hx hb hts (pcl_ok k r hr).1 (pY k) (pcl_ok k r hr).2.1 (pcl_ok k r hr).2.2.1 hown hKf.1 hP pws_D hS a (pws_get (pob_spec he)) hr f hf (hts _ hw) (fun _ h => h) hfin ((pcl_ok k r hr).2.1 f hf) hn1 hn2 (by simpa using hc.1) hdg (fun H1 locs1 hP1 _ hS1 => cont H1 locs1 hP1 hS1)
          | true =>
            rw [hfin] at hfn
            rcases hfn with hfn | hfn
            · cases hfn
            · exact va_putF (D := D) hx hb hts (pcl_ok k r hr).1 (pY k) (pcl_ok k r hr).2.1 (pcl_ok k r hr).2.2.1 hown hKf.1 hP pws_D hS a (pws_get (pob_spec he)) hr f hf (hts _ hw) (fun _ h => h) hfin (hnm hfn.1) hfn.2 ((pcl_ok k r hr).2.1 f hf) hn1 hn2 (by simpa using hc.1) hdg (fun H1 locs1 hP1 _ hS1 => cont H1 locs1 hP1 hS1)
        | [j1, j2], hk =>
          have hk : (okFS q idx k f j1 j2 && okNf k f) = true := hk
          simp only [Bool.and_eq_true] at hk
          obtain ⟨r, hr, hf, hw, hw2⟩ := okFS_spec hk.1
          obtain ⟨z1, z2⟩ := psl_keep (e := .inr (k, fs.set f v)) (pob_spec he) (by simp [psz])
          rw [z1, z2] at kk
          obtain ⟨hn1, hn2⟩ := pnar (base := base) (sp := sp) hc.2
          have cont : ∀ (H1 : Heap) (locs1 : List Loc), va_P D pcl ((pws base sp dA h).set a (base + a, .inr (k, (fs.map (ptr base sp)).set f (ptr base sp v)))) H1 → va_S (pAb base) s.heap H1 locs1 → W p l e R s m args below meth c H1 locs1 (h.length - h0.length) (psl h - psl h0) Q (F0 m (pc + 3) ls (List.map (ptr base sp) S')) := by
            intro H1 locs1 hP1 hS1
            refine kk ls H1 locs1 hl ?_ hS1
            rw [← pws_set]
            simpa [pE, List.map_set] using hP1
          have hfin : (r.2.1 f).2.2.2 = false := by
            have hfn := hk.2
            unfold okNf at hfn
            rw [hr] at hfn
            simpa using hfn
          exact va_put (D := D) hx hb hts (pcl_ok k r hr).1 (pY k) (pcl_ok k r hr).2.1 (pcl_ok k r hr).2.2.1 hown hKf.1 hP pws_D hS a (pws_get (pob_spec he)) hr f hf (hts _ hw) (fun x h => u_same (hts _ hw2) x h) hfin ((pcl_ok k r hr).2.1 f hf) hn1 hn2 (by simpa using hc.1) hdg (fun H1 locs1 hP1 _ hS1 => cont H1 locs1 hP1 hS1)
        | [], hk => exact Bool.noConfusion (show false = true from hk)
        | _ :: _ :: _ :: _, hk => exact Bool.noConfusion (show false = true from hk)
      · cases hs
    · cases hs
  · cases hs

set_option maxHeartbeats 4000000 in
theorem ps_iaload {q : PM} {i pc d j : Nat} {ex : List Nat} {L S L' S' : List Value} {h h' h0 hf : PH} {ls : Array Slot} {H : Heap} {locs : List Loc} {e' : PI}
    (C : Cx p R s m args meth c base sp D dA sc q d h0 hf) (hok : okI prog q i (pc, .iaload, ex) = true)
    (hs : stp sc q.2.2.2.1 d (.iaload) ex L S h = some (.inl (j, L', S', h'))) (hl : pL base sp ls q.2.2.1 L) (hP : va_P D pcl (pws base sp dA h) H) (hS : va_S (pAb base) s.heap H locs)
    (h01 : h0.length ≤ h.length) (h02 : psl h0 ≤ psl h) (h11 : h'.length ≤ hf.length) (h12 : psl h' ≤ psl hf)
    (hn : q.2.2.2.2[match j with | 0 => i + 1 | t + 1 => t]? = some e')
    (kk : ∀ (ls' : Array Slot) (H' : Heap) (locs' : List Loc), pL base sp ls' q.2.2.1 L' → va_P D pcl (pws base sp dA h') H' → va_S (pAb base) s.heap H' locs' →
      W p l e R s m args below meth c H' locs' (h'.length - h0.length) (psl h' - psl h0) Q (F0 m e'.1 ls' (S'.map (ptr base sp)))) :
    W p l e R s m args below meth c H locs (h.length - h0.length) (psl h - psl h0) Q (F0 m pc ls (S.map (ptr base sp))) := by
  obtain ⟨hx, hb, hml, hown, hts, hnm, hKf, hSf, hsz, hrc, hrs, hrd, hrl⟩ := C
  unfold okI at hok
  simp only [Bool.and_eq_true] at hok
  obtain ⟨hdg, hnp⟩ := okD_spec hok.1 rfl
  have hdg : decode q.2.1 pc = .ok (.iaload, 1) := hdg
  simp only [stp, pial] at hs
  split at hs
  · rename_i ix a S2
    split at hs
    · rename_i n f he
      split at hs
      · rename_i hc
        cases hs
        have hp : e'.1 = pc + 1 := hnp e' hn
        rw [hp] at kk
        exact va_iald hx hb hKf.1 hP _ _ (pws_get (prow_spec he)) pt_0 (pin_in hc) hdg (kk ls H locs hl hP hS)
      · cases hs
    · cases hs
  · rename_i ix S2
    split at hs
    · rename_i hc
      cases hs
      have hp : e'.1 = pc + 1 := hnp e' hn
      rw [hp] at kk
      have h0b := hSf.1 0 (by omega)
      exact va_sld (b := sp 0) hx hb hSf.2.1 (by omega) (sp_out (k := 0) hSf (by omega)) hS (pin_in hc) hdg (kk ls H locs hl hP hS)
    · cases hs
  · cases hs

set_option maxHeartbeats 4000000 in
theorem ps_baload {q : PM} {i pc d j : Nat} {ex : List Nat} {L S L' S' : List Value} {h h' h0 hf : PH} {ls : Array Slot} {H : Heap} {locs : List Loc} {e' : PI}
    (C : Cx p R s m args meth c base sp D dA sc q d h0 hf) (hok : okI prog q i (pc, .baload, ex) = true)
    (hs : stp sc q.2.2.2.1 d (.baload) ex L S h = some (.inl (j, L', S', h'))) (hl : pL base sp ls q.2.2.1 L) (hP : va_P D pcl (pws base sp dA h) H) (hS : va_S (pAb base) s.heap H locs)
    (h01 : h0.length ≤ h.length) (h02 : psl h0 ≤ psl h) (h11 : h'.length ≤ hf.length) (h12 : psl h' ≤ psl hf)
    (hn : q.2.2.2.2[match j with | 0 => i + 1 | t + 1 => t]? = some e')
    (kk : ∀ (ls' : Array Slot) (H' : Heap) (locs' : List Loc), pL base sp ls' q.2.2.1 L' → va_P D pcl (pws base sp dA h') H' → va_S (pAb base) s.heap H' locs' →
      W p l e R s m args below meth c H' locs' (h'.length - h0.length) (psl h' - psl h0) Q (F0 m e'.1 ls' (S'.map (ptr base sp)))) :
    W p l e R s m args below meth c H locs (h.length - h0.length) (psl h - psl h0) Q (F0 m pc ls (S.map (ptr base sp))) := by
  obtain ⟨hx, hb, hml, hown, hts, hnm, hKf, hSf, hsz, hrc, hrs, hrd, hrl⟩ := C
  unfold okI at hok
  simp only [Bool.and_eq_true] at hok
  obtain ⟨hdg, hnp⟩ := okD_spec hok.1 rfl
  have hdg : decode q.2.1 pc = .ok (.baload, 1) := hdg
  simp only [stp, pbal] at hs
  split at hs
  · rename_i ix a S2
    split at hs
    · rename_i n f he
      split at hs
      · rename_i hc
        cases hs
        have hp : e'.1 = pc + 1 := hnp e' hn
        rw [hp] at kk
        exact va_zald hx hb hKf.1 hP _ _ (pws_get (prow_spec he)) pt_2 (pin_in hc) hdg (kk ls H locs hl hP hS)
      · cases hs
    · split at hs
      · rename_i n f he
        split at hs
        · rename_i hc
          cases hs
          have hp : e'.1 = pc + 1 := hnp e' hn
          rw [hp] at kk
          exact va_bald hx hb hKf.1 hP _ _ (pws_get (prow_spec he)) pt_3 (pin_in hc) hdg (kk ls H locs hl hP hS)
        · cases hs
      · cases hs
  · rename_i ix S2
    split at hs
    · rename_i hc
      cases hs
      have hp : e'.1 = pc + 1 := hnp e' hn
      rw [hp] at kk
      exact va_tb hx hb hSf.2.2.2.2.2.2.2.2.2.1 hS (pin_in hc) rfl hdg (kk ls H locs hl hP hS)
    · cases hs
  · cases hs

set_option maxHeartbeats 4000000 in
theorem ps_laload {q : PM} {i pc d j : Nat} {ex : List Nat} {L S L' S' : List Value} {h h' h0 hf : PH} {ls : Array Slot} {H : Heap} {locs : List Loc} {e' : PI}
    (C : Cx p R s m args meth c base sp D dA sc q d h0 hf) (hok : okI prog q i (pc, .laload, ex) = true)
    (hs : stp sc q.2.2.2.1 d (.laload) ex L S h = some (.inl (j, L', S', h'))) (hl : pL base sp ls q.2.2.1 L) (hP : va_P D pcl (pws base sp dA h) H) (hS : va_S (pAb base) s.heap H locs)
    (h01 : h0.length ≤ h.length) (h02 : psl h0 ≤ psl h) (h11 : h'.length ≤ hf.length) (h12 : psl h' ≤ psl hf)
    (hn : q.2.2.2.2[match j with | 0 => i + 1 | t + 1 => t]? = some e')
    (kk : ∀ (ls' : Array Slot) (H' : Heap) (locs' : List Loc), pL base sp ls' q.2.2.1 L' → va_P D pcl (pws base sp dA h') H' → va_S (pAb base) s.heap H' locs' →
      W p l e R s m args below meth c H' locs' (h'.length - h0.length) (psl h' - psl h0) Q (F0 m e'.1 ls' (S'.map (ptr base sp)))) :
    W p l e R s m args below meth c H locs (h.length - h0.length) (psl h - psl h0) Q (F0 m pc ls (S.map (ptr base sp))) := by
  obtain ⟨hx, hb, hml, hown, hts, hnm, hKf, hSf, hsz, hrc, hrs, hrd, hrl⟩ := C
  unfold okI at hok
  simp only [Bool.and_eq_true] at hok
  obtain ⟨hdg, hnp⟩ := okD_spec hok.1 rfl
  have hdg : decode q.2.1 pc = .ok (.laload, 1) := hdg
  simp only [stp, plal] at hs
  split at hs
  · rename_i ix a S2
    split at hs
    · rename_i n f he
      split at hs
      · rename_i hc
        cases hs
        have hp : e'.1 = pc + 1 := hnp e' hn
        rw [hp] at kk
        exact va_lald hx hb hKf.1 hP _ _ (pws_get (prowL_spec he)) pt_1 (pin_in hc) hdg (kk ls H locs hl hP hS)
      · cases hs
    · cases hs
  · cases hs

set_option maxHeartbeats 4000000 in
theorem ps_aaload {q : PM} {i pc d j : Nat} {ex : List Nat} {L S L' S' : List Value} {h h' h0 hf : PH} {ls : Array Slot} {H : Heap} {locs : List Loc} {e' : PI}
    (C : Cx p R s m args meth c base sp D dA sc q d h0 hf) (hok : okI prog q i (pc, .aaload, ex) = true)
    (hs : stp sc q.2.2.2.1 d (.aaload) ex L S h = some (.inl (j, L', S', h'))) (hl : pL base sp ls q.2.2.1 L) (hP : va_P D pcl (pws base sp dA h) H) (hS : va_S (pAb base) s.heap H locs)
    (h01 : h0.length ≤ h.length) (h02 : psl h0 ≤ psl h) (h11 : h'.length ≤ hf.length) (h12 : psl h' ≤ psl hf)
    (hn : q.2.2.2.2[match j with | 0 => i + 1 | t + 1 => t]? = some e')
    (kk : ∀ (ls' : Array Slot) (H' : Heap) (locs' : List Loc), pL base sp ls' q.2.2.1 L' → va_P D pcl (pws base sp dA h') H' → va_S (pAb base) s.heap H' locs' →
      W p l e R s m args below meth c H' locs' (h'.length - h0.length) (psl h' - psl h0) Q (F0 m e'.1 ls' (S'.map (ptr base sp)))) :
    W p l e R s m args below meth c H locs (h.length - h0.length) (psl h - psl h0) Q (F0 m pc ls (S.map (ptr base sp))) := by
  obtain ⟨hx, hb, hml, hown, hts, hnm, hKf, hSf, hsz, hrc, hrs, hrd, hrl⟩ := C
  unfold okI at hok
  simp only [Bool.and_eq_true] at hok
  obtain ⟨hdg, hnp⟩ := okD_spec hok.1 rfl
  have hdg : decode q.2.1 pc = .ok (.aaload, 1) := hdg
  simp only [stp, paal] at hs
  split at hs
  · rename_i ix a S2
    split at hs
    · rename_i n f he
      split at hs
      · rename_i hc
        cases hs
        have hp : e'.1 = pc + 1 := hnp e' hn
        rw [hp] at kk
        refine va_aldq hx hb hKf.1 hP _ _ (pws_get (prowR_spec he)) pt_4 (pin_in hc) hdg ?_
        have k2 := kk ls H locs hl hP hS
        rw [List.map_cons] at k2
        have e1 : ptr base sp (prf (f ix.toNatClampNeg)) = va_rf ((f ix.toNatClampNeg).map (fun a => base + a)) := by cases f ix.toNatClampNeg <;> rfl
        rw [e1] at k2
        exact k2
      · cases hs
    · cases hs
  · cases hs

set_option maxHeartbeats 4000000 in
theorem ps_iastore {q : PM} {i pc d j : Nat} {ex : List Nat} {L S L' S' : List Value} {h h' h0 hf : PH} {ls : Array Slot} {H : Heap} {locs : List Loc} {e' : PI}
    (C : Cx p R s m args meth c base sp D dA sc q d h0 hf) (hok : okI prog q i (pc, .iastore, ex) = true)
    (hs : stp sc q.2.2.2.1 d (.iastore) ex L S h = some (.inl (j, L', S', h'))) (hl : pL base sp ls q.2.2.1 L) (hP : va_P D pcl (pws base sp dA h) H) (hS : va_S (pAb base) s.heap H locs)
    (h01 : h0.length ≤ h.length) (h02 : psl h0 ≤ psl h) (h11 : h'.length ≤ hf.length) (h12 : psl h' ≤ psl hf)
    (hn : q.2.2.2.2[match j with | 0 => i + 1 | t + 1 => t]? = some e')
    (kk : ∀ (ls' : Array Slot) (H' : Heap) (locs' : List Loc), pL base sp ls' q.2.2.1 L' → va_P D pcl (pws base sp dA h') H' → va_S (pAb base) s.heap H' locs' →
      W p l e R s m args below meth c H' locs' (h'.length - h0.length) (psl h' - psl h0) Q (F0 m e'.1 ls' (S'.map (ptr base sp)))) :
    W p l e R s m args below meth c H locs (h.length - h0.length) (psl h - psl h0) Q (F0 m pc ls (S.map (ptr base sp))) := by
  obtain ⟨hx, hb, hml, hown, hts, hnm, hKf, hSf, hsz, hrc, hrs, hrd, hrl⟩ := C
  unfold okI at hok
  simp only [Bool.and_eq_true] at hok
  obtain ⟨hdg, hnp⟩ := okD_spec hok.1 rfl
  have hdg : decode q.2.1 pc = .ok (.iastore, 1) := hdg
  simp only [stp, pias] at hs
  split at hs
  · rename_i x ix a S2
    split at hs
    · rename_i n f he
      split at hs
      · rename_i hc
        cases hs
        have hp : e'.1 = pc + 1 := hnp e' hn
        rw [hp] at kk
        obtain ⟨z1, z2⟩ := psl_keep (e := .inl (0, n, .inl (upd f ix.toNatClampNeg x))) (prow_spec he) rfl
        rw [z1, z2] at kk
        exact va_iast hx hb hKf.1 hP pws_D hS _ _ (pws_get (prow_spec he)) pt_0 (pin_in hc) hdg (fun H1 locs1 hP1 _ hS1 => kk ls H1 locs1 hl (by rw [← pws_set]; exact hP1) hS1)
      · cases hs
    · cases hs
  · cases hs

set_option maxHeartbeats 4000000 in
theorem ps_lastore {q : PM} {i pc d j : Nat} {ex : List Nat} {L S L' S' : List Value} {h h' h0 hf : PH} {ls : Array Slot} {H : Heap} {locs : List Loc} {e' : PI}
    (C : Cx p R s m args meth c base sp D dA sc q d h0 hf) (hok : okI prog q i (pc, .lastore, ex) = true)
    (hs : stp sc q.2.2.2.1 d (.lastore) ex L S h = some (.inl (j, L', S', h'))) (hl : pL base sp ls q.2.2.1 L) (hP : va_P D pcl (pws base sp dA h) H) (hS : va_S (pAb base) s.heap H locs)
    (h01 : h0.length ≤ h.length) (h02 : psl h0 ≤ psl h) (h11 : h'.length ≤ hf.length) (h12 : psl h' ≤ psl hf)
    (hn : q.2.2.2.2[match j with | 0 => i + 1 | t + 1 => t]? = some e')
    (kk : ∀ (ls' : Array Slot) (H' : Heap) (locs' : List Loc), pL base sp ls' q.2.2.1 L' → va_P D pcl (pws base sp dA h') H' → va_S (pAb base) s.heap H' locs' →
      W p l e R s m args below meth c H' locs' (h'.length - h0.length) (psl h' - psl h0) Q (F0 m e'.1 ls' (S'.map (ptr base sp)))) :
    W p l e R s m args below meth c H locs (h.length - h0.length) (psl h - psl h0) Q (F0 m pc ls (S.map (ptr base sp))) := by
  obtain ⟨hx, hb, hml, hown, hts, hnm, hKf, hSf, hsz, hrc, hrs, hrd, hrl⟩ := C
  unfold okI at hok
  simp only [Bool.and_eq_true] at hok
  obtain ⟨hdg, hnp⟩ := okD_spec hok.1 rfl
  have hdg : decode q.2.1 pc = .ok (.lastore, 1) := hdg
  simp only [stp, plas] at hs
  split at hs
  · rename_i x ix a S2
    split at hs
    · rename_i n f he
      split at hs
      · rename_i hc
        cases hs
        have hp : e'.1 = pc + 1 := hnp e' hn
        rw [hp] at kk
        obtain ⟨z1, z2⟩ := psl_keep (e := .inl (1, n, .inr (.inl (vp_updL f ix.toNatClampNeg x)))) (prowL_spec he) rfl
        rw [z1, z2] at kk
        exact va_last hx hb hKf.1 hP pws_D hS _ _ (pws_get (prowL_spec he)) pt_1 (pin_in hc) hdg (fun H1 locs1 hP1 _ hS1 => kk ls H1 locs1 hl (by rw [← pws_set]; exact hP1) hS1)
      · cases hs
    · cases hs
  · cases hs

set_option maxHeartbeats 4000000 in
theorem ps_bastore {q : PM} {i pc d j : Nat} {ex : List Nat} {L S L' S' : List Value} {h h' h0 hf : PH} {ls : Array Slot} {H : Heap} {locs : List Loc} {e' : PI}
    (C : Cx p R s m args meth c base sp D dA sc q d h0 hf) (hok : okI prog q i (pc, .bastore, ex) = true)
    (hs : stp sc q.2.2.2.1 d (.bastore) ex L S h = some (.inl (j, L', S', h'))) (hl : pL base sp ls q.2.2.1 L) (hP : va_P D pcl (pws base sp dA h) H) (hS : va_S (pAb base) s.heap H locs)
    (h01 : h0.length ≤ h.length) (h02 : psl h0 ≤ psl h) (h11 : h'.length ≤ hf.length) (h12 : psl h' ≤ psl hf)
    (hn : q.2.2.2.2[match j with | 0 => i + 1 | t + 1 => t]? = some e')
    (kk : ∀ (ls' : Array Slot) (H' : Heap) (locs' : List Loc), pL base sp ls' q.2.2.1 L' → va_P D pcl (pws base sp dA h') H' → va_S (pAb base) s.heap H' locs' →
      W p l e R s m args below meth c H' locs' (h'.length - h0.length) (psl h' - psl h0) Q (F0 m e'.1 ls' (S'.map (ptr base sp)))) :
    W p l e R s m args below meth c H locs (h.length - h0.length) (psl h - psl h0) Q (F0 m pc ls (S.map (ptr base sp))) := by
  obtain ⟨hx, hb, hml, hown, hts, hnm, hKf, hSf, hsz, hrc, hrs, hrd, hrl⟩ := C
  unfold okI at hok
  simp only [Bool.and_eq_true] at hok
  obtain ⟨hdg, hnp⟩ := okD_spec hok.1 rfl
  have hdg : decode q.2.1 pc = .ok (.bastore, 1) := hdg
  simp only [stp, pbas] at hs
  split at hs
  · rename_i x ix a S2
    split at hs
    · rename_i n f he
      split at hs
      · rename_i hc
        cases hs
        have hp : e'.1 = pc + 1 := hnp e' hn
        rw [hp] at kk
        obtain ⟨z1, z2⟩ := psl_keep (e := .inl (2, n, .inl (upd f ix.toNatClampNeg (vp_nar .boolean x)))) (prow_spec he) rfl
        rw [z1, z2] at kk
        exact va_zast hx hb hKf.1 hP pws_D hS _ _ (pws_get (prow_spec he)) pt_2 (pin_in hc) hdg (fun H1 locs1 hP1 _ hS1 => kk ls H1 locs1 hl (by rw [← pws_set]; exact hP1) hS1)
      · cases hs
    · split at hs
      · rename_i n f he
        split at hs
        · rename_i hc
          cases hs
          have hp : e'.1 = pc + 1 := hnp e' hn
          rw [hp] at kk
          obtain ⟨z1, z2⟩ := psl_keep (e := .inl (3, n, .inl (upd f ix.toNatClampNeg (vp_nar .byte x)))) (prow_spec he) rfl
          rw [z1, z2] at kk
          exact va_bast hx hb hKf.1 hP pws_D hS _ _ (pws_get (prow_spec he)) pt_3 (pin_in hc) hdg (fun H1 locs1 hP1 _ hS1 => kk ls H1 locs1 hl (by rw [← pws_set]; exact hP1) hS1)
        · cases hs
      · cases hs
  · cases hs

set_option maxHeartbeats 4000000 in
theorem ps_aastore {q : PM} {i pc d j : Nat} {ex : List Nat} {L S L' S' : List Value} {h h' h0 hf : PH} {ls : Array Slot} {H : Heap} {locs : List Loc} {e' : PI}
    (C : Cx p R s m args meth c base sp D dA sc q d h0 hf) (hok : okI prog q i (pc, .aastore, ex) = true)
    (hs : stp sc q.2.2.2.1 d (.aastore) ex L S h = some (.inl (j, L', S', h'))) (hl : pL base sp ls q.2.2.1 L) (hP : va_P D pcl (pws base sp dA h) H) (hS : va_S (pAb base) s.heap H locs)
    (h01 : h0.length ≤ h.length) (h02 : psl h0 ≤ psl h) (h11 : h'.length ≤ hf.length) (h12 : psl h' ≤ psl hf)
    (hn : q.2.2.2.2[match j with | 0 => i + 1 | t + 1 => t]? = some e')
    (kk : ∀ (ls' : Array Slot) (H' : Heap) (locs' : List Loc), pL base sp ls' q.2.2.1 L' → va_P D pcl (pws base sp dA h') H' → va_S (pAb base) s.heap H' locs' →
      W p l e R s m args below meth c H' locs' (h'.length - h0.length) (psl h' - psl h0) Q (F0 m e'.1 ls' (S'.map (ptr base sp)))) :
    W p l e R s m args below meth c H locs (h.length - h0.length) (psl h - psl h0) Q (F0 m pc ls (S.map (ptr base sp))) := by
  obtain ⟨hx, hb, hml, hown, hts, hnm, hKf, hSf, hsz, hrc, hrs, hrd, hrl⟩ := C
  unfold okI at hok
  simp only [Bool.and_eq_true] at hok
  obtain ⟨hdg, hnp⟩ := okD_spec hok.1 rfl
  have hdg : decode q.2.1 pc = .ok (.aastore, 1) := hdg
  simp only [stp, paas] at hs
  split at hs
  · rename_i v ix a S2
    split at hs
    · rename_i n f ob he hv
      split at hs
      · rename_i hc
        cases hs
        have hp : e'.1 = pc + 1 := hnp e' hn
        rw [hp] at kk
        obtain ⟨ck, fs⟩ := ob
        obtain ⟨z1, z2⟩ := psl_keep (e := .inl (4, n, .inr (.inr (va_up f ix.toNatClampNeg (some v))))) (prowR_spec he) rfl
        rw [z1, z2] at kk
        obtain ⟨r, hr, -⟩ := hP _ _ (pws_get hv)
        have hr : pcl[ck]? = some r := hr
        refine va_astqO hx hb hKf.1 hP pws_D hS _ _ _ _ (pws_get (prowR_spec he)) pt_4 (hKf.2.1 _ (pcl_ok ck r hr).2.2.2.2 rfl) (pws_get hv) hr (pin_in hc) hdg (fun H1 locs1 hP1 _ hS1 => kk ls H1 locs1 hl ?_ hS1)
        rw [← pws_set]
        have e1 : pE base sp dA (.inl (4, n, .inr (.inr (va_up f ix.toNatClampNeg (some v))))) = .inl (dA 4, n, .inr (.inr (.inr (.inr (va_up (fun j => (f j).map (fun a => base + a)) ix.toNatClampNeg (some (base + v))))))) := by
          have e2 : (fun j => Option.map (fun a => base + a) (va_up f ix.toNatClampNeg (some v) j)) = va_up (fun j => (f j).map (fun a => base + a)) ix.toNatClampNeg (some (base + v)) := by
            funext jj
            unfold va_up
            split <;> rfl
          simp only [pE, e2]
        rw [e1]
        exact hP1
      · cases hs
    · cases hs
  · cases hs

set_option maxHeartbeats 4000000 in
theorem ps_arraylength {q : PM} {i pc d j : Nat} {ex : List Nat} {L S L' S' : List Value} {h h' h0 hf : PH} {ls : Array Slot} {H : Heap} {locs : List Loc} {e' : PI}
    (C : Cx p R s m args meth c base sp D dA sc q d h0 hf) (hok : okI prog q i (pc, .arraylength, ex) = true)
    (hs : stp sc q.2.2.2.1 d (.arraylength) ex L S h = some (.inl (j, L', S', h'))) (hl : pL base sp ls q.2.2.1 L) (hP : va_P D pcl (pws base sp dA h) H) (hS : va_S (pAb base) s.heap H locs)
    (h01 : h0.length ≤ h.length) (h02 : psl h0 ≤ psl h) (h11 : h'.length ≤ hf.length) (h12 : psl h' ≤ psl hf)
    (hn : q.2.2.2.2[match j with | 0 => i + 1 | t + 1 => t]? = some e')
    (kk : ∀ (ls' : Array Slot) (H' : Heap) (locs' : List Loc), pL base sp ls' q.2.2.1 L' → va_P D pcl (pws base sp dA h') H' → va_S (pAb base) s.heap H' locs' →
      W p l e R s m args below meth c H' locs' (h'.length - h0.length) (psl h' - psl h0) Q (F0 m e'.1 ls' (S'.map (ptr base sp)))) :
    W p l e R s m args below meth c H locs (h.length - h0.length) (psl h - psl h0) Q (F0 m pc ls (S.map (ptr base sp))) := by
  obtain ⟨hx, hb, hml, hown, hts, hnm, hKf, hSf, hsz, hrc, hrs, hrd, hrl⟩ := C
  unfold okI at hok
  simp only [Bool.and_eq_true] at hok
  obtain ⟨hdg, hnp⟩ := okD_spec hok.1 rfl
  have hdg : decode q.2.1 pc = .ok (.arraylength, 1) := hdg
  simp only [stp, plen] at hs
  split at hs
  · rename_i a S2
    split at hs
    · rename_i t n f he
      split at hs
      · rename_i ht
        cases hs
        have hp : e'.1 = pc + 1 := hnp e' hn
        rw [hp] at kk
        rcases f with f | f | f
        · exact va_alen hx hb hKf.1 hP _ _ (pws_get he) (pt_all ht) rfl hdg (kk ls H locs hl hP hS)
        · exact va_alen hx hb hKf.1 hP _ _ (pws_get he) (pt_all ht) rfl hdg (kk ls H locs hl hP hS)
        · exact va_alen hx hb hKf.1 hP _ _ (pws_get he) (pt_all ht) rfl hdg (kk ls H locs hl hP hS)
      · cases hs
    · cases hs
  · cases hs
    have hp : e'.1 = pc + 1 := hnp e' hn
    rw [hp] at kk
    have h0b := hSf.1 0 (by omega)
    exact va_slen (b := sp 0) hx hb hSf.2.1 (by omega) (sp_out (k := 0) hSf (by omega)) hS hdg (kk ls H locs hl hP hS)
  · cases hs
    have hp : e'.1 = pc + 1 := hnp e' hn
    rw [hp] at kk
    exact va_tlen hx hb hSf.2.2.2.1 hS rfl hdg (kk ls H locs hl hP hS)
  · cases hs
    have hp : e'.1 = pc + 1 := hnp e' hn
    rw [hp] at kk
    exact va_tlen hx hb hSf.2.2.2.2.2.2.2.2.2.1 hS rfl hdg (kk ls H locs hl hP hS)
  · cases hs
end PS2
