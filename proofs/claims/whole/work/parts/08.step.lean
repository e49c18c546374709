/-! ===== one step of the pure machine is the machine's ===== -/
section PS
variable {p : Program} {l : Launch} {e : Env} {R : Room} {s : State} {m : MethodId} {args : Array Value} {below : List Frame} {meth : Method} {c : Code} {Q : State → Prop}
variable {base : Nat} {sp : Nat → Nat} {D : va_G} {dA : Nat → ClassId} {sc : Nat × (Nat → Int32)}
def Cx (p : Program) (R : Room) (s : State) (m : MethodId) (args : Array Value) (meth : Method) (c : Code) (base : Nat) (sp : Nat → Nat) (D : va_G) (dA : Nat → ClassId) (sc : Nat × (Nat → Int32)) (q : PM) (d : Nat) (h0 hf : PH) : Prop :=
  p.tables.exec = Jvm.exec ∧ c.code = q.2.1 ∧ c.maxLocals = q.2.2.1 ∧ s.vm.findClass q.1.cls = some m.cls ∧ (∀ w ∈ wg, w.before args s = true) ∧ (q.1.name = "<init>" → meth.name = "<init>") ∧ Kf D dA s ∧ Sf base sp sc s s.heap ∧
  s.heap.size = base + h0.length ∧ hf.length ≤ h0.length + R.cells ∧ psl hf ≤ psl h0 + R.slots ∧ d ≤ R.frames ∧ d * 64 ≤ R.locals
theorem W_size {H : Heap} {locs : List Loc} {cells slots n : Nat} {g : JFrame} (hlow : n ≤ H.size) (hup : s.heap.size + cells = n) (k : H.size = n → W p l e R s m args below meth c H locs cells slots Q g) : W p l e R s m args below meth c H locs cells slots Q g :=
  fun T hT X => k (by have := X.heapSize; rw [hT] at this; omega) T hT X
theorem pin_in {i : Int32} {n : Nat} (h : pin i n = true) : vp_in i n := by
  unfold pin at h
  simp only [Bool.and_eq_true, Bool.not_eq_true', decide_eq_false_iff_not, decide_eq_true_eq] at h
  rintro (h1 | h1)
  · exact h.1 h1
  · omega
theorem pob_spec {h : PH} {a k : Nat} {fs : List Value} (hp : pob h a k = some fs) : h[a]? = some (.inr (k, fs)) := by
  unfold pob at hp
  split at hp
  · rename_i c' fs' he
    split at hp
    · rename_i hc; subst hc; cases hp; exact he
    · cases hp
  · cases hp
theorem prow_spec {h : PH} {a t n : Nat} {f : Nat → Int32} (hp : prow h a t = some (n, f)) : h[a]? = some (.inl (t, n, .inl f)) := by
  unfold prow at hp
  split at hp
  · rename_i t' n' f' he
    split at hp
    · rename_i hc; subst hc; cases hp; exact he
    · cases hp
  · cases hp
theorem prowL_spec {h : PH} {a n : Nat} {f : Nat → Int64} (hp : prowL h a = some (n, f)) : h[a]? = some (.inl (1, n, .inr (.inl f))) := by
  unfold prowL at hp
  split at hp
  · rename_i n' f' he
    cases hp; exact he
  · cases hp
theorem prowR_spec {h : PH} {a n : Nat} {f : Nat → Option Nat} (hp : prowR h a = some (n, f)) : h[a]? = some (.inl (4, n, .inr (.inr f))) := by
  unfold prowR at hp
  split at hp
  · rename_i n' f' he
    cases hp; exact he
  · cases hp
theorem pst_spec {L L' : List Value} {i : Nat} {v : Value} (h : pst L i v = some L') : i < L.length ∧ pcat L i = true ∧ L' = L.set i v := by
  unfold pst at h
  split at h
  · rename_i hc; cases h; exact ⟨hc.1, hc.2, rfl⟩
  · cases h
theorem pst2_spec {L L' : List Value} {i : Nat} {v : Value} (h : pst2 L i v = some L') : i + 1 < L.length ∧ pcat L i = true ∧ L' = (L.set i v).set (i + 1) pu := by
  unfold pst2 at h
  split at h
  · rename_i hc; cases h; exact ⟨hc.1, hc.2, rfl⟩
  · cases h
theorem okJ_spec {q : PM} {pc t : Nat} {off : Int} {e' : PI} (h : okJ q pc t off = true) (he : q.2.2.2.2[t]? = some e') : (pc : Int) + off = (e'.1 : Int) := by
  unfold okJ at h
  rw [he] at h
  simpa using h
theorem okD_spec {q : PM} {i : Nat} {e : PI} (h : okD q i e = true) (hs : isSw e.2.1 = false) : decode q.2.1 e.1 = .ok (e.2.1, ilen e.2.1) ∧ ∀ e', q.2.2.2.2[i + 1]? = some e' → e'.1 = e.1 + ilen e.2.1 := by
  unfold okD at h
  rw [if_neg (by rw [hs]; decide)] at h
  simp only [Bool.and_eq_true, decide_eq_true_eq] at h
  refine ⟨h.1, fun e' he => ?_⟩
  have h2 := h.2
  rw [he] at h2
  simpa using h2
theorem okD_sw {q : PM} {i : Nat} {e : PI} (h : okD q i e = true) (hs : isSw e.2.1 = true) : ∃ n, decode q.2.1 e.1 = .ok (e.2.1, n) := by
  unfold okD at h
  rw [if_pos hs] at h
  split at h
  · rename_i ins n he
    have : ins = e.2.1 := by simpa using h
    subst this
    exact ⟨n, he⟩
  · cases h
theorem pnar {ty : FieldType} {v : Value} (h : pfit ty v = true) : narrow ty (ptr base sp v) = ptr base sp v ∧ fits ty (ptr base sp v) = true := by
  cases ty <;> cases v <;> first | (simp [pfit] at h; done) | (constructor <;> rfl) | skip
  · simp only [pfit, Bool.and_eq_true, decide_eq_true_eq] at h
    refine ⟨?_, by simp [ptr, fits, h.1, h.2]⟩
    rename_i x
    have h1 : x.toInt8.toInt32 = x := by
      apply Int32.toInt_inj.mp
      have a1 := Int32.le_iff_toInt_le.mp h.1
      have a2 := Int32.le_iff_toInt_le.mp h.2
      simp at a1 a2
      rw [Int8.toInt_toInt32, Int32.toInt_toInt8]
      exact Int.bmod_eq_of_le (by omega) (by omega)
    show narrow .byte (.int x) = .int x
    simp [narrow, h1]
  · simp only [pfit, Bool.or_eq_true, beq_iff_eq] at h
    rcases h with rfl | rfl <;> exact ⟨rfl, rfl⟩

set_option maxHeartbeats 4000000 in
theorem ps_iconst {q : PM} {i pc d j : Nat} {ex : List Nat} {L S L' S' : List Value} {h h' h0 hf : PH} {ls : Array Slot} {H : Heap} {locs : List Loc} {e' : PI} {n : Int}
    (C : Cx p R s m args meth c base sp D dA sc q d h0 hf) (hok : okI prog q i (pc, .iconst n, ex) = true)
    (hs : stp sc q.2.2.2.1 d (.iconst n) ex L S h = some (.inl (j, L', S', h'))) (hl : pL base sp ls q.2.2.1 L) (hP : va_P D pcl (pws base sp dA h) H) (hS : va_S (pAb base) s.heap H locs)
    (h01 : h0.length ≤ h.length) (h02 : psl h0 ≤ psl h) (h11 : h'.length ≤ hf.length) (h12 : psl h' ≤ psl hf)
    (hn : q.2.2.2.2[match j with | 0 => i + 1 | t + 1 => t]? = some e')
    (kk : ∀ (ls' : Array Slot) (H' : Heap) (locs' : List Loc), pL base sp ls' q.2.2.1 L' → va_P D pcl (pws base sp dA h') H' → va_S (pAb base) s.heap H' locs' →
      W p l e R s m args below meth c H' locs' (h'.length - h0.length) (psl h' - psl h0) Q (F0 m e'.1 ls' (S'.map (ptr base sp)))) :
    W p l e R s m args below meth c H locs (h.length - h0.length) (psl h - psl h0) Q (F0 m pc ls (S.map (ptr base sp))) := by
  obtain ⟨hx, hb, hml, hown, hts, hnm, hKf, hSf, hsz, hrc, hrs, hrd, hrl⟩ := C
  unfold okI at hok
  simp only [Bool.and_eq_true] at hok
  obtain ⟨hdg, hnp⟩ := okD_spec hok.1 rfl
  have hdg : decode q.2.1 pc = .ok (.iconst n, 1) := hdg
  simp only [stp] at hs
  cases hs
  have hp : e'.1 = pc + 1 := hnp e' hn
  rw [hp] at kk
  exact lv_iconst hx hb hdg rfl (kk ls H locs hl hP hS)

set_option maxHeartbeats 4000000 in
theorem ps_bipush {q : PM} {i pc d j : Nat} {ex : List Nat} {L S L' S' : List Value} {h h' h0 hf : PH} {ls : Array Slot} {H : Heap} {locs : List Loc} {e' : PI} {n : Int}
    (C : Cx p R s m args meth c base sp D dA sc q d h0 hf) (hok : okI prog q i (pc, .bipush n, ex) = true)
    (hs : stp sc q.2.2.2.1 d (.bipush n) ex L S h = some (.inl (j, L', S', h'))) (hl : pL base sp ls q.2.2.1 L) (hP : va_P D pcl (pws base sp dA h) H) (hS : va_S (pAb base) s.heap H locs)
    (h01 : h0.length ≤ h.length) (h02 : psl h0 ≤ psl h) (h11 : h'.length ≤ hf.length) (h12 : psl h' ≤ psl hf)
    (hn : q.2.2.2.2[match j with | 0 => i + 1 | t + 1 => t]? = some e')
    (kk : ∀ (ls' : Array Slot) (H' : Heap) (locs' : List Loc), pL base sp ls' q.2.2.1 L' → va_P D pcl (pws base sp dA h') H' → va_S (pAb base) s.heap H' locs' →
      W p l e R s m args below meth c H' locs' (h'.length - h0.length) (psl h' - psl h0) Q (F0 m e'.1 ls' (S'.map (ptr base sp)))) :
    W p l e R s m args below meth c H locs (h.length - h0.length) (psl h - psl h0) Q (F0 m pc ls (S.map (ptr base sp))) := by
  obtain ⟨hx, hb, hml, hown, hts, hnm, hKf, hSf, hsz, hrc, hrs, hrd, hrl⟩ := C
  unfold okI at hok
  simp only [Bool.and_eq_true] at hok
  obtain ⟨hdg, hnp⟩ := okD_spec hok.1 rfl
  have hdg : decode q.2.1 pc = .ok (.bipush n, 2) := hdg
  simp only [stp] at hs
  cases hs
  have hp : e'.1 = pc + 2 := hnp e' hn
  rw [hp] at kk
  exact lv_bipush hx hb hdg rfl (kk ls H locs hl hP hS)

set_option maxHeartbeats 4000000 in
theorem ps_sipush {q : PM} {i pc d j : Nat} {ex : List Nat} {L S L' S' : List Value} {h h' h0 hf : PH} {ls : Array Slot} {H : Heap} {locs : List Loc} {e' : PI} {n : Int}
    (C : Cx p R s m args meth c base sp D dA sc q d h0 hf) (hok : okI prog q i (pc, .sipush n, ex) = true)
    (hs : stp sc q.2.2.2.1 d (.sipush n) ex L S h = some (.inl (j, L', S', h'))) (hl : pL base sp ls q.2.2.1 L) (hP : va_P D pcl (pws base sp dA h) H) (hS : va_S (pAb base) s.heap H locs)
    (h01 : h0.length ≤ h.length) (h02 : psl h0 ≤ psl h) (h11 : h'.length ≤ hf.length) (h12 : psl h' ≤ psl hf)
    (hn : q.2.2.2.2[match j with | 0 => i + 1 | t + 1 => t]? = some e')
    (kk : ∀ (ls' : Array Slot) (H' : Heap) (locs' : List Loc), pL base sp ls' q.2.2.1 L' → va_P D pcl (pws base sp dA h') H' → va_S (pAb base) s.heap H' locs' →
      W p l e R s m args below meth c H' locs' (h'.length - h0.length) (psl h' - psl h0) Q (F0 m e'.1 ls' (S'.map (ptr base sp)))) :
    W p l e R s m args below meth c H locs (h.length - h0.length) (psl h - psl h0) Q (F0 m pc ls (S.map (ptr base sp))) := by
  obtain ⟨hx, hb, hml, hown, hts, hnm, hKf, hSf, hsz, hrc, hrs, hrd, hrl⟩ := C
  unfold okI at hok
  simp only [Bool.and_eq_true] at hok
  obtain ⟨hdg, hnp⟩ := okD_spec hok.1 rfl
  have hdg : decode q.2.1 pc = .ok (.sipush n, 3) := hdg
  simp only [stp] at hs
  cases hs
  have hp : e'.1 = pc + 3 := hnp e' hn
  rw [hp] at kk
  exact lv_sipush hx hb hdg rfl (kk ls H locs hl hP hS)

set_option maxHeartbeats 4000000 in
theorem ps_lconst {q : PM} {i pc d j : Nat} {ex : List Nat} {L S L' S' : List Value} {h h' h0 hf : PH} {ls : Array Slot} {H : Heap} {locs : List Loc} {e' : PI} {n : Fin 2}
    (C : Cx p R s m args meth c base sp D dA sc q d h0 hf) (hok : okI prog q i (pc, .lconst n, ex) = true)
    (hs : stp sc q.2.2.2.1 d (.lconst n) ex L S h = some (.inl (j, L', S', h'))) (hl : pL base sp ls q.2.2.1 L) (hP : va_P D pcl (pws base sp dA h) H) (hS : va_S (pAb base) s.heap H locs)
    (h01 : h0.length ≤ h.length) (h02 : psl h0 ≤ psl h) (h11 : h'.length ≤ hf.length) (h12 : psl h' ≤ psl hf)
    (hn : q.2.2.2.2[match j with | 0 => i + 1 | t + 1 => t]? = some e')
    (kk : ∀ (ls' : Array Slot) (H' : Heap) (locs' : List Loc), pL base sp ls' q.2.2.1 L' → va_P D pcl (pws base sp dA h') H' → va_S (pAb base) s.heap H' locs' →
      W p l e R s m args below meth c H' locs' (h'.length - h0.length) (psl h' - psl h0) Q (F0 m e'.1 ls' (S'.map (ptr base sp)))) :
    W p l e R s m args below meth c H locs (h.length - h0.length) (psl h - psl h0) Q (F0 m pc ls (S.map (ptr base sp))) := by
  obtain ⟨hx, hb, hml, hown, hts, hnm, hKf, hSf, hsz, hrc, hrs, hrd, hrl⟩ := C
  unfold okI at hok
  simp only [Bool.and_eq_true] at hok
  obtain ⟨hdg, hnp⟩ := okD_spec hok.1 rfl
  have hdg : decode q.2.1 pc = .ok (.lconst n, 1) := hdg
  simp only [stp] at hs
  cases hs
  have hp : e'.1 = pc + 1 := hnp e' hn
  rw [hp] at kk
  exact lv_lconst hx hb hdg rfl (kk ls H locs hl hP hS)

set_option maxHeartbeats 4000000 in
theorem ps_aconst_null {q : PM} {i pc d j : Nat} {ex : List Nat} {L S L' S' : List Value} {h h' h0 hf : PH} {ls : Array Slot} {H : Heap} {locs : List Loc} {e' : PI}
    (C : Cx p R s m args meth c base sp D dA sc q d h0 hf) (hok : okI prog q i (pc, .aconst_null, ex) = true)
    (hs : stp sc q.2.2.2.1 d (.aconst_null) ex L S h = some (.inl (j, L', S', h'))) (hl : pL base sp ls q.2.2.1 L) (hP : va_P D pcl (pws base sp dA h) H) (hS : va_S (pAb base) s.heap H locs)
    (h01 : h0.length ≤ h.length) (h02 : psl h0 ≤ psl h) (h11 : h'.length ≤ hf.length) (h12 : psl h' ≤ psl hf)
    (hn : q.2.2.2.2[match j with | 0 => i + 1 | t + 1 => t]? = some e')
    (kk : ∀ (ls' : Array Slot) (H' : Heap) (locs' : List Loc), pL base sp ls' q.2.2.1 L' → va_P D pcl (pws base sp dA h') H' → va_S (pAb base) s.heap H' locs' →
      W p l e R s m args below meth c H' locs' (h'.length - h0.length) (psl h' - psl h0) Q (F0 m e'.1 ls' (S'.map (ptr base sp)))) :
    W p l e R s m args below meth c H locs (h.length - h0.length) (psl h - psl h0) Q (F0 m pc ls (S.map (ptr base sp))) := by
  obtain ⟨hx, hb, hml, hown, hts, hnm, hKf, hSf, hsz, hrc, hrs, hrd, hrl⟩ := C
  unfold okI at hok
  simp only [Bool.and_eq_true] at hok
  obtain ⟨hdg, hnp⟩ := okD_spec hok.1 rfl
  have hdg : decode q.2.1 pc = .ok (.aconst_null, 1) := hdg
  simp only [stp] at hs
  cases hs
  have hp : e'.1 = pc + 1 := hnp e' hn
  rw [hp] at kk
  exact lv_null hx hb hdg (kk ls H locs hl hP hS)

set_option maxHeartbeats 4000000 in
theorem ps_iload {q : PM} {i pc d j : Nat} {ex : List Nat} {L S L' S' : List Value} {h h' h0 hf : PH} {ls : Array Slot} {H : Heap} {locs : List Loc} {e' : PI} {k : Nat}
    (C : Cx p R s m args meth c base sp D dA sc q d h0 hf) (hok : okI prog q i (pc, .iload k, ex) = true)
    (hs : stp sc q.2.2.2.1 d (.iload k) ex L S h = some (.inl (j, L', S', h'))) (hl : pL base sp ls q.2.2.1 L) (hP : va_P D pcl (pws base sp dA h) H) (hS : va_S (pAb base) s.heap H locs)
    (h01 : h0.length ≤ h.length) (h02 : psl h0 ≤ psl h) (h11 : h'.length ≤ hf.length) (h12 : psl h' ≤ psl hf)
    (hn : q.2.2.2.2[match j with | 0 => i + 1 | t + 1 => t]? = some e')
    (kk : ∀ (ls' : Array Slot) (H' : Heap) (locs' : List Loc), pL base sp ls' q.2.2.1 L' → va_P D pcl (pws base sp dA h') H' → va_S (pAb base) s.heap H' locs' →
      W p l e R s m args below meth c H' locs' (h'.length - h0.length) (psl h' - psl h0) Q (F0 m e'.1 ls' (S'.map (ptr base sp)))) :
    W p l e R s m args below meth c H locs (h.length - h0.length) (psl h - psl h0) Q (F0 m pc ls (S.map (ptr base sp))) := by
  obtain ⟨hx, hb, hml, hown, hts, hnm, hKf, hSf, hsz, hrc, hrs, hrd, hrl⟩ := C
  unfold okI at hok
  simp only [Bool.and_eq_true] at hok
  obtain ⟨hdg, hnp⟩ := okD_spec hok.1 rfl
  have hdg : decode q.2.1 pc = .ok (.iload k, 2) := hdg
  simp only [stp, pld1] at hs
  split at hs
  · rename_i he
    cases hs
    have hp : e'.1 = pc + 2 := hnp e' hn
    rw [hp] at kk
    exact lv_iload hx hb hdg (hl.2.2.2 _ _ he (fun _ z => by cases z)) (kk ls H locs hl hP hS)
  · cases hs

set_option maxHeartbeats 4000000 in
theorem ps_iload_n {q : PM} {i pc d j : Nat} {ex : List Nat} {L S L' S' : List Value} {h h' h0 hf : PH} {ls : Array Slot} {H : Heap} {locs : List Loc} {e' : PI} {k : Fin 4}
    (C : Cx p R s m args meth c base sp D dA sc q d h0 hf) (hok : okI prog q i (pc, .iload_n k, ex) = true)
    (hs : stp sc q.2.2.2.1 d (.iload_n k) ex L S h = some (.inl (j, L', S', h'))) (hl : pL base sp ls q.2.2.1 L) (hP : va_P D pcl (pws base sp dA h) H) (hS : va_S (pAb base) s.heap H locs)
    (h01 : h0.length ≤ h.length) (h02 : psl h0 ≤ psl h) (h11 : h'.length ≤ hf.length) (h12 : psl h' ≤ psl hf)
    (hn : q.2.2.2.2[match j with | 0 => i + 1 | t + 1 => t]? = some e')
    (kk : ∀ (ls' : Array Slot) (H' : Heap) (locs' : List Loc), pL base sp ls' q.2.2.1 L' → va_P D pcl (pws base sp dA h') H' → va_S (pAb base) s.heap H' locs' →
      W p l e R s m args below meth c H' locs' (h'.length - h0.length) (psl h' - psl h0) Q (F0 m e'.1 ls' (S'.map (ptr base sp)))) :
    W p l e R s m args below meth c H locs (h.length - h0.length) (psl h - psl h0) Q (F0 m pc ls (S.map (ptr base sp))) := by
  obtain ⟨hx, hb, hml, hown, hts, hnm, hKf, hSf, hsz, hrc, hrs, hrd, hrl⟩ := C
  unfold okI at hok
  simp only [Bool.and_eq_true] at hok
  obtain ⟨hdg, hnp⟩ := okD_spec hok.1 rfl
  have hdg : decode q.2.1 pc = .ok (.iload_n k, 1) := hdg
  simp only [stp, pld1] at hs
  split at hs
  · rename_i he
    cases hs
    have hp : e'.1 = pc + 1 := hnp e' hn
    rw [hp] at kk
    exact lv_iload_n hx hb hdg rfl (hl.2.2.2 _ _ he (fun _ z => by cases z)) (kk ls H locs hl hP hS)
  · cases hs

set_option maxHeartbeats 4000000 in
theorem ps_lload {q : PM} {i pc d j : Nat} {ex : List Nat} {L S L' S' : List Value} {h h' h0 hf : PH} {ls : Array Slot} {H : Heap} {locs : List Loc} {e' : PI} {k : Nat}
    (C : Cx p R s m args meth c base sp D dA sc q d h0 hf) (hok : okI prog q i (pc, .lload k, ex) = true)
    (hs : stp sc q.2.2.2.1 d (.lload k) ex L S h = some (.inl (j, L', S', h'))) (hl : pL base sp ls q.2.2.1 L) (hP : va_P D pcl (pws base sp dA h) H) (hS : va_S (pAb base) s.heap H locs)
    (h01 : h0.length ≤ h.length) (h02 : psl h0 ≤ psl h) (h11 : h'.length ≤ hf.length) (h12 : psl h' ≤ psl hf)
    (hn : q.2.2.2.2[match j with | 0 => i + 1 | t + 1 => t]? = some e')
    (kk : ∀ (ls' : Array Slot) (H' : Heap) (locs' : List Loc), pL base sp ls' q.2.2.1 L' → va_P D pcl (pws base sp dA h') H' → va_S (pAb base) s.heap H' locs' →
      W p l e R s m args below meth c H' locs' (h'.length - h0.length) (psl h' - psl h0) Q (F0 m e'.1 ls' (S'.map (ptr base sp)))) :
    W p l e R s m args below meth c H locs (h.length - h0.length) (psl h - psl h0) Q (F0 m pc ls (S.map (ptr base sp))) := by
  obtain ⟨hx, hb, hml, hown, hts, hnm, hKf, hSf, hsz, hrc, hrs, hrd, hrl⟩ := C
  unfold okI at hok
  simp only [Bool.and_eq_true] at hok
  obtain ⟨hdg, hnp⟩ := okD_spec hok.1 rfl
  have hdg : decode q.2.1 pc = .ok (.lload k, 2) := hdg
  simp only [stp, pld2] at hs
  split at hs
  · rename_i he
    cases hs
    have hp : e'.1 = pc + 2 := hnp e' hn
    rw [hp] at kk
    exact lv_lload hx hb hdg (hl.2.2.2 _ _ he (fun _ z => by cases z)) (kk ls H locs hl hP hS)
  · cases hs

set_option maxHeartbeats 4000000 in
theorem ps_lload_n {q : PM} {i pc d j : Nat} {ex : List Nat} {L S L' S' : List Value} {h h' h0 hf : PH} {ls : Array Slot} {H : Heap} {locs : List Loc} {e' : PI} {k : Fin 4}
    (C : Cx p R s m args meth c base sp D dA sc q d h0 hf) (hok : okI prog q i (pc, .lload_n k, ex) = true)
    (hs : stp sc q.2.2.2.1 d (.lload_n k) ex L S h = some (.inl (j, L', S', h'))) (hl : pL base sp ls q.2.2.1 L) (hP : va_P D pcl (pws base sp dA h) H) (hS : va_S (pAb base) s.heap H locs)
    (h01 : h0.length ≤ h.length) (h02 : psl h0 ≤ psl h) (h11 : h'.length ≤ hf.length) (h12 : psl h' ≤ psl hf)
    (hn : q.2.2.2.2[match j with | 0 => i + 1 | t + 1 => t]? = some e')
    (kk : ∀ (ls' : Array Slot) (H' : Heap) (locs' : List Loc), pL base sp ls' q.2.2.1 L' → va_P D pcl (pws base sp dA h') H' → va_S (pAb base) s.heap H' locs' →
      W p l e R s m args below meth c H' locs' (h'.length - h0.length) (psl h' - psl h0) Q (F0 m e'.1 ls' (S'.map (ptr base sp)))) :
    W p l e R s m args below meth c H locs (h.length - h0.length) (psl h - psl h0) Q (F0 m pc ls (S.map (ptr base sp))) := by
  obtain ⟨hx, hb, hml, hown, hts, hnm, hKf, hSf, hsz, hrc, hrs, hrd, hrl⟩ := C
  unfold okI at hok
  simp only [Bool.and_eq_true] at hok
  obtain ⟨hdg, hnp⟩ := okD_spec hok.1 rfl
  have hdg : decode q.2.1 pc = .ok (.lload_n k, 1) := hdg
  simp only [stp, pld2] at hs
  split at hs
  · rename_i he
    cases hs
    have hp : e'.1 = pc + 1 := hnp e' hn
    rw [hp] at kk
    exact lv_lload_n hx hb hdg rfl (hl.2.2.2 _ _ he (fun _ z => by cases z)) (kk ls H locs hl hP hS)
  · cases hs

set_option maxHeartbeats 4000000 in
theorem ps_aload {q : PM} {i pc d j : Nat} {ex : List Nat} {L S L' S' : List Value} {h h' h0 hf : PH} {ls : Array Slot} {H : Heap} {locs : List Loc} {e' : PI} {k : Nat}
    (C : Cx p R s m args meth c base sp D dA sc q d h0 hf) (hok : okI prog q i (pc, .aload k, ex) = true)
    (hs : stp sc q.2.2.2.1 d (.aload k) ex L S h = some (.inl (j, L', S', h'))) (hl : pL base sp ls q.2.2.1 L) (hP : va_P D pcl (pws base sp dA h) H) (hS : va_S (pAb base) s.heap H locs)
    (h01 : h0.length ≤ h.length) (h02 : psl h0 ≤ psl h) (h11 : h'.length ≤ hf.length) (h12 : psl h' ≤ psl hf)
    (hn : q.2.2.2.2[match j with | 0 => i + 1 | t + 1 => t]? = some e')
    (kk : ∀ (ls' : Array Slot) (H' : Heap) (locs' : List Loc), pL base sp ls' q.2.2.1 L' → va_P D pcl (pws base sp dA h') H' → va_S (pAb base) s.heap H' locs' →
      W p l e R s m args below meth c H' locs' (h'.length - h0.length) (psl h' - psl h0) Q (F0 m e'.1 ls' (S'.map (ptr base sp)))) :
    W p l e R s m args below meth c H locs (h.length - h0.length) (psl h - psl h0) Q (F0 m pc ls (S.map (ptr base sp))) := by
  obtain ⟨hx, hb, hml, hown, hts, hnm, hKf, hSf, hsz, hrc, hrs, hrd, hrl⟩ := C
  unfold okI at hok
  simp only [Bool.and_eq_true] at hok
  obtain ⟨hdg, hnp⟩ := okD_spec hok.1 rfl
  have hdg : decode q.2.1 pc = .ok (.aload k, 2) := hdg
  simp only [stp, plda] at hs
  split at hs
  · rename_i he
    cases hs
    have hp : e'.1 = pc + 2 := hnp e' hn
    rw [hp] at kk
    exact lv_aload hx hb hdg (hl.2.2.2 _ _ he (fun _ z => by cases z)) (kk ls H locs hl hP hS)
  · rename_i he
    cases hs
    have hp : e'.1 = pc + 2 := hnp e' hn
    rw [hp] at kk
    exact lv_aloadN hx hb hdg (hl.2.2.2 _ _ he (fun _ z => by cases z)) (kk ls H locs hl hP hS)
  · rename_i he
    cases hs
    have hp : e'.1 = pc + 2 := hnp e' hn
    rw [hp] at kk
    exact lv_aload hx hb hdg (hl.2.2.2 _ _ he (fun _ z => by cases z)) (kk ls H locs hl hP hS)
  · cases hs

set_option maxHeartbeats 4000000 in
theorem ps_aload_n {q : PM} {i pc d j : Nat} {ex : List Nat} {L S L' S' : List Value} {h h' h0 hf : PH} {ls : Array Slot} {H : Heap} {locs : List Loc} {e' : PI} {k : Fin 4}
    (C : Cx p R s m args meth c base sp D dA sc q d h0 hf) (hok : okI prog q i (pc, .aload_n k, ex) = true)
    (hs : stp sc q.2.2.2.1 d (.aload_n k) ex L S h = some (.inl (j, L', S', h'))) (hl : pL base sp ls q.2.2.1 L) (hP : va_P D pcl (pws base sp dA h) H) (hS : va_S (pAb base) s.heap H locs)
    (h01 : h0.length ≤ h.length) (h02 : psl h0 ≤ psl h) (h11 : h'.length ≤ hf.length) (h12 : psl h' ≤ psl hf)
    (hn : q.2.2.2.2[match j with | 0 => i + 1 | t + 1 => t]? = some e')
    (kk : ∀ (ls' : Array Slot) (H' : Heap) (locs' : List Loc), pL base sp ls' q.2.2.1 L' → va_P D pcl (pws base sp dA h') H' → va_S (pAb base) s.heap H' locs' →
      W p l e R s m args below meth c H' locs' (h'.length - h0.length) (psl h' - psl h0) Q (F0 m e'.1 ls' (S'.map (ptr base sp)))) :
    W p l e R s m args below meth c H locs (h.length - h0.length) (psl h - psl h0) Q (F0 m pc ls (S.map (ptr base sp))) := by
  obtain ⟨hx, hb, hml, hown, hts, hnm, hKf, hSf, hsz, hrc, hrs, hrd, hrl⟩ := C
  unfold okI at hok
  simp only [Bool.and_eq_true] at hok
  obtain ⟨hdg, hnp⟩ := okD_spec hok.1 rfl
  have hdg : decode q.2.1 pc = .ok (.aload_n k, 1) := hdg
  simp only [stp, plda] at hs
  split at hs
  · rename_i he
    cases hs
    have hp : e'.1 = pc + 1 := hnp e' hn
    rw [hp] at kk
    exact lv_aload_n hx hb hdg rfl (hl.2.2.2 _ _ he (fun _ z => by cases z)) (kk ls H locs hl hP hS)
  · rename_i he
    cases hs
    have hp : e'.1 = pc + 1 := hnp e' hn
    rw [hp] at kk
    exact lv_aload_nN hx hb hdg rfl (hl.2.2.2 _ _ he (fun _ z => by cases z)) (kk ls H locs hl hP hS)
  · rename_i he
    cases hs
    have hp : e'.1 = pc + 1 := hnp e' hn
    rw [hp] at kk
    exact lv_aload_n hx hb hdg rfl (hl.2.2.2 _ _ he (fun _ z => by cases z)) (kk ls H locs hl hP hS)
  · cases hs

set_option maxHeartbeats 4000000 in
theorem ps_istore {q : PM} {i pc d j : Nat} {ex : List Nat} {L S L' S' : List Value} {h h' h0 hf : PH} {ls : Array Slot} {H : Heap} {locs : List Loc} {e' : PI} {k : Nat}
    (C : Cx p R s m args meth c base sp D dA sc q d h0 hf) (hok : okI prog q i (pc, .istore k, ex) = true)
    (hs : stp sc q.2.2.2.1 d (.istore k) ex L S h = some (.inl (j, L', S', h'))) (hl : pL base sp ls q.2.2.1 L) (hP : va_P D pcl (pws base sp dA h) H) (hS : va_S (pAb base) s.heap H locs)
    (h01 : h0.length ≤ h.length) (h02 : psl h0 ≤ psl h) (h11 : h'.length ≤ hf.length) (h12 : psl h' ≤ psl hf)
    (hn : q.2.2.2.2[match j with | 0 => i + 1 | t + 1 => t]? = some e')
    (kk : ∀ (ls' : Array Slot) (H' : Heap) (locs' : List Loc), pL base sp ls' q.2.2.1 L' → va_P D pcl (pws base sp dA h') H' → va_S (pAb base) s.heap H' locs' →
      W p l e R s m args below meth c H' locs' (h'.length - h0.length) (psl h' - psl h0) Q (F0 m e'.1 ls' (S'.map (ptr base sp)))) :
    W p l e R s m args below meth c H locs (h.length - h0.length) (psl h - psl h0) Q (F0 m pc ls (S.map (ptr base sp))) := by
  obtain ⟨hx, hb, hml, hown, hts, hnm, hKf, hSf, hsz, hrc, hrs, hrd, hrl⟩ := C
  unfold okI at hok
  simp only [Bool.and_eq_true] at hok
  obtain ⟨hdg, hnp⟩ := okD_spec hok.1 rfl
  have hdg : decode q.2.1 pc = .ok (.istore k, 2) := hdg
  simp only [stp, pst1] at hs
  split at hs
  · split at hs
    · rename_i he
      obtain ⟨h1, h2, rfl⟩ := pst_spec he
      cases hs
      have hp : e'.1 = pc + 2 := hnp e' hn
      rw [hp] at kk
      exact lv_istore hx hb hdg hl.has (by rw [← hl.2.1]; exact h1) rfl (fun ls' hl' => kk ls' H locs (hl.set1 h2 hl') hP hS)
    · cases hs
  · cases hs

set_option maxHeartbeats 4000000 in
theorem ps_istore_n {q : PM} {i pc d j : Nat} {ex : List Nat} {L S L' S' : List Value} {h h' h0 hf : PH} {ls : Array Slot} {H : Heap} {locs : List Loc} {e' : PI} {k : Fin 4}
    (C : Cx p R s m args meth c base sp D dA sc q d h0 hf) (hok : okI prog q i (pc, .istore_n k, ex) = true)
    (hs : stp sc q.2.2.2.1 d (.istore_n k) ex L S h = some (.inl (j, L', S', h'))) (hl : pL base sp ls q.2.2.1 L) (hP : va_P D pcl (pws base sp dA h) H) (hS : va_S (pAb base) s.heap H locs)
    (h01 : h0.length ≤ h.length) (h02 : psl h0 ≤ psl h) (h11 : h'.length ≤ hf.length) (h12 : psl h' ≤ psl hf)
    (hn : q.2.2.2.2[match j with | 0 => i + 1 | t + 1 => t]? = some e')
    (kk : ∀ (ls' : Array Slot) (H' : Heap) (locs' : List Loc), pL base sp ls' q.2.2.1 L' → va_P D pcl (pws base sp dA h') H' → va_S (pAb base) s.heap H' locs' →
      W p l e R s m args below meth c H' locs' (h'.length - h0.length) (psl h' - psl h0) Q (F0 m e'.1 ls' (S'.map (ptr base sp)))) :
    W p l e R s m args below meth c H locs (h.length - h0.length) (psl h - psl h0) Q (F0 m pc ls (S.map (ptr base sp))) := by
  obtain ⟨hx, hb, hml, hown, hts, hnm, hKf, hSf, hsz, hrc, hrs, hrd, hrl⟩ := C
  unfold okI at hok
  simp only [Bool.and_eq_true] at hok
  obtain ⟨hdg, hnp⟩ := okD_spec hok.1 rfl
  have hdg : decode q.2.1 pc = .ok (.istore_n k, 1) := hdg
  simp only [stp, pst1] at hs
  split at hs
  · split at hs
    · rename_i he
      obtain ⟨h1, h2, rfl⟩ := pst_spec he
      cases hs
      have hp : e'.1 = pc + 1 := hnp e' hn
      rw [hp] at kk
      exact lv_istore_n hx hb hdg rfl hl.has (by rw [← hl.2.1]; exact h1) rfl (fun ls' hl' => kk ls' H locs (hl.set1 h2 hl') hP hS)
    · cases hs
  · cases hs

set_option maxHeartbeats 4000000 in
theorem ps_lstore {q : PM} {i pc d j : Nat} {ex : List Nat} {L S L' S' : List Value} {h h' h0 hf : PH} {ls : Array Slot} {H : Heap} {locs : List Loc} {e' : PI} {k : Nat}
    (C : Cx p R s m args meth c base sp D dA sc q d h0 hf) (hok : okI prog q i (pc, .lstore k, ex) = true)
    (hs : stp sc q.2.2.2.1 d (.lstore k) ex L S h = some (.inl (j, L', S', h'))) (hl : pL base sp ls q.2.2.1 L) (hP : va_P D pcl (pws base sp dA h) H) (hS : va_S (pAb base) s.heap H locs)
    (h01 : h0.length ≤ h.length) (h02 : psl h0 ≤ psl h) (h11 : h'.length ≤ hf.length) (h12 : psl h' ≤ psl hf)
    (hn : q.2.2.2.2[match j with | 0 => i + 1 | t + 1 => t]? = some e')
    (kk : ∀ (ls' : Array Slot) (H' : Heap) (locs' : List Loc), pL base sp ls' q.2.2.1 L' → va_P D pcl (pws base sp dA h') H' → va_S (pAb base) s.heap H' locs' →
      W p l e R s m args below meth c H' locs' (h'.length - h0.length) (psl h' - psl h0) Q (F0 m e'.1 ls' (S'.map (ptr base sp)))) :
    W p l e R s m args below meth c H locs (h.length - h0.length) (psl h - psl h0) Q (F0 m pc ls (S.map (ptr base sp))) := by
  obtain ⟨hx, hb, hml, hown, hts, hnm, hKf, hSf, hsz, hrc, hrs, hrd, hrl⟩ := C
  unfold okI at hok
  simp only [Bool.and_eq_true] at hok
  obtain ⟨hdg, hnp⟩ := okD_spec hok.1 rfl
  have hdg : decode q.2.1 pc = .ok (.lstore k, 2) := hdg
  simp only [stp, pstl] at hs
  split at hs
  · split at hs
    · rename_i he
      obtain ⟨h1, h2, rfl⟩ := pst2_spec he
      cases hs
      have hp : e'.1 = pc + 2 := hnp e' hn
      rw [hp] at kk
      exact lv_lstore hx hb hdg hl.has (by rw [← hl.2.1]; exact h1) rfl (fun ls' hl' => kk ls' H locs (hl.set2 h2 hl') hP hS)
    · cases hs
  · cases hs

set_option maxHeartbeats 4000000 in
theorem ps_lstore_n {q : PM} {i pc d j : Nat} {ex : List Nat} {L S L' S' : List Value} {h h' h0 hf : PH} {ls : Array Slot} {H : Heap} {locs : List Loc} {e' : PI} {k : Fin 4}
    (C : Cx p R s m args meth c base sp D dA sc q d h0 hf) (hok : okI prog q i (pc, .lstore_n k, ex) = true)
    (hs : stp sc q.2.2.2.1 d (.lstore_n k) ex L S h = some (.inl (j, L', S', h'))) (hl : pL base sp ls q.2.2.1 L) (hP : va_P D pcl (pws base sp dA h) H) (hS : va_S (pAb base) s.heap H locs)
    (h01 : h0.length ≤ h.length) (h02 : psl h0 ≤ psl h) (h11 : h'.length ≤ hf.length) (h12 : psl h' ≤ psl hf)
    (hn : q.2.2.2.2[match j with | 0 => i + 1 | t + 1 => t]? = some e')
    (kk : ∀ (ls' : Array Slot) (H' : Heap) (locs' : List Loc), pL base sp ls' q.2.2.1 L' → va_P D pcl (pws base sp dA h') H' → va_S (pAb base) s.heap H' locs' →
      W p l e R s m args below meth c H' locs' (h'.length - h0.length) (psl h' - psl h0) Q (F0 m e'.1 ls' (S'.map (ptr base sp)))) :
    W p l e R s m args below meth c H locs (h.length - h0.length) (psl h - psl h0) Q (F0 m pc ls (S.map (ptr base sp))) := by
  obtain ⟨hx, hb, hml, hown, hts, hnm, hKf, hSf, hsz, hrc, hrs, hrd, hrl⟩ := C
  unfold okI at hok
  simp only [Bool.and_eq_true] at hok
  obtain ⟨hdg, hnp⟩ := okD_spec hok.1 rfl
  have hdg : decode q.2.1 pc = .ok (.lstore_n k, 1) := hdg
  simp only [stp, pstl] at hs
  split at hs
  · split at hs
    · rename_i he
      obtain ⟨h1, h2, rfl⟩ := pst2_spec he
      cases hs
      have hp : e'.1 = pc + 1 := hnp e' hn
      rw [hp] at kk
      exact lv_lstore_n hx hb hdg rfl hl.has (by rw [← hl.2.1]; exact h1) rfl (fun ls' hl' => kk ls' H locs (hl.set2 h2 hl') hP hS)
    · cases hs
  · cases hs

set_option maxHeartbeats 4000000 in
theorem ps_astore {q : PM} {i pc d j : Nat} {ex : List Nat} {L S L' S' : List Value} {h h' h0 hf : PH} {ls : Array Slot} {H : Heap} {locs : List Loc} {e' : PI} {k : Nat}
    (C : Cx p R s m args meth c base sp D dA sc q d h0 hf) (hok : okI prog q i (pc, .astore k, ex) = true)
    (hs : stp sc q.2.2.2.1 d (.astore k) ex L S h = some (.inl (j, L', S', h'))) (hl : pL base sp ls q.2.2.1 L) (hP : va_P D pcl (pws base sp dA h) H) (hS : va_S (pAb base) s.heap H locs)
    (h01 : h0.length ≤ h.length) (h02 : psl h0 ≤ psl h) (h11 : h'.length ≤ hf.length) (h12 : psl h' ≤ psl hf)
    (hn : q.2.2.2.2[match j with | 0 => i + 1 | t + 1 => t]? = some e')
    (kk : ∀ (ls' : Array Slot) (H' : Heap) (locs' : List Loc), pL base sp ls' q.2.2.1 L' → va_P D pcl (pws base sp dA h') H' → va_S (pAb base) s.heap H' locs' →
      W p l e R s m args below meth c H' locs' (h'.length - h0.length) (psl h' - psl h0) Q (F0 m e'.1 ls' (S'.map (ptr base sp)))) :
    W p l e R s m args below meth c H locs (h.length - h0.length) (psl h - psl h0) Q (F0 m pc ls (S.map (ptr base sp))) := by
  obtain ⟨hx, hb, hml, hown, hts, hnm, hKf, hSf, hsz, hrc, hrs, hrd, hrl⟩ := C
  unfold okI at hok
  simp only [Bool.and_eq_true] at hok
  obtain ⟨hdg, hnp⟩ := okD_spec hok.1 rfl
  have hdg : decode q.2.1 pc = .ok (.astore k, 2) := hdg
  simp only [stp, psta] at hs
  split at hs
  · split at hs
    · rename_i he
      obtain ⟨h1, h2, rfl⟩ := pst_spec he
      cases hs
      have hp : e'.1 = pc + 2 := hnp e' hn
      rw [hp] at kk
      exact lv_astore hx hb hdg hl.has (by rw [← hl.2.1]; exact h1) rfl (fun ls' hl' => kk ls' H locs (hl.set1 h2 hl') hP hS)
    · cases hs
  · split at hs
    · rename_i he
      obtain ⟨h1, h2, rfl⟩ := pst_spec he
      cases hs
      have hp : e'.1 = pc + 2 := hnp e' hn
      rw [hp] at kk
      exact lv_astoreN hx hb hdg hl.has (by rw [← hl.2.1]; exact h1) rfl (fun ls' hl' => kk ls' H locs (hl.set1 h2 hl') hP hS)
    · cases hs
  · split at hs
    · rename_i he
      obtain ⟨h1, h2, rfl⟩ := pst_spec he
      cases hs
      have hp : e'.1 = pc + 2 := hnp e' hn
      rw [hp] at kk
      exact lv_astore hx hb hdg hl.has (by rw [← hl.2.1]; exact h1) rfl (fun ls' hl' => kk ls' H locs (hl.set1 h2 hl') hP hS)
    · cases hs
  · cases hs

set_option maxHeartbeats 4000000 in
theorem ps_astore_n {q : PM} {i pc d j : Nat} {ex : List Nat} {L S L' S' : List Value} {h h' h0 hf : PH} {ls : Array Slot} {H : Heap} {locs : List Loc} {e' : PI} {k : Fin 4}
    (C : Cx p R s m args meth c base sp D dA sc q d h0 hf) (hok : okI prog q i (pc, .astore_n k, ex) = true)
    (hs : stp sc q.2.2.2.1 d (.astore_n k) ex L S h = some (.inl (j, L', S', h'))) (hl : pL base sp ls q.2.2.1 L) (hP : va_P D pcl (pws base sp dA h) H) (hS : va_S (pAb base) s.heap H locs)
    (h01 : h0.length ≤ h.length) (h02 : psl h0 ≤ psl h) (h11 : h'.length ≤ hf.length) (h12 : psl h' ≤ psl hf)
    (hn : q.2.2.2.2[match j with | 0 => i + 1 | t + 1 => t]? = some e')
    (kk : ∀ (ls' : Array Slot) (H' : Heap) (locs' : List Loc), pL base sp ls' q.2.2.1 L' → va_P D pcl (pws base sp dA h') H' → va_S (pAb base) s.heap H' locs' →
      W p l e R s m args below meth c H' locs' (h'.length - h0.length) (psl h' - psl h0) Q (F0 m e'.1 ls' (S'.map (ptr base sp)))) :
    W p l e R s m args below meth c H locs (h.length - h0.length) (psl h - psl h0) Q (F0 m pc ls (S.map (ptr base sp))) := by
  obtain ⟨hx, hb, hml, hown, hts, hnm, hKf, hSf, hsz, hrc, hrs, hrd, hrl⟩ := C
  unfold okI at hok
  simp only [Bool.and_eq_true] at hok
  obtain ⟨hdg, hnp⟩ := okD_spec hok.1 rfl
  have hdg : decode q.2.1 pc = .ok (.astore_n k, 1) := hdg
  simp only [stp, psta] at hs
  split at hs
  · split at hs
    · rename_i he
      obtain ⟨h1, h2, rfl⟩ := pst_spec he
      cases hs
      have hp : e'.1 = pc + 1 := hnp e' hn
      rw [hp] at kk
      exact lv_astore_n hx hb hdg rfl hl.has (by rw [← hl.2.1]; exact h1) rfl (fun ls' hl' => kk ls' H locs (hl.set1 h2 hl') hP hS)
    · cases hs
  · split at hs
    · rename_i he
      obtain ⟨h1, h2, rfl⟩ := pst_spec he
      cases hs
      have hp : e'.1 = pc + 1 := hnp e' hn
      rw [hp] at kk
      exact lv_astore_nN hx hb hdg rfl hl.has (by rw [← hl.2.1]; exact h1) rfl (fun ls' hl' => kk ls' H locs (hl.set1 h2 hl') hP hS)
    · cases hs
  · split at hs
    · rename_i he
      obtain ⟨h1, h2, rfl⟩ := pst_spec he
      cases hs
      have hp : e'.1 = pc + 1 := hnp e' hn
      rw [hp] at kk
      exact lv_astore_n hx hb hdg rfl hl.has (by rw [← hl.2.1]; exact h1) rfl (fun ls' hl' => kk ls' H locs (hl.set1 h2 hl') hP hS)
    · cases hs
  · cases hs

set_option maxHeartbeats 4000000 in
theorem ps_iinc {q : PM} {i pc d j : Nat} {ex : List Nat} {L S L' S' : List Value} {h h' h0 hf : PH} {ls : Array Slot} {H : Heap} {locs : List Loc} {e' : PI} {k : Nat} {n : Int}
    (C : Cx p R s m args meth c base sp D dA sc q d h0 hf) (hok : okI prog q i (pc, .iinc k n, ex) = true)
    (hs : stp sc q.2.2.2.1 d (.iinc k n) ex L S h = some (.inl (j, L', S', h'))) (hl : pL base sp ls q.2.2.1 L) (hP : va_P D pcl (pws base sp dA h) H) (hS : va_S (pAb base) s.heap H locs)
    (h01 : h0.length ≤ h.length) (h02 : psl h0 ≤ psl h) (h11 : h'.length ≤ hf.length) (h12 : psl h' ≤ psl hf)
    (hn : q.2.2.2.2[match j with | 0 => i + 1 | t + 1 => t]? = some e')
    (kk : ∀ (ls' : Array Slot) (H' : Heap) (locs' : List Loc), pL base sp ls' q.2.2.1 L' → va_P D pcl (pws base sp dA h') H' → va_S (pAb base) s.heap H' locs' →
      W p l e R s m args below meth c H' locs' (h'.length - h0.length) (psl h' - psl h0) Q (F0 m e'.1 ls' (S'.map (ptr base sp)))) :
    W p l e R s m args below meth c H locs (h.length - h0.length) (psl h - psl h0) Q (F0 m pc ls (S.map (ptr base sp))) := by
  obtain ⟨hx, hb, hml, hown, hts, hnm, hKf, hSf, hsz, hrc, hrs, hrd, hrl⟩ := C
  unfold okI at hok
  simp only [Bool.and_eq_true] at hok
  obtain ⟨hdg, hnp⟩ := okD_spec hok.1 rfl
  have hdg : decode q.2.1 pc = .ok (.iinc k n, 3) := hdg
  simp only [stp] at hs
  split at hs
  · rename_i x he
    split at hs
    · rename_i he2
      obtain ⟨h1, h2, rfl⟩ := pst_spec he2
      cases hs
      have hp : e'.1 = pc + 3 := hnp e' hn
      rw [hp] at kk
      obtain ⟨k0, hk0⟩ := List.getElem?_of_mem (pprs_mem (base := base) (sp := sp) (L := L) (q := (k, .int x)).mpr ⟨.int x, he, (fun _ z => by cases z), rfl⟩)
      exact lv_iinc hx hb hdg hl.has hk0 rfl (by rw [← hl.2.1]; exact h1) rfl (fun ls' hl' => kk ls' H locs (hl.set1 h2 hl') hP hS)
    · cases hs
  · cases hs

set_option maxHeartbeats 4000000 in
theorem ps_iadd {q : PM} {i pc d j : Nat} {ex : List Nat} {L S L' S' : List Value} {h h' h0 hf : PH} {ls : Array Slot} {H : Heap} {locs : List Loc} {e' : PI}
    (C : Cx p R s m args meth c base sp D dA sc q d h0 hf) (hok : okI prog q i (pc, .iadd, ex) = true)
    (hs : stp sc q.2.2.2.1 d (.iadd) ex L S h = some (.inl (j, L', S', h'))) (hl : pL base sp ls q.2.2.1 L) (hP : va_P D pcl (pws base sp dA h) H) (hS : va_S (pAb base) s.heap H locs)
    (h01 : h0.length ≤ h.length) (h02 : psl h0 ≤ psl h) (h11 : h'.length ≤ hf.length) (h12 : psl h' ≤ psl hf)
    (hn : q.2.2.2.2[match j with | 0 => i + 1 | t + 1 => t]? = some e')
    (kk : ∀ (ls' : Array Slot) (H' : Heap) (locs' : List Loc), pL base sp ls' q.2.2.1 L' → va_P D pcl (pws base sp dA h') H' → va_S (pAb base) s.heap H' locs' →
      W p l e R s m args below meth c H' locs' (h'.length - h0.length) (psl h' - psl h0) Q (F0 m e'.1 ls' (S'.map (ptr base sp)))) :
    W p l e R s m args below meth c H locs (h.length - h0.length) (psl h - psl h0) Q (F0 m pc ls (S.map (ptr base sp))) := by
  obtain ⟨hx, hb, hml, hown, hts, hnm, hKf, hSf, hsz, hrc, hrs, hrd, hrl⟩ := C
  unfold okI at hok
  simp only [Bool.and_eq_true] at hok
  obtain ⟨hdg, hnp⟩ := okD_spec hok.1 rfl
  have hdg : decode q.2.1 pc = .ok (.iadd, 1) := hdg
  simp only [stp, pb2] at hs
  split at hs
  · cases hs
    have hp : e'.1 = pc + 1 := hnp e' hn
    rw [hp] at kk
    exact lv_iadd hx hb hdg (kk ls H locs hl hP hS)
  · cases hs

set_option maxHeartbeats 4000000 in
theorem ps_isub {q : PM} {i pc d j : Nat} {ex : List Nat} {L S L' S' : List Value} {h h' h0 hf : PH} {ls : Array Slot} {H : Heap} {locs : List Loc} {e' : PI}
    (C : Cx p R s m args meth c base sp D dA sc q d h0 hf) (hok : okI prog q i (pc, .isub, ex) = true)
    (hs : stp sc q.2.2.2.1 d (.isub) ex L S h = some (.inl (j, L', S', h'))) (hl : pL base sp ls q.2.2.1 L) (hP : va_P D pcl (pws base sp dA h) H) (hS : va_S (pAb base) s.heap H locs)
    (h01 : h0.length ≤ h.length) (h02 : psl h0 ≤ psl h) (h11 : h'.length ≤ hf.length) (h12 : psl h' ≤ psl hf)
    (hn : q.2.2.2.2[match j with | 0 => i + 1 | t + 1 => t]? = some e')
    (kk : ∀ (ls' : Array Slot) (H' : Heap) (locs' : List Loc), pL base sp ls' q.2.2.1 L' → va_P D pcl (pws base sp dA h') H' → va_S (pAb base) s.heap H' locs' →
      W p l e R s m args below meth c H' locs' (h'.length - h0.length) (psl h' - psl h0) Q (F0 m e'.1 ls' (S'.map (ptr base sp)))) :
    W p l e R s m args below meth c H locs (h.length - h0.length) (psl h - psl h0) Q (F0 m pc ls (S.map (ptr base sp))) := by
  obtain ⟨hx, hb, hml, hown, hts, hnm, hKf, hSf, hsz, hrc, hrs, hrd, hrl⟩ := C
  unfold okI at hok
  simp only [Bool.and_eq_true] at hok
  obtain ⟨hdg, hnp⟩ := okD_spec hok.1 rfl
  have hdg : decode q.2.1 pc = .ok (.isub, 1) := hdg
  simp only [stp, pb2] at hs
  split at hs
  · cases hs
    have hp : e'.1 = pc + 1 := hnp e' hn
    rw [hp] at kk
    exact lv_isub hx hb hdg (kk ls H locs hl hP hS)
  · cases hs

set_option maxHeartbeats 4000000 in
theorem ps_imul {q : PM} {i pc d j : Nat} {ex : List Nat} {L S L' S' : List Value} {h h' h0 hf : PH} {ls : Array Slot} {H : Heap} {locs : List Loc} {e' : PI}
    (C : Cx p R s m args meth c base sp D dA sc q d h0 hf) (hok : okI prog q i (pc, .imul, ex) = true)
    (hs : stp sc q.2.2.2.1 d (.imul) ex L S h = some (.inl (j, L', S', h'))) (hl : pL base sp ls q.2.2.1 L) (hP : va_P D pcl (pws base sp dA h) H) (hS : va_S (pAb base) s.heap H locs)
    (h01 : h0.length ≤ h.length) (h02 : psl h0 ≤ psl h) (h11 : h'.length ≤ hf.length) (h12 : psl h' ≤ psl hf)
    (hn : q.2.2.2.2[match j with | 0 => i + 1 | t + 1 => t]? = some e')
    (kk : ∀ (ls' : Array Slot) (H' : Heap) (locs' : List Loc), pL base sp ls' q.2.2.1 L' → va_P D pcl (pws base sp dA h') H' → va_S (pAb base) s.heap H' locs' →
      W p l e R s m args below meth c H' locs' (h'.length - h0.length) (psl h' - psl h0) Q (F0 m e'.1 ls' (S'.map (ptr base sp)))) :
    W p l e R s m args below meth c H locs (h.length - h0.length) (psl h - psl h0) Q (F0 m pc ls (S.map (ptr base sp))) := by
  obtain ⟨hx, hb, hml, hown, hts, hnm, hKf, hSf, hsz, hrc, hrs, hrd, hrl⟩ := C
  unfold okI at hok
  simp only [Bool.and_eq_true] at hok
  obtain ⟨hdg, hnp⟩ := okD_spec hok.1 rfl
  have hdg : decode q.2.1 pc = .ok (.imul, 1) := hdg
  simp only [stp, pb2] at hs
  split at hs
  · cases hs
    have hp : e'.1 = pc + 1 := hnp e' hn
    rw [hp] at kk
    exact lv_imul hx hb hdg (kk ls H locs hl hP hS)
  · cases hs

set_option maxHeartbeats 4000000 in
theorem ps_iand {q : PM} {i pc d j : Nat} {ex : List Nat} {L S L' S' : List Value} {h h' h0 hf : PH} {ls : Array Slot} {H : Heap} {locs : List Loc} {e' : PI}
    (C : Cx p R s m args meth c base sp D dA sc q d h0 hf) (hok : okI prog q i (pc, .iand, ex) = true)
    (hs : stp sc q.2.2.2.1 d (.iand) ex L S h = some (.inl (j, L', S', h'))) (hl : pL base sp ls q.2.2.1 L) (hP : va_P D pcl (pws base sp dA h) H) (hS : va_S (pAb base) s.heap H locs)
    (h01 : h0.length ≤ h.length) (h02 : psl h0 ≤ psl h) (h11 : h'.length ≤ hf.length) (h12 : psl h' ≤ psl hf)
    (hn : q.2.2.2.2[match j with | 0 => i + 1 | t + 1 => t]? = some e')
    (kk : ∀ (ls' : Array Slot) (H' : Heap) (locs' : List Loc), pL base sp ls' q.2.2.1 L' → va_P D pcl (pws base sp dA h') H' → va_S (pAb base) s.heap H' locs' →
      W p l e R s m args below meth c H' locs' (h'.length - h0.length) (psl h' - psl h0) Q (F0 m e'.1 ls' (S'.map (ptr base sp)))) :
    W p l e R s m args below meth c H locs (h.length - h0.length) (psl h - psl h0) Q (F0 m pc ls (S.map (ptr base sp))) := by
  obtain ⟨hx, hb, hml, hown, hts, hnm, hKf, hSf, hsz, hrc, hrs, hrd, hrl⟩ := C
  unfold okI at hok
  simp only [Bool.and_eq_true] at hok
  obtain ⟨hdg, hnp⟩ := okD_spec hok.1 rfl
  have hdg : decode q.2.1 pc = .ok (.iand, 1) := hdg
  simp only [stp, pb2] at hs
  split at hs
  · cases hs
    have hp : e'.1 = pc + 1 := hnp e' hn
    rw [hp] at kk
    exact lv_iand hx hb hdg (kk ls H locs hl hP hS)
  · cases hs

set_option maxHeartbeats 4000000 in
theorem ps_ior {q : PM} {i pc d j : Nat} {ex : List Nat} {L S L' S' : List Value} {h h' h0 hf : PH} {ls : Array Slot} {H : Heap} {locs : List Loc} {e' : PI}
    (C : Cx p R s m args meth c base sp D dA sc q d h0 hf) (hok : okI prog q i (pc, .ior, ex) = true)
    (hs : stp sc q.2.2.2.1 d (.ior) ex L S h = some (.inl (j, L', S', h'))) (hl : pL base sp ls q.2.2.1 L) (hP : va_P D pcl (pws base sp dA h) H) (hS : va_S (pAb base) s.heap H locs)
    (h01 : h0.length ≤ h.length) (h02 : psl h0 ≤ psl h) (h11 : h'.length ≤ hf.length) (h12 : psl h' ≤ psl hf)
    (hn : q.2.2.2.2[match j with | 0 => i + 1 | t + 1 => t]? = some e')
    (kk : ∀ (ls' : Array Slot) (H' : Heap) (locs' : List Loc), pL base sp ls' q.2.2.1 L' → va_P D pcl (pws base sp dA h') H' → va_S (pAb base) s.heap H' locs' →
      W p l e R s m args below meth c H' locs' (h'.length - h0.length) (psl h' - psl h0) Q (F0 m e'.1 ls' (S'.map (ptr base sp)))) :
    W p l e R s m args below meth c H locs (h.length - h0.length) (psl h - psl h0) Q (F0 m pc ls (S.map (ptr base sp))) := by
  obtain ⟨hx, hb, hml, hown, hts, hnm, hKf, hSf, hsz, hrc, hrs, hrd, hrl⟩ := C
  unfold okI at hok
  simp only [Bool.and_eq_true] at hok
  obtain ⟨hdg, hnp⟩ := okD_spec hok.1 rfl
  have hdg : decode q.2.1 pc = .ok (.ior, 1) := hdg
  simp only [stp, pb2] at hs
  split at hs
  · cases hs
    have hp : e'.1 = pc + 1 := hnp e' hn
    rw [hp] at kk
    exact lv_ior hx hb hdg (kk ls H locs hl hP hS)
  · cases hs

set_option maxHeartbeats 4000000 in
theorem ps_ixor {q : PM} {i pc d j : Nat} {ex : List Nat} {L S L' S' : List Value} {h h' h0 hf : PH} {ls : Array Slot} {H : Heap} {locs : List Loc} {e' : PI}
    (C : Cx p R s m args meth c base sp D dA sc q d h0 hf) (hok : okI prog q i (pc, .ixor, ex) = true)
    (hs : stp sc q.2.2.2.1 d (.ixor) ex L S h = some (.inl (j, L', S', h'))) (hl : pL base sp ls q.2.2.1 L) (hP : va_P D pcl (pws base sp dA h) H) (hS : va_S (pAb base) s.heap H locs)
    (h01 : h0.length ≤ h.length) (h02 : psl h0 ≤ psl h) (h11 : h'.length ≤ hf.length) (h12 : psl h' ≤ psl hf)
    (hn : q.2.2.2.2[match j with | 0 => i + 1 | t + 1 => t]? = some e')
    (kk : ∀ (ls' : Array Slot) (H' : Heap) (locs' : List Loc), pL base sp ls' q.2.2.1 L' → va_P D pcl (pws base sp dA h') H' → va_S (pAb base) s.heap H' locs' →
      W p l e R s m args below meth c H' locs' (h'.length - h0.length) (psl h' - psl h0) Q (F0 m e'.1 ls' (S'.map (ptr base sp)))) :
    W p l e R s m args below meth c H locs (h.length - h0.length) (psl h - psl h0) Q (F0 m pc ls (S.map (ptr base sp))) := by
  obtain ⟨hx, hb, hml, hown, hts, hnm, hKf, hSf, hsz, hrc, hrs, hrd, hrl⟩ := C
  unfold okI at hok
  simp only [Bool.and_eq_true] at hok
  obtain ⟨hdg, hnp⟩ := okD_spec hok.1 rfl
  have hdg : decode q.2.1 pc = .ok (.ixor, 1) := hdg
  simp only [stp, pb2] at hs
  split at hs
  · cases hs
    have hp : e'.1 = pc + 1 := hnp e' hn
    rw [hp] at kk
    exact lv_ixor hx hb hdg (kk ls H locs hl hP hS)
  · cases hs

set_option maxHeartbeats 4000000 in
theorem ps_ishl {q : PM} {i pc d j : Nat} {ex : List Nat} {L S L' S' : List Value} {h h' h0 hf : PH} {ls : Array Slot} {H : Heap} {locs : List Loc} {e' : PI}
    (C : Cx p R s m args meth c base sp D dA sc q d h0 hf) (hok : okI prog q i (pc, .ishl, ex) = true)
    (hs : stp sc q.2.2.2.1 d (.ishl) ex L S h = some (.inl (j, L', S', h'))) (hl : pL base sp ls q.2.2.1 L) (hP : va_P D pcl (pws base sp dA h) H) (hS : va_S (pAb base) s.heap H locs)
    (h01 : h0.length ≤ h.length) (h02 : psl h0 ≤ psl h) (h11 : h'.length ≤ hf.length) (h12 : psl h' ≤ psl hf)
    (hn : q.2.2.2.2[match j with | 0 => i + 1 | t + 1 => t]? = some e')
    (kk : ∀ (ls' : Array Slot) (H' : Heap) (locs' : List Loc), pL base sp ls' q.2.2.1 L' → va_P D pcl (pws base sp dA h') H' → va_S (pAb base) s.heap H' locs' →
      W p l e R s m args below meth c H' locs' (h'.length - h0.length) (psl h' - psl h0) Q (F0 m e'.1 ls' (S'.map (ptr base sp)))) :
    W p l e R s m args below meth c H locs (h.length - h0.length) (psl h - psl h0) Q (F0 m pc ls (S.map (ptr base sp))) := by
  obtain ⟨hx, hb, hml, hown, hts, hnm, hKf, hSf, hsz, hrc, hrs, hrd, hrl⟩ := C
  unfold okI at hok
  simp only [Bool.and_eq_true] at hok
  obtain ⟨hdg, hnp⟩ := okD_spec hok.1 rfl
  have hdg : decode q.2.1 pc = .ok (.ishl, 1) := hdg
  simp only [stp, pb2] at hs
  split at hs
  · cases hs
    have hp : e'.1 = pc + 1 := hnp e' hn
    rw [hp] at kk
    exact lv_ishl hx hb hdg (kk ls H locs hl hP hS)
  · cases hs

set_option maxHeartbeats 4000000 in
theorem ps_ishr {q : PM} {i pc d j : Nat} {ex : List Nat} {L S L' S' : List Value} {h h' h0 hf : PH} {ls : Array Slot} {H : Heap} {locs : List Loc} {e' : PI}
    (C : Cx p R s m args meth c base sp D dA sc q d h0 hf) (hok : okI prog q i (pc, .ishr, ex) = true)
    (hs : stp sc q.2.2.2.1 d (.ishr) ex L S h = some (.inl (j, L', S', h'))) (hl : pL base sp ls q.2.2.1 L) (hP : va_P D pcl (pws base sp dA h) H) (hS : va_S (pAb base) s.heap H locs)
    (h01 : h0.length ≤ h.length) (h02 : psl h0 ≤ psl h) (h11 : h'.length ≤ hf.length) (h12 : psl h' ≤ psl hf)
    (hn : q.2.2.2.2[match j with | 0 => i + 1 | t + 1 => t]? = some e')
    (kk : ∀ (ls' : Array Slot) (H' : Heap) (locs' : List Loc), pL base sp ls' q.2.2.1 L' → va_P D pcl (pws base sp dA h') H' → va_S (pAb base) s.heap H' locs' →
      W p l e R s m args below meth c H' locs' (h'.length - h0.length) (psl h' - psl h0) Q (F0 m e'.1 ls' (S'.map (ptr base sp)))) :
    W p l e R s m args below meth c H locs (h.length - h0.length) (psl h - psl h0) Q (F0 m pc ls (S.map (ptr base sp))) := by
  obtain ⟨hx, hb, hml, hown, hts, hnm, hKf, hSf, hsz, hrc, hrs, hrd, hrl⟩ := C
  unfold okI at hok
  simp only [Bool.and_eq_true] at hok
  obtain ⟨hdg, hnp⟩ := okD_spec hok.1 rfl
  have hdg : decode q.2.1 pc = .ok (.ishr, 1) := hdg
  simp only [stp, pb2] at hs
  split at hs
  · cases hs
    have hp : e'.1 = pc + 1 := hnp e' hn
    rw [hp] at kk
    exact lv_ishr hx hb hdg (kk ls H locs hl hP hS)
  · cases hs

set_option maxHeartbeats 4000000 in
theorem ps_iushr {q : PM} {i pc d j : Nat} {ex : List Nat} {L S L' S' : List Value} {h h' h0 hf : PH} {ls : Array Slot} {H : Heap} {locs : List Loc} {e' : PI}
    (C : Cx p R s m args meth c base sp D dA sc q d h0 hf) (hok : okI prog q i (pc, .iushr, ex) = true)
    (hs : stp sc q.2.2.2.1 d (.iushr) ex L S h = some (.inl (j, L', S', h'))) (hl : pL base sp ls q.2.2.1 L) (hP : va_P D pcl (pws base sp dA h) H) (hS : va_S (pAb base) s.heap H locs)
    (h01 : h0.length ≤ h.length) (h02 : psl h0 ≤ psl h) (h11 : h'.length ≤ hf.length) (h12 : psl h' ≤ psl hf)
    (hn : q.2.2.2.2[match j with | 0 => i + 1 | t + 1 => t]? = some e')
    (kk : ∀ (ls' : Array Slot) (H' : Heap) (locs' : List Loc), pL base sp ls' q.2.2.1 L' → va_P D pcl (pws base sp dA h') H' → va_S (pAb base) s.heap H' locs' →
      W p l e R s m args below meth c H' locs' (h'.length - h0.length) (psl h' - psl h0) Q (F0 m e'.1 ls' (S'.map (ptr base sp)))) :
    W p l e R s m args below meth c H locs (h.length - h0.length) (psl h - psl h0) Q (F0 m pc ls (S.map (ptr base sp))) := by
  obtain ⟨hx, hb, hml, hown, hts, hnm, hKf, hSf, hsz, hrc, hrs, hrd, hrl⟩ := C
  unfold okI at hok
  simp only [Bool.and_eq_true] at hok
  obtain ⟨hdg, hnp⟩ := okD_spec hok.1 rfl
  have hdg : decode q.2.1 pc = .ok (.iushr, 1) := hdg
  simp only [stp, pb2] at hs
  split at hs
  · cases hs
    have hp : e'.1 = pc + 1 := hnp e' hn
    rw [hp] at kk
    exact lv_iushr hx hb hdg rfl (kk ls H locs hl hP hS)
  · cases hs

set_option maxHeartbeats 4000000 in
theorem ps_ladd {q : PM} {i pc d j : Nat} {ex : List Nat} {L S L' S' : List Value} {h h' h0 hf : PH} {ls : Array Slot} {H : Heap} {locs : List Loc} {e' : PI}
    (C : Cx p R s m args meth c base sp D dA sc q d h0 hf) (hok : okI prog q i (pc, .ladd, ex) = true)
    (hs : stp sc q.2.2.2.1 d (.ladd) ex L S h = some (.inl (j, L', S', h'))) (hl : pL base sp ls q.2.2.1 L) (hP : va_P D pcl (pws base sp dA h) H) (hS : va_S (pAb base) s.heap H locs)
    (h01 : h0.length ≤ h.length) (h02 : psl h0 ≤ psl h) (h11 : h'.length ≤ hf.length) (h12 : psl h' ≤ psl hf)
    (hn : q.2.2.2.2[match j with | 0 => i + 1 | t + 1 => t]? = some e')
    (kk : ∀ (ls' : Array Slot) (H' : Heap) (locs' : List Loc), pL base sp ls' q.2.2.1 L' → va_P D pcl (pws base sp dA h') H' → va_S (pAb base) s.heap H' locs' →
      W p l e R s m args below meth c H' locs' (h'.length - h0.length) (psl h' - psl h0) Q (F0 m e'.1 ls' (S'.map (ptr base sp)))) :
    W p l e R s m args below meth c H locs (h.length - h0.length) (psl h - psl h0) Q (F0 m pc ls (S.map (ptr base sp))) := by
  obtain ⟨hx, hb, hml, hown, hts, hnm, hKf, hSf, hsz, hrc, hrs, hrd, hrl⟩ := C
  unfold okI at hok
  simp only [Bool.and_eq_true] at hok
  obtain ⟨hdg, hnp⟩ := okD_spec hok.1 rfl
  have hdg : decode q.2.1 pc = .ok (.ladd, 1) := hdg
  simp only [stp, pl2] at hs
  split at hs
  · cases hs
    have hp : e'.1 = pc + 1 := hnp e' hn
    rw [hp] at kk
    exact lv_ladd hx hb hdg (kk ls H locs hl hP hS)
  · cases hs

set_option maxHeartbeats 4000000 in
theorem ps_lsub {q : PM} {i pc d j : Nat} {ex : List Nat} {L S L' S' : List Value} {h h' h0 hf : PH} {ls : Array Slot} {H : Heap} {locs : List Loc} {e' : PI}
    (C : Cx p R s m args meth c base sp D dA sc q d h0 hf) (hok : okI prog q i (pc, .lsub, ex) = true)
    (hs : stp sc q.2.2.2.1 d (.lsub) ex L S h = some (.inl (j, L', S', h'))) (hl : pL base sp ls q.2.2.1 L) (hP : va_P D pcl (pws base sp dA h) H) (hS : va_S (pAb base) s.heap H locs)
    (h01 : h0.length ≤ h.length) (h02 : psl h0 ≤ psl h) (h11 : h'.length ≤ hf.length) (h12 : psl h' ≤ psl hf)
    (hn : q.2.2.2.2[match j with | 0 => i + 1 | t + 1 => t]? = some e')
    (kk : ∀ (ls' : Array Slot) (H' : Heap) (locs' : List Loc), pL base sp ls' q.2.2.1 L' → va_P D pcl (pws base sp dA h') H' → va_S (pAb base) s.heap H' locs' →
      W p l e R s m args below meth c H' locs' (h'.length - h0.length) (psl h' - psl h0) Q (F0 m e'.1 ls' (S'.map (ptr base sp)))) :
    W p l e R s m args below meth c H locs (h.length - h0.length) (psl h - psl h0) Q (F0 m pc ls (S.map (ptr base sp))) := by
  obtain ⟨hx, hb, hml, hown, hts, hnm, hKf, hSf, hsz, hrc, hrs, hrd, hrl⟩ := C
  unfold okI at hok
  simp only [Bool.and_eq_true] at hok
  obtain ⟨hdg, hnp⟩ := okD_spec hok.1 rfl
  have hdg : decode q.2.1 pc = .ok (.lsub, 1) := hdg
  simp only [stp, pl2] at hs
  split at hs
  · cases hs
    have hp : e'.1 = pc + 1 := hnp e' hn
    rw [hp] at kk
    exact lv_lsub hx hb hdg (kk ls H locs hl hP hS)
  · cases hs

set_option maxHeartbeats 4000000 in
theorem ps_lmul {q : PM} {i pc d j : Nat} {ex : List Nat} {L S L' S' : List Value} {h h' h0 hf : PH} {ls : Array Slot} {H : Heap} {locs : List Loc} {e' : PI}
    (C : Cx p R s m args meth c base sp D dA sc q d h0 hf) (hok : okI prog q i (pc, .lmul, ex) = true)
    (hs : stp sc q.2.2.2.1 d (.lmul) ex L S h = some (.inl (j, L', S', h'))) (hl : pL base sp ls q.2.2.1 L) (hP : va_P D pcl (pws base sp dA h) H) (hS : va_S (pAb base) s.heap H locs)
    (h01 : h0.length ≤ h.length) (h02 : psl h0 ≤ psl h) (h11 : h'.length ≤ hf.length) (h12 : psl h' ≤ psl hf)
    (hn : q.2.2.2.2[match j with | 0 => i + 1 | t + 1 => t]? = some e')
    (kk : ∀ (ls' : Array Slot) (H' : Heap) (locs' : List Loc), pL base sp ls' q.2.2.1 L' → va_P D pcl (pws base sp dA h') H' → va_S (pAb base) s.heap H' locs' →
      W p l e R s m args below meth c H' locs' (h'.length - h0.length) (psl h' - psl h0) Q (F0 m e'.1 ls' (S'.map (ptr base sp)))) :
    W p l e R s m args below meth c H locs (h.length - h0.length) (psl h - psl h0) Q (F0 m pc ls (S.map (ptr base sp))) := by
  obtain ⟨hx, hb, hml, hown, hts, hnm, hKf, hSf, hsz, hrc, hrs, hrd, hrl⟩ := C
  unfold okI at hok
  simp only [Bool.and_eq_true] at hok
  obtain ⟨hdg, hnp⟩ := okD_spec hok.1 rfl
  have hdg : decode q.2.1 pc = .ok (.lmul, 1) := hdg
  simp only [stp, pl2] at hs
  split at hs
  · cases hs
    have hp : e'.1 = pc + 1 := hnp e' hn
    rw [hp] at kk
    exact lv_lmul hx hb hdg (kk ls H locs hl hP hS)
  · cases hs

set_option maxHeartbeats 4000000 in
theorem ps_idiv {q : PM} {i pc d j : Nat} {ex : List Nat} {L S L' S' : List Value} {h h' h0 hf : PH} {ls : Array Slot} {H : Heap} {locs : List Loc} {e' : PI}
    (C : Cx p R s m args meth c base sp D dA sc q d h0 hf) (hok : okI prog q i (pc, .idiv, ex) = true)
    (hs : stp sc q.2.2.2.1 d (.idiv) ex L S h = some (.inl (j, L', S', h'))) (hl : pL base sp ls q.2.2.1 L) (hP : va_P D pcl (pws base sp dA h) H) (hS : va_S (pAb base) s.heap H locs)
    (h01 : h0.length ≤ h.length) (h02 : psl h0 ≤ psl h) (h11 : h'.length ≤ hf.length) (h12 : psl h' ≤ psl hf)
    (hn : q.2.2.2.2[match j with | 0 => i + 1 | t + 1 => t]? = some e')
    (kk : ∀ (ls' : Array Slot) (H' : Heap) (locs' : List Loc), pL base sp ls' q.2.2.1 L' → va_P D pcl (pws base sp dA h') H' → va_S (pAb base) s.heap H' locs' →
      W p l e R s m args below meth c H' locs' (h'.length - h0.length) (psl h' - psl h0) Q (F0 m e'.1 ls' (S'.map (ptr base sp)))) :
    W p l e R s m args below meth c H locs (h.length - h0.length) (psl h - psl h0) Q (F0 m pc ls (S.map (ptr base sp))) := by
  obtain ⟨hx, hb, hml, hown, hts, hnm, hKf, hSf, hsz, hrc, hrs, hrd, hrl⟩ := C
  unfold okI at hok
  simp only [Bool.and_eq_true] at hok
  obtain ⟨hdg, hnp⟩ := okD_spec hok.1 rfl
  have hdg : decode q.2.1 pc = .ok (.idiv, 1) := hdg
  simp only [stp, pb2n] at hs
  split at hs
  · split at hs
    · cases hs
    · rename_i hz
      cases hs
      have hp : e'.1 = pc + 1 := hnp e' hn
      rw [hp] at kk
      exact lv_idiv hx hb hdg hz (kk ls H locs hl hP hS)
  · cases hs

set_option maxHeartbeats 4000000 in
theorem ps_irem {q : PM} {i pc d j : Nat} {ex : List Nat} {L S L' S' : List Value} {h h' h0 hf : PH} {ls : Array Slot} {H : Heap} {locs : List Loc} {e' : PI}
    (C : Cx p R s m args meth c base sp D dA sc q d h0 hf) (hok : okI prog q i (pc, .irem, ex) = true)
    (hs : stp sc q.2.2.2.1 d (.irem) ex L S h = some (.inl (j, L', S', h'))) (hl : pL base sp ls q.2.2.1 L) (hP : va_P D pcl (pws base sp dA h) H) (hS : va_S (pAb base) s.heap H locs)
    (h01 : h0.length ≤ h.length) (h02 : psl h0 ≤ psl h) (h11 : h'.length ≤ hf.length) (h12 : psl h' ≤ psl hf)
    (hn : q.2.2.2.2[match j with | 0 => i + 1 | t + 1 => t]? = some e')
    (kk : ∀ (ls' : Array Slot) (H' : Heap) (locs' : List Loc), pL base sp ls' q.2.2.1 L' → va_P D pcl (pws base sp dA h') H' → va_S (pAb base) s.heap H' locs' →
      W p l e R s m args below meth c H' locs' (h'.length - h0.length) (psl h' - psl h0) Q (F0 m e'.1 ls' (S'.map (ptr base sp)))) :
    W p l e R s m args below meth c H locs (h.length - h0.length) (psl h - psl h0) Q (F0 m pc ls (S.map (ptr base sp))) := by
  obtain ⟨hx, hb, hml, hown, hts, hnm, hKf, hSf, hsz, hrc, hrs, hrd, hrl⟩ := C
  unfold okI at hok
  simp only [Bool.and_eq_true] at hok
  obtain ⟨hdg, hnp⟩ := okD_spec hok.1 rfl
  have hdg : decode q.2.1 pc = .ok (.irem, 1) := hdg
  simp only [stp, pb2n] at hs
  split at hs
  · split at hs
    · cases hs
    · rename_i hz
      cases hs
      have hp : e'.1 = pc + 1 := hnp e' hn
      rw [hp] at kk
      exact lv_irem hx hb hdg hz (kk ls H locs hl hP hS)
  · cases hs

set_option maxHeartbeats 4000000 in
theorem ps_ldiv {q : PM} {i pc d j : Nat} {ex : List Nat} {L S L' S' : List Value} {h h' h0 hf : PH} {ls : Array Slot} {H : Heap} {locs : List Loc} {e' : PI}
    (C : Cx p R s m args meth c base sp D dA sc q d h0 hf) (hok : okI prog q i (pc, .ldiv, ex) = true)
    (hs : stp sc q.2.2.2.1 d (.ldiv) ex L S h = some (.inl (j, L', S', h'))) (hl : pL base sp ls q.2.2.1 L) (hP : va_P D pcl (pws base sp dA h) H) (hS : va_S (pAb base) s.heap H locs)
    (h01 : h0.length ≤ h.length) (h02 : psl h0 ≤ psl h) (h11 : h'.length ≤ hf.length) (h12 : psl h' ≤ psl hf)
    (hn : q.2.2.2.2[match j with | 0 => i + 1 | t + 1 => t]? = some e')
    (kk : ∀ (ls' : Array Slot) (H' : Heap) (locs' : List Loc), pL base sp ls' q.2.2.1 L' → va_P D pcl (pws base sp dA h') H' → va_S (pAb base) s.heap H' locs' →
      W p l e R s m args below meth c H' locs' (h'.length - h0.length) (psl h' - psl h0) Q (F0 m e'.1 ls' (S'.map (ptr base sp)))) :
    W p l e R s m args below meth c H locs (h.length - h0.length) (psl h - psl h0) Q (F0 m pc ls (S.map (ptr base sp))) := by
  obtain ⟨hx, hb, hml, hown, hts, hnm, hKf, hSf, hsz, hrc, hrs, hrd, hrl⟩ := C
  unfold okI at hok
  simp only [Bool.and_eq_true] at hok
  obtain ⟨hdg, hnp⟩ := okD_spec hok.1 rfl
  have hdg : decode q.2.1 pc = .ok (.ldiv, 1) := hdg
  simp only [stp, pl2n] at hs
  split at hs
  · split at hs
    · cases hs
    · rename_i hz
      cases hs
      have hp : e'.1 = pc + 1 := hnp e' hn
      rw [hp] at kk
      exact lv_ldiv hx hb hdg hz (kk ls H locs hl hP hS)
  · cases hs

set_option maxHeartbeats 4000000 in
theorem ps_lrem {q : PM} {i pc d j : Nat} {ex : List Nat} {L S L' S' : List Value} {h h' h0 hf : PH} {ls : Array Slot} {H : Heap} {locs : List Loc} {e' : PI}
    (C : Cx p R s m args meth c base sp D dA sc q d h0 hf) (hok : okI prog q i (pc, .lrem, ex) = true)
    (hs : stp sc q.2.2.2.1 d (.lrem) ex L S h = some (.inl (j, L', S', h'))) (hl : pL base sp ls q.2.2.1 L) (hP : va_P D pcl (pws base sp dA h) H) (hS : va_S (pAb base) s.heap H locs)
    (h01 : h0.length ≤ h.length) (h02 : psl h0 ≤ psl h) (h11 : h'.length ≤ hf.length) (h12 : psl h' ≤ psl hf)
    (hn : q.2.2.2.2[match j with | 0 => i + 1 | t + 1 => t]? = some e')
    (kk : ∀ (ls' : Array Slot) (H' : Heap) (locs' : List Loc), pL base sp ls' q.2.2.1 L' → va_P D pcl (pws base sp dA h') H' → va_S (pAb base) s.heap H' locs' →
      W p l e R s m args below meth c H' locs' (h'.length - h0.length) (psl h' - psl h0) Q (F0 m e'.1 ls' (S'.map (ptr base sp)))) :
    W p l e R s m args below meth c H locs (h.length - h0.length) (psl h - psl h0) Q (F0 m pc ls (S.map (ptr base sp))) := by
  obtain ⟨hx, hb, hml, hown, hts, hnm, hKf, hSf, hsz, hrc, hrs, hrd, hrl⟩ := C
  unfold okI at hok
  simp only [Bool.and_eq_true] at hok
  obtain ⟨hdg, hnp⟩ := okD_spec hok.1 rfl
  have hdg : decode q.2.1 pc = .ok (.lrem, 1) := hdg
  simp only [stp, pl2n] at hs
  split at hs
  · split at hs
    · cases hs
    · rename_i hz
      cases hs
      have hp : e'.1 = pc + 1 := hnp e' hn
      rw [hp] at kk
      exact lv_lrem hx hb hdg hz (kk ls H locs hl hP hS)
  · cases hs

set_option maxHeartbeats 4000000 in
theorem ps_ineg {q : PM} {i pc d j : Nat} {ex : List Nat} {L S L' S' : List Value} {h h' h0 hf : PH} {ls : Array Slot} {H : Heap} {locs : List Loc} {e' : PI}
    (C : Cx p R s m args meth c base sp D dA sc q d h0 hf) (hok : okI prog q i (pc, .ineg, ex) = true)
    (hs : stp sc q.2.2.2.1 d (.ineg) ex L S h = some (.inl (j, L', S', h'))) (hl : pL base sp ls q.2.2.1 L) (hP : va_P D pcl (pws base sp dA h) H) (hS : va_S (pAb base) s.heap H locs)
    (h01 : h0.length ≤ h.length) (h02 : psl h0 ≤ psl h) (h11 : h'.length ≤ hf.length) (h12 : psl h' ≤ psl hf)
    (hn : q.2.2.2.2[match j with | 0 => i + 1 | t + 1 => t]? = some e')
    (kk : ∀ (ls' : Array Slot) (H' : Heap) (locs' : List Loc), pL base sp ls' q.2.2.1 L' → va_P D pcl (pws base sp dA h') H' → va_S (pAb base) s.heap H' locs' →
      W p l e R s m args below meth c H' locs' (h'.length - h0.length) (psl h' - psl h0) Q (F0 m e'.1 ls' (S'.map (ptr base sp)))) :
    W p l e R s m args below meth c H locs (h.length - h0.length) (psl h - psl h0) Q (F0 m pc ls (S.map (ptr base sp))) := by
  obtain ⟨hx, hb, hml, hown, hts, hnm, hKf, hSf, hsz, hrc, hrs, hrd, hrl⟩ := C
  unfold okI at hok
  simp only [Bool.and_eq_true] at hok
  obtain ⟨hdg, hnp⟩ := okD_spec hok.1 rfl
  have hdg : decode q.2.1 pc = .ok (.ineg, 1) := hdg
  simp only [stp, pb1] at hs
  split at hs
  · cases hs
    have hp : e'.1 = pc + 1 := hnp e' hn
    rw [hp] at kk
    exact lv_ineg hx hb hdg (kk ls H locs hl hP hS)
  · cases hs

set_option maxHeartbeats 4000000 in
theorem ps_i2b {q : PM} {i pc d j : Nat} {ex : List Nat} {L S L' S' : List Value} {h h' h0 hf : PH} {ls : Array Slot} {H : Heap} {locs : List Loc} {e' : PI}
    (C : Cx p R s m args meth c base sp D dA sc q d h0 hf) (hok : okI prog q i (pc, .i2b, ex) = true)
    (hs : stp sc q.2.2.2.1 d (.i2b) ex L S h = some (.inl (j, L', S', h'))) (hl : pL base sp ls q.2.2.1 L) (hP : va_P D pcl (pws base sp dA h) H) (hS : va_S (pAb base) s.heap H locs)
    (h01 : h0.length ≤ h.length) (h02 : psl h0 ≤ psl h) (h11 : h'.length ≤ hf.length) (h12 : psl h' ≤ psl hf)
    (hn : q.2.2.2.2[match j with | 0 => i + 1 | t + 1 => t]? = some e')
    (kk : ∀ (ls' : Array Slot) (H' : Heap) (locs' : List Loc), pL base sp ls' q.2.2.1 L' → va_P D pcl (pws base sp dA h') H' → va_S (pAb base) s.heap H' locs' →
      W p l e R s m args below meth c H' locs' (h'.length - h0.length) (psl h' - psl h0) Q (F0 m e'.1 ls' (S'.map (ptr base sp)))) :
    W p l e R s m args below meth c H locs (h.length - h0.length) (psl h - psl h0) Q (F0 m pc ls (S.map (ptr base sp))) := by
  obtain ⟨hx, hb, hml, hown, hts, hnm, hKf, hSf, hsz, hrc, hrs, hrd, hrl⟩ := C
  unfold okI at hok
  simp only [Bool.and_eq_true] at hok
  obtain ⟨hdg, hnp⟩ := okD_spec hok.1 rfl
  have hdg : decode q.2.1 pc = .ok (.i2b, 1) := hdg
  simp only [stp, pb1] at hs
  split at hs
  · cases hs
    have hp : e'.1 = pc + 1 := hnp e' hn
    rw [hp] at kk
    exact lv_i2b hx hb hdg rfl (kk ls H locs hl hP hS)
  · cases hs

set_option maxHeartbeats 4000000 in
theorem ps_i2c {q : PM} {i pc d j : Nat} {ex : List Nat} {L S L' S' : List Value} {h h' h0 hf : PH} {ls : Array Slot} {H : Heap} {locs : List Loc} {e' : PI}
    (C : Cx p R s m args meth c base sp D dA sc q d h0 hf) (hok : okI prog q i (pc, .i2c, ex) = true)
    (hs : stp sc q.2.2.2.1 d (.i2c) ex L S h = some (.inl (j, L', S', h'))) (hl : pL base sp ls q.2.2.1 L) (hP : va_P D pcl (pws base sp dA h) H) (hS : va_S (pAb base) s.heap H locs)
    (h01 : h0.length ≤ h.length) (h02 : psl h0 ≤ psl h) (h11 : h'.length ≤ hf.length) (h12 : psl h' ≤ psl hf)
    (hn : q.2.2.2.2[match j with | 0 => i + 1 | t + 1 => t]? = some e')
    (kk : ∀ (ls' : Array Slot) (H' : Heap) (locs' : List Loc), pL base sp ls' q.2.2.1 L' → va_P D pcl (pws base sp dA h') H' → va_S (pAb base) s.heap H' locs' →
      W p l e R s m args below meth c H' locs' (h'.length - h0.length) (psl h' - psl h0) Q (F0 m e'.1 ls' (S'.map (ptr base sp)))) :
    W p l e R s m args below meth c H locs (h.length - h0.length) (psl h - psl h0) Q (F0 m pc ls (S.map (ptr base sp))) := by
  obtain ⟨hx, hb, hml, hown, hts, hnm, hKf, hSf, hsz, hrc, hrs, hrd, hrl⟩ := C
  unfold okI at hok
  simp only [Bool.and_eq_true] at hok
  obtain ⟨hdg, hnp⟩ := okD_spec hok.1 rfl
  have hdg : decode q.2.1 pc = .ok (.i2c, 1) := hdg
  simp only [stp, pb1] at hs
  split at hs
  · cases hs
    have hp : e'.1 = pc + 1 := hnp e' hn
    rw [hp] at kk
    exact lv_i2c hx hb hdg rfl (kk ls H locs hl hP hS)
  · cases hs

set_option maxHeartbeats 4000000 in
theorem ps_i2l {q : PM} {i pc d j : Nat} {ex : List Nat} {L S L' S' : List Value} {h h' h0 hf : PH} {ls : Array Slot} {H : Heap} {locs : List Loc} {e' : PI}
    (C : Cx p R s m args meth c base sp D dA sc q d h0 hf) (hok : okI prog q i (pc, .i2l, ex) = true)
    (hs : stp sc q.2.2.2.1 d (.i2l) ex L S h = some (.inl (j, L', S', h'))) (hl : pL base sp ls q.2.2.1 L) (hP : va_P D pcl (pws base sp dA h) H) (hS : va_S (pAb base) s.heap H locs)
    (h01 : h0.length ≤ h.length) (h02 : psl h0 ≤ psl h) (h11 : h'.length ≤ hf.length) (h12 : psl h' ≤ psl hf)
    (hn : q.2.2.2.2[match j with | 0 => i + 1 | t + 1 => t]? = some e')
    (kk : ∀ (ls' : Array Slot) (H' : Heap) (locs' : List Loc), pL base sp ls' q.2.2.1 L' → va_P D pcl (pws base sp dA h') H' → va_S (pAb base) s.heap H' locs' →
      W p l e R s m args below meth c H' locs' (h'.length - h0.length) (psl h' - psl h0) Q (F0 m e'.1 ls' (S'.map (ptr base sp)))) :
    W p l e R s m args below meth c H locs (h.length - h0.length) (psl h - psl h0) Q (F0 m pc ls (S.map (ptr base sp))) := by
  obtain ⟨hx, hb, hml, hown, hts, hnm, hKf, hSf, hsz, hrc, hrs, hrd, hrl⟩ := C
  unfold okI at hok
  simp only [Bool.and_eq_true] at hok
  obtain ⟨hdg, hnp⟩ := okD_spec hok.1 rfl
  have hdg : decode q.2.1 pc = .ok (.i2l, 1) := hdg
  simp only [stp] at hs
  split at hs
  · cases hs
    have hp : e'.1 = pc + 1 := hnp e' hn
    rw [hp] at kk
    exact lv_i2l hx hb hdg rfl (kk ls H locs hl hP hS)
  · cases hs

set_option maxHeartbeats 4000000 in
theorem ps_l2i {q : PM} {i pc d j : Nat} {ex : List Nat} {L S L' S' : List Value} {h h' h0 hf : PH} {ls : Array Slot} {H : Heap} {locs : List Loc} {e' : PI}
    (C : Cx p R s m args meth c base sp D dA sc q d h0 hf) (hok : okI prog q i (pc, .l2i, ex) = true)
    (hs : stp sc q.2.2.2.1 d (.l2i) ex L S h = some (.inl (j, L', S', h'))) (hl : pL base sp ls q.2.2.1 L) (hP : va_P D pcl (pws base sp dA h) H) (hS : va_S (pAb base) s.heap H locs)
    (h01 : h0.length ≤ h.length) (h02 : psl h0 ≤ psl h) (h11 : h'.length ≤ hf.length) (h12 : psl h' ≤ psl hf)
    (hn : q.2.2.2.2[match j with | 0 => i + 1 | t + 1 => t]? = some e')
    (kk : ∀ (ls' : Array Slot) (H' : Heap) (locs' : List Loc), pL base sp ls' q.2.2.1 L' → va_P D pcl (pws base sp dA h') H' → va_S (pAb base) s.heap H' locs' →
      W p l e R s m args below meth c H' locs' (h'.length - h0.length) (psl h' - psl h0) Q (F0 m e'.1 ls' (S'.map (ptr base sp)))) :
    W p l e R s m args below meth c H locs (h.length - h0.length) (psl h - psl h0) Q (F0 m pc ls (S.map (ptr base sp))) := by
  obtain ⟨hx, hb, hml, hown, hts, hnm, hKf, hSf, hsz, hrc, hrs, hrd, hrl⟩ := C
  unfold okI at hok
  simp only [Bool.and_eq_true] at hok
  obtain ⟨hdg, hnp⟩ := okD_spec hok.1 rfl
  have hdg : decode q.2.1 pc = .ok (.l2i, 1) := hdg
  simp only [stp] at hs
  split at hs
  · cases hs
    have hp : e'.1 = pc + 1 := hnp e' hn
    rw [hp] at kk
    exact lv_l2i hx hb hdg rfl (kk ls H locs hl hP hS)
  · cases hs

set_option maxHeartbeats 4000000 in
theorem ps_lcmp {q : PM} {i pc d j : Nat} {ex : List Nat} {L S L' S' : List Value} {h h' h0 hf : PH} {ls : Array Slot} {H : Heap} {locs : List Loc} {e' : PI}
    (C : Cx p R s m args meth c base sp D dA sc q d h0 hf) (hok : okI prog q i (pc, .lcmp, ex) = true)
    (hs : stp sc q.2.2.2.1 d (.lcmp) ex L S h = some (.inl (j, L', S', h'))) (hl : pL base sp ls q.2.2.1 L) (hP : va_P D pcl (pws base sp dA h) H) (hS : va_S (pAb base) s.heap H locs)
    (h01 : h0.length ≤ h.length) (h02 : psl h0 ≤ psl h) (h11 : h'.length ≤ hf.length) (h12 : psl h' ≤ psl hf)
    (hn : q.2.2.2.2[match j with | 0 => i + 1 | t + 1 => t]? = some e')
    (kk : ∀ (ls' : Array Slot) (H' : Heap) (locs' : List Loc), pL base sp ls' q.2.2.1 L' → va_P D pcl (pws base sp dA h') H' → va_S (pAb base) s.heap H' locs' →
      W p l e R s m args below meth c H' locs' (h'.length - h0.length) (psl h' - psl h0) Q (F0 m e'.1 ls' (S'.map (ptr base sp)))) :
    W p l e R s m args below meth c H locs (h.length - h0.length) (psl h - psl h0) Q (F0 m pc ls (S.map (ptr base sp))) := by
  obtain ⟨hx, hb, hml, hown, hts, hnm, hKf, hSf, hsz, hrc, hrs, hrd, hrl⟩ := C
  unfold okI at hok
  simp only [Bool.and_eq_true] at hok
  obtain ⟨hdg, hnp⟩ := okD_spec hok.1 rfl
  have hdg : decode q.2.1 pc = .ok (.lcmp, 1) := hdg
  simp only [stp] at hs
  split at hs
  · cases hs
    have hp : e'.1 = pc + 1 := hnp e' hn
    rw [hp] at kk
    exact W.lcmp hx hb hdg (kk ls H locs hl hP hS)
  · cases hs

set_option maxHeartbeats 4000000 in
theorem ps_pop {q : PM} {i pc d j : Nat} {ex : List Nat} {L S L' S' : List Value} {h h' h0 hf : PH} {ls : Array Slot} {H : Heap} {locs : List Loc} {e' : PI}
    (C : Cx p R s m args meth c base sp D dA sc q d h0 hf) (hok : okI prog q i (pc, .pop, ex) = true)
    (hs : stp sc q.2.2.2.1 d (.pop) ex L S h = some (.inl (j, L', S', h'))) (hl : pL base sp ls q.2.2.1 L) (hP : va_P D pcl (pws base sp dA h) H) (hS : va_S (pAb base) s.heap H locs)
    (h01 : h0.length ≤ h.length) (h02 : psl h0 ≤ psl h) (h11 : h'.length ≤ hf.length) (h12 : psl h' ≤ psl hf)
    (hn : q.2.2.2.2[match j with | 0 => i + 1 | t + 1 => t]? = some e')
    (kk : ∀ (ls' : Array Slot) (H' : Heap) (locs' : List Loc), pL base sp ls' q.2.2.1 L' → va_P D pcl (pws base sp dA h') H' → va_S (pAb base) s.heap H' locs' →
      W p l e R s m args below meth c H' locs' (h'.length - h0.length) (psl h' - psl h0) Q (F0 m e'.1 ls' (S'.map (ptr base sp)))) :
    W p l e R s m args below meth c H locs (h.length - h0.length) (psl h - psl h0) Q (F0 m pc ls (S.map (ptr base sp))) := by
  obtain ⟨hx, hb, hml, hown, hts, hnm, hKf, hSf, hsz, hrc, hrs, hrd, hrl⟩ := C
  unfold okI at hok
  simp only [Bool.and_eq_true] at hok
  obtain ⟨hdg, hnp⟩ := okD_spec hok.1 rfl
  have hdg : decode q.2.1 pc = .ok (.pop, 1) := hdg
  simp only [stp] at hs
  split at hs
  · split at hs
    · rename_i hc
      cases hs
      have hp : e'.1 = pc + 1 := hnp e' hn
      rw [hp] at kk
      exact lv_pop hx hb hdg (by rw [ptr_cat]; exact hc) (kk ls H locs hl hP hS)
    · cases hs
  · cases hs

set_option maxHeartbeats 4000000 in
theorem ps_dup {q : PM} {i pc d j : Nat} {ex : List Nat} {L S L' S' : List Value} {h h' h0 hf : PH} {ls : Array Slot} {H : Heap} {locs : List Loc} {e' : PI}
    (C : Cx p R s m args meth c base sp D dA sc q d h0 hf) (hok : okI prog q i (pc, .dup, ex) = true)
    (hs : stp sc q.2.2.2.1 d (.dup) ex L S h = some (.inl (j, L', S', h'))) (hl : pL base sp ls q.2.2.1 L) (hP : va_P D pcl (pws base sp dA h) H) (hS : va_S (pAb base) s.heap H locs)
    (h01 : h0.length ≤ h.length) (h02 : psl h0 ≤ psl h) (h11 : h'.length ≤ hf.length) (h12 : psl h' ≤ psl hf)
    (hn : q.2.2.2.2[match j with | 0 => i + 1 | t + 1 => t]? = some e')
    (kk : ∀ (ls' : Array Slot) (H' : Heap) (locs' : List Loc), pL base sp ls' q.2.2.1 L' → va_P D pcl (pws base sp dA h') H' → va_S (pAb base) s.heap H' locs' →
      W p l e R s m args below meth c H' locs' (h'.length - h0.length) (psl h' - psl h0) Q (F0 m e'.1 ls' (S'.map (ptr base sp)))) :
    W p l e R s m args below meth c H locs (h.length - h0.length) (psl h - psl h0) Q (F0 m pc ls (S.map (ptr base sp))) := by
  obtain ⟨hx, hb, hml, hown, hts, hnm, hKf, hSf, hsz, hrc, hrs, hrd, hrl⟩ := C
  unfold okI at hok
  simp only [Bool.and_eq_true] at hok
  obtain ⟨hdg, hnp⟩ := okD_spec hok.1 rfl
  have hdg : decode q.2.1 pc = .ok (.dup, 1) := hdg
  simp only [stp] at hs
  split at hs
  · split at hs
    · rename_i hc
      cases hs
      have hp : e'.1 = pc + 1 := hnp e' hn
      rw [hp] at kk
      exact lv_dup hx hb hdg (by rw [ptr_cat]; exact hc) (kk ls H locs hl hP hS)
    · cases hs
  · cases hs

set_option maxHeartbeats 4000000 in
theorem ps_dup_x1 {q : PM} {i pc d j : Nat} {ex : List Nat} {L S L' S' : List Value} {h h' h0 hf : PH} {ls : Array Slot} {H : Heap} {locs : List Loc} {e' : PI}
    (C : Cx p R s m args meth c base sp D dA sc q d h0 hf) (hok : okI prog q i (pc, .dup_x1, ex) = true)
    (hs : stp sc q.2.2.2.1 d (.dup_x1) ex L S h = some (.inl (j, L', S', h'))) (hl : pL base sp ls q.2.2.1 L) (hP : va_P D pcl (pws base sp dA h) H) (hS : va_S (pAb base) s.heap H locs)
    (h01 : h0.length ≤ h.length) (h02 : psl h0 ≤ psl h) (h11 : h'.length ≤ hf.length) (h12 : psl h' ≤ psl hf)
    (hn : q.2.2.2.2[match j with | 0 => i + 1 | t + 1 => t]? = some e')
    (kk : ∀ (ls' : Array Slot) (H' : Heap) (locs' : List Loc), pL base sp ls' q.2.2.1 L' → va_P D pcl (pws base sp dA h') H' → va_S (pAb base) s.heap H' locs' →
      W p l e R s m args below meth c H' locs' (h'.length - h0.length) (psl h' - psl h0) Q (F0 m e'.1 ls' (S'.map (ptr base sp)))) :
    W p l e R s m args below meth c H locs (h.length - h0.length) (psl h - psl h0) Q (F0 m pc ls (S.map (ptr base sp))) := by
  obtain ⟨hx, hb, hml, hown, hts, hnm, hKf, hSf, hsz, hrc, hrs, hrd, hrl⟩ := C
  unfold okI at hok
  simp only [Bool.and_eq_true] at hok
  obtain ⟨hdg, hnp⟩ := okD_spec hok.1 rfl
  have hdg : decode q.2.1 pc = .ok (.dup_x1, 1) := hdg
  simp only [stp] at hs
  split at hs
  · split at hs
    · rename_i hc
      cases hs
      have hp : e'.1 = pc + 1 := hnp e' hn
      rw [hp] at kk
      exact lv_dup_x1 hx hb hdg (by rw [ptr_cat]; exact hc.1) (by rw [ptr_cat]; exact hc.2) (kk ls H locs hl hP hS)
    · cases hs
  · cases hs

set_option maxHeartbeats 4000000 in
theorem ps_dup2 {q : PM} {i pc d j : Nat} {ex : List Nat} {L S L' S' : List Value} {h h' h0 hf : PH} {ls : Array Slot} {H : Heap} {locs : List Loc} {e' : PI}
    (C : Cx p R s m args meth c base sp D dA sc q d h0 hf) (hok : okI prog q i (pc, .dup2, ex) = true)
    (hs : stp sc q.2.2.2.1 d (.dup2) ex L S h = some (.inl (j, L', S', h'))) (hl : pL base sp ls q.2.2.1 L) (hP : va_P D pcl (pws base sp dA h) H) (hS : va_S (pAb base) s.heap H locs)
    (h01 : h0.length ≤ h.length) (h02 : psl h0 ≤ psl h) (h11 : h'.length ≤ hf.length) (h12 : psl h' ≤ psl hf)
    (hn : q.2.2.2.2[match j with | 0 => i + 1 | t + 1 => t]? = some e')
    (kk : ∀ (ls' : Array Slot) (H' : Heap) (locs' : List Loc), pL base sp ls' q.2.2.1 L' → va_P D pcl (pws base sp dA h') H' → va_S (pAb base) s.heap H' locs' →
      W p l e R s m args below meth c H' locs' (h'.length - h0.length) (psl h' - psl h0) Q (F0 m e'.1 ls' (S'.map (ptr base sp)))) :
    W p l e R s m args below meth c H locs (h.length - h0.length) (psl h - psl h0) Q (F0 m pc ls (S.map (ptr base sp))) := by
  obtain ⟨hx, hb, hml, hown, hts, hnm, hKf, hSf, hsz, hrc, hrs, hrd, hrl⟩ := C
  unfold okI at hok
  simp only [Bool.and_eq_true] at hok
  obtain ⟨hdg, hnp⟩ := okD_spec hok.1 rfl
  have hdg : decode q.2.1 pc = .ok (.dup2, 1) := hdg
  simp only [stp] at hs
  split at hs
  · split at hs
    · rename_i hc
      cases hs
      have hp : e'.1 = pc + 1 := hnp e' hn
      rw [hp] at kk
      exact lv_dup2_11 hx hb hdg (by rw [ptr_cat]; exact hc.1) (by rw [ptr_cat]; exact hc.2) (kk ls H locs hl hP hS)
    · cases hs
  · cases hs

set_option maxHeartbeats 4000000 in
theorem ps_if_eq {q : PM} {i pc d j : Nat} {ex : List Nat} {L S L' S' : List Value} {h h' h0 hf : PH} {ls : Array Slot} {H : Heap} {locs : List Loc} {e' : PI} {off : Int}
    (C : Cx p R s m args meth c base sp D dA sc q d h0 hf) (hok : okI prog q i (pc, .ifCond .eq off, ex) = true)
    (hs : stp sc q.2.2.2.1 d (.ifCond .eq off) ex L S h = some (.inl (j, L', S', h'))) (hl : pL base sp ls q.2.2.1 L) (hP : va_P D pcl (pws base sp dA h) H) (hS : va_S (pAb base) s.heap H locs)
    (h01 : h0.length ≤ h.length) (h02 : psl h0 ≤ psl h) (h11 : h'.length ≤ hf.length) (h12 : psl h' ≤ psl hf)
    (hn : q.2.2.2.2[match j with | 0 => i + 1 | t + 1 => t]? = some e')
    (kk : ∀ (ls' : Array Slot) (H' : Heap) (locs' : List Loc), pL base sp ls' q.2.2.1 L' → va_P D pcl (pws base sp dA h') H' → va_S (pAb base) s.heap H' locs' →
      W p l e R s m args below meth c H' locs' (h'.length - h0.length) (psl h' - psl h0) Q (F0 m e'.1 ls' (S'.map (ptr base sp)))) :
    W p l e R s m args below meth c H locs (h.length - h0.length) (psl h - psl h0) Q (F0 m pc ls (S.map (ptr base sp))) := by
  obtain ⟨hx, hb, hml, hown, hts, hnm, hKf, hSf, hsz, hrc, hrs, hrd, hrl⟩ := C
  unfold okI at hok
  simp only [Bool.and_eq_true] at hok
  obtain ⟨hdg, hnp⟩ := okD_spec hok.1 rfl
  have hdg : decode q.2.1 pc = .ok (.ifCond .eq off, 3) := hdg
  simp only [stp] at hs
  split at hs
  · unfold pif at hs
    split at hs
    · rename_i t
      have hj : okJ q pc t off = true := by simpa [okL] using hok.2
      split at hs
      · rename_i hc
        cases hs
        have ht := okJ_spec hj hn
        refine lv_if_eq hx hb hdg ht (fun _ => kk ls H locs hl hP hS) (fun hf => absurd ?_ hf)
        simpa [pcmp] using hc
      · rename_i hc
        cases hs
        have hp : e'.1 = pc + 3 := hnp e' hn
        rw [hp] at kk
        cases ht : q.2.2.2.2[t]? with
        | none => simp [okJ, ht] at hj
        | some e2 =>
          refine lv_if_eq hx hb hdg (okJ_spec hj ht) (fun hf => absurd hf ?_) (fun _ => kk ls H locs hl hP hS)
          simpa [pcmp] using hc
    · cases hs
  · cases hs

set_option maxHeartbeats 4000000 in
theorem ps_icmp_eq {q : PM} {i pc d j : Nat} {ex : List Nat} {L S L' S' : List Value} {h h' h0 hf : PH} {ls : Array Slot} {H : Heap} {locs : List Loc} {e' : PI} {off : Int}
    (C : Cx p R s m args meth c base sp D dA sc q d h0 hf) (hok : okI prog q i (pc, .if_icmp .eq off, ex) = true)
    (hs : stp sc q.2.2.2.1 d (.if_icmp .eq off) ex L S h = some (.inl (j, L', S', h'))) (hl : pL base sp ls q.2.2.1 L) (hP : va_P D pcl (pws base sp dA h) H) (hS : va_S (pAb base) s.heap H locs)
    (h01 : h0.length ≤ h.length) (h02 : psl h0 ≤ psl h) (h11 : h'.length ≤ hf.length) (h12 : psl h' ≤ psl hf)
    (hn : q.2.2.2.2[match j with | 0 => i + 1 | t + 1 => t]? = some e')
    (kk : ∀ (ls' : Array Slot) (H' : Heap) (locs' : List Loc), pL base sp ls' q.2.2.1 L' → va_P D pcl (pws base sp dA h') H' → va_S (pAb base) s.heap H' locs' →
      W p l e R s m args below meth c H' locs' (h'.length - h0.length) (psl h' - psl h0) Q (F0 m e'.1 ls' (S'.map (ptr base sp)))) :
    W p l e R s m args below meth c H locs (h.length - h0.length) (psl h - psl h0) Q (F0 m pc ls (S.map (ptr base sp))) := by
  obtain ⟨hx, hb, hml, hown, hts, hnm, hKf, hSf, hsz, hrc, hrs, hrd, hrl⟩ := C
  unfold okI at hok
  simp only [Bool.and_eq_true] at hok
  obtain ⟨hdg, hnp⟩ := okD_spec hok.1 rfl
  have hdg : decode q.2.1 pc = .ok (.if_icmp .eq off, 3) := hdg
  simp only [stp] at hs
  split at hs
  · unfold pif at hs
    split at hs
    · rename_i t
      have hj : okJ q pc t off = true := by simpa [okL] using hok.2
      split at hs
      · rename_i hc
        cases hs
        have ht := okJ_spec hj hn
        refine lv_icmp_eq hx hb hdg ht (fun _ => kk ls H locs hl hP hS) (fun hf => absurd ?_ hf)
        simpa [pcmp] using hc
      · rename_i hc
        cases hs
        have hp : e'.1 = pc + 3 := hnp e' hn
        rw [hp] at kk
        cases ht : q.2.2.2.2[t]? with
        | none => simp [okJ, ht] at hj
        | some e2 =>
          refine lv_icmp_eq hx hb hdg (okJ_spec hj ht) (fun hf => absurd hf ?_) (fun _ => kk ls H locs hl hP hS)
          simpa [pcmp] using hc
    · cases hs
  · cases hs

set_option maxHeartbeats 4000000 in
theorem ps_if_ne {q : PM} {i pc d j : Nat} {ex : List Nat} {L S L' S' : List Value} {h h' h0 hf : PH} {ls : Array Slot} {H : Heap} {locs : List Loc} {e' : PI} {off : Int}
    (C : Cx p R s m args meth c base sp D dA sc q d h0 hf) (hok : okI prog q i (pc, .ifCond .ne off, ex) = true)
    (hs : stp sc q.2.2.2.1 d (.ifCond .ne off) ex L S h = some (.inl (j, L', S', h'))) (hl : pL base sp ls q.2.2.1 L) (hP : va_P D pcl (pws base sp dA h) H) (hS : va_S (pAb base) s.heap H locs)
    (h01 : h0.length ≤ h.length) (h02 : psl h0 ≤ psl h) (h11 : h'.length ≤ hf.length) (h12 : psl h' ≤ psl hf)
    (hn : q.2.2.2.2[match j with | 0 => i + 1 | t + 1 => t]? = some e')
    (kk : ∀ (ls' : Array Slot) (H' : Heap) (locs' : List Loc), pL base sp ls' q.2.2.1 L' → va_P D pcl (pws base sp dA h') H' → va_S (pAb base) s.heap H' locs' →
      W p l e R s m args below meth c H' locs' (h'.length - h0.length) (psl h' - psl h0) Q (F0 m e'.1 ls' (S'.map (ptr base sp)))) :
    W p l e R s m args below meth c H locs (h.length - h0.length) (psl h - psl h0) Q (F0 m pc ls (S.map (ptr base sp))) := by
  obtain ⟨hx, hb, hml, hown, hts, hnm, hKf, hSf, hsz, hrc, hrs, hrd, hrl⟩ := C
  unfold okI at hok
  simp only [Bool.and_eq_true] at hok
  obtain ⟨hdg, hnp⟩ := okD_spec hok.1 rfl
  have hdg : decode q.2.1 pc = .ok (.ifCond .ne off, 3) := hdg
  simp only [stp] at hs
  split at hs
  · unfold pif at hs
    split at hs
    · rename_i t
      have hj : okJ q pc t off = true := by simpa [okL] using hok.2
      split at hs
      · rename_i hc
        cases hs
        have ht := okJ_spec hj hn
        refine lv_if_ne hx hb hdg ht (fun _ => kk ls H locs hl hP hS) (fun hf => absurd hf ?_)
        simpa [pcmp] using hc
      · rename_i hc
        cases hs
        have hp : e'.1 = pc + 3 := hnp e' hn
        rw [hp] at kk
        cases ht : q.2.2.2.2[t]? with
        | none => simp [okJ, ht] at hj
        | some e2 =>
          refine lv_if_ne hx hb hdg (okJ_spec hj ht) (fun hf => absurd ?_ hf) (fun _ => kk ls H locs hl hP hS)
          simpa [pcmp] using hc
    · cases hs
  · cases hs

set_option maxHeartbeats 4000000 in
theorem ps_icmp_ne {q : PM} {i pc d j : Nat} {ex : List Nat} {L S L' S' : List Value} {h h' h0 hf : PH} {ls : Array Slot} {H : Heap} {locs : List Loc} {e' : PI} {off : Int}
    (C : Cx p R s m args meth c base sp D dA sc q d h0 hf) (hok : okI prog q i (pc, .if_icmp .ne off, ex) = true)
    (hs : stp sc q.2.2.2.1 d (.if_icmp .ne off) ex L S h = some (.inl (j, L', S', h'))) (hl : pL base sp ls q.2.2.1 L) (hP : va_P D pcl (pws base sp dA h) H) (hS : va_S (pAb base) s.heap H locs)
    (h01 : h0.length ≤ h.length) (h02 : psl h0 ≤ psl h) (h11 : h'.length ≤ hf.length) (h12 : psl h' ≤ psl hf)
    (hn : q.2.2.2.2[match j with | 0 => i + 1 | t + 1 => t]? = some e')
    (kk : ∀ (ls' : Array Slot) (H' : Heap) (locs' : List Loc), pL base sp ls' q.2.2.1 L' → va_P D pcl (pws base sp dA h') H' → va_S (pAb base) s.heap H' locs' →
      W p l e R s m args below meth c H' locs' (h'.length - h0.length) (psl h' - psl h0) Q (F0 m e'.1 ls' (S'.map (ptr base sp)))) :
    W p l e R s m args below meth c H locs (h.length - h0.length) (psl h - psl h0) Q (F0 m pc ls (S.map (ptr base sp))) := by
  obtain ⟨hx, hb, hml, hown, hts, hnm, hKf, hSf, hsz, hrc, hrs, hrd, hrl⟩ := C
  unfold okI at hok
  simp only [Bool.and_eq_true] at hok
  obtain ⟨hdg, hnp⟩ := okD_spec hok.1 rfl
  have hdg : decode q.2.1 pc = .ok (.if_icmp .ne off, 3) := hdg
  simp only [stp] at hs
  split at hs
  · unfold pif at hs
    split at hs
    · rename_i t
      have hj : okJ q pc t off = true := by simpa [okL] using hok.2
      split at hs
      · rename_i hc
        cases hs
        have ht := okJ_spec hj hn
        refine lv_icmp_ne hx hb hdg ht (fun _ => kk ls H locs hl hP hS) (fun hf => absurd hf ?_)
        simpa [pcmp] using hc
      · rename_i hc
        cases hs
        have hp : e'.1 = pc + 3 := hnp e' hn
        rw [hp] at kk
        cases ht : q.2.2.2.2[t]? with
        | none => simp [okJ, ht] at hj
        | some e2 =>
          refine lv_icmp_ne hx hb hdg (okJ_spec hj ht) (fun hf => absurd ?_ hf) (fun _ => kk ls H locs hl hP hS)
          simpa [pcmp] using hc
    · cases hs
  · cases hs

set_option maxHeartbeats 4000000 in
theorem ps_if_lt {q : PM} {i pc d j : Nat} {ex : List Nat} {L S L' S' : List Value} {h h' h0 hf : PH} {ls : Array Slot} {H : Heap} {locs : List Loc} {e' : PI} {off : Int}
    (C : Cx p R s m args meth c base sp D dA sc q d h0 hf) (hok : okI prog q i (pc, .ifCond .lt off, ex) = true)
    (hs : stp sc q.2.2.2.1 d (.ifCond .lt off) ex L S h = some (.inl (j, L', S', h'))) (hl : pL base sp ls q.2.2.1 L) (hP : va_P D pcl (pws base sp dA h) H) (hS : va_S (pAb base) s.heap H locs)
    (h01 : h0.length ≤ h.length) (h02 : psl h0 ≤ psl h) (h11 : h'.length ≤ hf.length) (h12 : psl h' ≤ psl hf)
    (hn : q.2.2.2.2[match j with | 0 => i + 1 | t + 1 => t]? = some e')
    (kk : ∀ (ls' : Array Slot) (H' : Heap) (locs' : List Loc), pL base sp ls' q.2.2.1 L' → va_P D pcl (pws base sp dA h') H' → va_S (pAb base) s.heap H' locs' →
      W p l e R s m args below meth c H' locs' (h'.length - h0.length) (psl h' - psl h0) Q (F0 m e'.1 ls' (S'.map (ptr base sp)))) :
    W p l e R s m args below meth c H locs (h.length - h0.length) (psl h - psl h0) Q (F0 m pc ls (S.map (ptr base sp))) := by
  obtain ⟨hx, hb, hml, hown, hts, hnm, hKf, hSf, hsz, hrc, hrs, hrd, hrl⟩ := C
  unfold okI at hok
  simp only [Bool.and_eq_true] at hok
  obtain ⟨hdg, hnp⟩ := okD_spec hok.1 rfl
  have hdg : decode q.2.1 pc = .ok (.ifCond .lt off, 3) := hdg
  simp only [stp] at hs
  split at hs
  · unfold pif at hs
    split at hs
    · rename_i t
      have hj : okJ q pc t off = true := by simpa [okL] using hok.2
      split at hs
      · rename_i hc
        cases hs
        have ht := okJ_spec hj hn
        refine lv_if_lt hx hb hdg ht (fun _ => kk ls H locs hl hP hS) (fun hf => absurd ?_ hf)
        simpa [pcmp] using hc
      · rename_i hc
        cases hs
        have hp : e'.1 = pc + 3 := hnp e' hn
        rw [hp] at kk
        cases ht : q.2.2.2.2[t]? with
        | none => simp [okJ, ht] at hj
        | some e2 =>
          refine lv_if_lt hx hb hdg (okJ_spec hj ht) (fun hf => absurd hf ?_) (fun _ => kk ls H locs hl hP hS)
          simpa [pcmp] using hc
    · cases hs
  · cases hs

set_option maxHeartbeats 4000000 in
theorem ps_icmp_lt {q : PM} {i pc d j : Nat} {ex : List Nat} {L S L' S' : List Value} {h h' h0 hf : PH} {ls : Array Slot} {H : Heap} {locs : List Loc} {e' : PI} {off : Int}
    (C : Cx p R s m args meth c base sp D dA sc q d h0 hf) (hok : okI prog q i (pc, .if_icmp .lt off, ex) = true)
    (hs : stp sc q.2.2.2.1 d (.if_icmp .lt off) ex L S h = some (.inl (j, L', S', h'))) (hl : pL base sp ls q.2.2.1 L) (hP : va_P D pcl (pws base sp dA h) H) (hS : va_S (pAb base) s.heap H locs)
    (h01 : h0.length ≤ h.length) (h02 : psl h0 ≤ psl h) (h11 : h'.length ≤ hf.length) (h12 : psl h' ≤ psl hf)
    (hn : q.2.2.2.2[match j with | 0 => i + 1 | t + 1 => t]? = some e')
    (kk : ∀ (ls' : Array Slot) (H' : Heap) (locs' : List Loc), pL base sp ls' q.2.2.1 L' → va_P D pcl (pws base sp dA h') H' → va_S (pAb base) s.heap H' locs' →
      W p l e R s m args below meth c H' locs' (h'.length - h0.length) (psl h' - psl h0) Q (F0 m e'.1 ls' (S'.map (ptr base sp)))) :
    W p l e R s m args below meth c H locs (h.length - h0.length) (psl h - psl h0) Q (F0 m pc ls (S.map (ptr base sp))) := by
  obtain ⟨hx, hb, hml, hown, hts, hnm, hKf, hSf, hsz, hrc, hrs, hrd, hrl⟩ := C
  unfold okI at hok
  simp only [Bool.and_eq_true] at hok
  obtain ⟨hdg, hnp⟩ := okD_spec hok.1 rfl
  have hdg : decode q.2.1 pc = .ok (.if_icmp .lt off, 3) := hdg
  simp only [stp] at hs
  split at hs
  · unfold pif at hs
    split at hs
    · rename_i t
      have hj : okJ q pc t off = true := by simpa [okL] using hok.2
      split at hs
      · rename_i hc
        cases hs
        have ht := okJ_spec hj hn
        refine lv_icmp_lt hx hb hdg ht (fun _ => kk ls H locs hl hP hS) (fun hf => absurd ?_ hf)
        simpa [pcmp] using hc
      · rename_i hc
        cases hs
        have hp : e'.1 = pc + 3 := hnp e' hn
        rw [hp] at kk
        cases ht : q.2.2.2.2[t]? with
        | none => simp [okJ, ht] at hj
        | some e2 =>
          refine lv_icmp_lt hx hb hdg (okJ_spec hj ht) (fun hf => absurd hf ?_) (fun _ => kk ls H locs hl hP hS)
          simpa [pcmp] using hc
    · cases hs
  · cases hs

set_option maxHeartbeats 4000000 in
theorem ps_if_ge {q : PM} {i pc d j : Nat} {ex : List Nat} {L S L' S' : List Value} {h h' h0 hf : PH} {ls : Array Slot} {H : Heap} {locs : List Loc} {e' : PI} {off : Int}
    (C : Cx p R s m args meth c base sp D dA sc q d h0 hf) (hok : okI prog q i (pc, .ifCond .ge off, ex) = true)
    (hs : stp sc q.2.2.2.1 d (.ifCond .ge off) ex L S h = some (.inl (j, L', S', h'))) (hl : pL base sp ls q.2.2.1 L) (hP : va_P D pcl (pws base sp dA h) H) (hS : va_S (pAb base) s.heap H locs)
    (h01 : h0.length ≤ h.length) (h02 : psl h0 ≤ psl h) (h11 : h'.length ≤ hf.length) (h12 : psl h' ≤ psl hf)
    (hn : q.2.2.2.2[match j with | 0 => i + 1 | t + 1 => t]? = some e')
    (kk : ∀ (ls' : Array Slot) (H' : Heap) (locs' : List Loc), pL base sp ls' q.2.2.1 L' → va_P D pcl (pws base sp dA h') H' → va_S (pAb base) s.heap H' locs' →
      W p l e R s m args below meth c H' locs' (h'.length - h0.length) (psl h' - psl h0) Q (F0 m e'.1 ls' (S'.map (ptr base sp)))) :
    W p l e R s m args below meth c H locs (h.length - h0.length) (psl h - psl h0) Q (F0 m pc ls (S.map (ptr base sp))) := by
  obtain ⟨hx, hb, hml, hown, hts, hnm, hKf, hSf, hsz, hrc, hrs, hrd, hrl⟩ := C
  unfold okI at hok
  simp only [Bool.and_eq_true] at hok
  obtain ⟨hdg, hnp⟩ := okD_spec hok.1 rfl
  have hdg : decode q.2.1 pc = .ok (.ifCond .ge off, 3) := hdg
  simp only [stp] at hs
  split at hs
  · unfold pif at hs
    split at hs
    · rename_i t
      have hj : okJ q pc t off = true := by simpa [okL] using hok.2
      split at hs
      · rename_i hc
        cases hs
        have ht := okJ_spec hj hn
        refine lv_if_ge hx hb hdg ht (fun _ => kk ls H locs hl hP hS) (fun hf => absurd ?_ hf)
        simpa [pcmp] using hc
      · rename_i hc
        cases hs
        have hp : e'.1 = pc + 3 := hnp e' hn
        rw [hp] at kk
        cases ht : q.2.2.2.2[t]? with
        | none => simp [okJ, ht] at hj
        | some e2 =>
          refine lv_if_ge hx hb hdg (okJ_spec hj ht) (fun hf => absurd hf ?_) (fun _ => kk ls H locs hl hP hS)
          simpa [pcmp] using hc
    · cases hs
  · cases hs

set_option maxHeartbeats 4000000 in
theorem ps_icmp_ge {q : PM} {i pc d j : Nat} {ex : List Nat} {L S L' S' : List Value} {h h' h0 hf : PH} {ls : Array Slot} {H : Heap} {locs : List Loc} {e' : PI} {off : Int}
    (C : Cx p R s m args meth c base sp D dA sc q d h0 hf) (hok : okI prog q i (pc, .if_icmp .ge off, ex) = true)
    (hs : stp sc q.2.2.2.1 d (.if_icmp .ge off) ex L S h = some (.inl (j, L', S', h'))) (hl : pL base sp ls q.2.2.1 L) (hP : va_P D pcl (pws base sp dA h) H) (hS : va_S (pAb base) s.heap H locs)
    (h01 : h0.length ≤ h.length) (h02 : psl h0 ≤ psl h) (h11 : h'.length ≤ hf.length) (h12 : psl h' ≤ psl hf)
    (hn : q.2.2.2.2[match j with | 0 => i + 1 | t + 1 => t]? = some e')
    (kk : ∀ (ls' : Array Slot) (H' : Heap) (locs' : List Loc), pL base sp ls' q.2.2.1 L' → va_P D pcl (pws base sp dA h') H' → va_S (pAb base) s.heap H' locs' →
      W p l e R s m args below meth c H' locs' (h'.length - h0.length) (psl h' - psl h0) Q (F0 m e'.1 ls' (S'.map (ptr base sp)))) :
    W p l e R s m args below meth c H locs (h.length - h0.length) (psl h - psl h0) Q (F0 m pc ls (S.map (ptr base sp))) := by
  obtain ⟨hx, hb, hml, hown, hts, hnm, hKf, hSf, hsz, hrc, hrs, hrd, hrl⟩ := C
  unfold okI at hok
  simp only [Bool.and_eq_true] at hok
  obtain ⟨hdg, hnp⟩ := okD_spec hok.1 rfl
  have hdg : decode q.2.1 pc = .ok (.if_icmp .ge off, 3) := hdg
  simp only [stp] at hs
  split at hs
  · unfold pif at hs
    split at hs
    · rename_i t
      have hj : okJ q pc t off = true := by simpa [okL] using hok.2
      split at hs
      · rename_i hc
        cases hs
        have ht := okJ_spec hj hn
        refine lv_icmp_ge hx hb hdg ht (fun _ => kk ls H locs hl hP hS) (fun hf => absurd ?_ hf)
        simpa [pcmp] using hc
      · rename_i hc
        cases hs
        have hp : e'.1 = pc + 3 := hnp e' hn
        rw [hp] at kk
        cases ht : q.2.2.2.2[t]? with
        | none => simp [okJ, ht] at hj
        | some e2 =>
          refine lv_icmp_ge hx hb hdg (okJ_spec hj ht) (fun hf => absurd hf ?_) (fun _ => kk ls H locs hl hP hS)
          simpa [pcmp] using hc
    · cases hs
  · cases hs

set_option maxHeartbeats 4000000 in
theorem ps_if_gt {q : PM} {i pc d j : Nat} {ex : List Nat} {L S L' S' : List Value} {h h' h0 hf : PH} {ls : Array Slot} {H : Heap} {locs : List Loc} {e' : PI} {off : Int}
    (C : Cx p R s m args meth c base sp D dA sc q d h0 hf) (hok : okI prog q i (pc, .ifCond .gt off, ex) = true)
    (hs : stp sc q.2.2.2.1 d (.ifCond .gt off) ex L S h = some (.inl (j, L', S', h'))) (hl : pL base sp ls q.2.2.1 L) (hP : va_P D pcl (pws base sp dA h) H) (hS : va_S (pAb base) s.heap H locs)
    (h01 : h0.length ≤ h.length) (h02 : psl h0 ≤ psl h) (h11 : h'.length ≤ hf.length) (h12 : psl h' ≤ psl hf)
    (hn : q.2.2.2.2[match j with | 0 => i + 1 | t + 1 => t]? = some e')
    (kk : ∀ (ls' : Array Slot) (H' : Heap) (locs' : List Loc), pL base sp ls' q.2.2.1 L' → va_P D pcl (pws base sp dA h') H' → va_S (pAb base) s.heap H' locs' →
      W p l e R s m args below meth c H' locs' (h'.length - h0.length) (psl h' - psl h0) Q (F0 m e'.1 ls' (S'.map (ptr base sp)))) :
    W p l e R s m args below meth c H locs (h.length - h0.length) (psl h - psl h0) Q (F0 m pc ls (S.map (ptr base sp))) := by
  obtain ⟨hx, hb, hml, hown, hts, hnm, hKf, hSf, hsz, hrc, hrs, hrd, hrl⟩ := C
  unfold okI at hok
  simp only [Bool.and_eq_true] at hok
  obtain ⟨hdg, hnp⟩ := okD_spec hok.1 rfl
  have hdg : decode q.2.1 pc = .ok (.ifCond .gt off, 3) := hdg
  simp only [stp] at hs
  split at hs
  · unfold pif at hs
    split at hs
    · rename_i t
      have hj : okJ q pc t off = true := by simpa [okL] using hok.2
      split at hs
      · rename_i hc
        cases hs
        have ht := okJ_spec hj hn
        refine lv_if_gt hx hb hdg ht (fun _ => kk ls H locs hl hP hS) (fun hf => absurd ?_ hf)
        simpa [pcmp] using hc
      · rename_i hc
        cases hs
        have hp : e'.1 = pc + 3 := hnp e' hn
        rw [hp] at kk
        cases ht : q.2.2.2.2[t]? with
        | none => simp [okJ, ht] at hj
        | some e2 =>
          refine lv_if_gt hx hb hdg (okJ_spec hj ht) (fun hf => absurd hf ?_) (fun _ => kk ls H locs hl hP hS)
          simpa [pcmp] using hc
    · cases hs
  · cases hs

set_option maxHeartbeats 4000000 in
theorem ps_icmp_gt {q : PM} {i pc d j : Nat} {ex : List Nat} {L S L' S' : List Value} {h h' h0 hf : PH} {ls : Array Slot} {H : Heap} {locs : List Loc} {e' : PI} {off : Int}
    (C : Cx p R s m args meth c base sp D dA sc q d h0 hf) (hok : okI prog q i (pc, .if_icmp .gt off, ex) = true)
    (hs : stp sc q.2.2.2.1 d (.if_icmp .gt off) ex L S h = some (.inl (j, L', S', h'))) (hl : pL base sp ls q.2.2.1 L) (hP : va_P D pcl (pws base sp dA h) H) (hS : va_S (pAb base) s.heap H locs)
    (h01 : h0.length ≤ h.length) (h02 : psl h0 ≤ psl h) (h11 : h'.length ≤ hf.length) (h12 : psl h' ≤ psl hf)
    (hn : q.2.2.2.2[match j with | 0 => i + 1 | t + 1 => t]? = some e')
    (kk : ∀ (ls' : Array Slot) (H' : Heap) (locs' : List Loc), pL base sp ls' q.2.2.1 L' → va_P D pcl (pws base sp dA h') H' → va_S (pAb base) s.heap H' locs' →
      W p l e R s m args below meth c H' locs' (h'.length - h0.length) (psl h' - psl h0) Q (F0 m e'.1 ls' (S'.map (ptr base sp)))) :
    W p l e R s m args below meth c H locs (h.length - h0.length) (psl h - psl h0) Q (F0 m pc ls (S.map (ptr base sp))) := by
  obtain ⟨hx, hb, hml, hown, hts, hnm, hKf, hSf, hsz, hrc, hrs, hrd, hrl⟩ := C
  unfold okI at hok
  simp only [Bool.and_eq_true] at hok
  obtain ⟨hdg, hnp⟩ := okD_spec hok.1 rfl
  have hdg : decode q.2.1 pc = .ok (.if_icmp .gt off, 3) := hdg
  simp only [stp] at hs
  split at hs
  · unfold pif at hs
    split at hs
    · rename_i t
      have hj : okJ q pc t off = true := by simpa [okL] using hok.2
      split at hs
      · rename_i hc
        cases hs
        have ht := okJ_spec hj hn
        refine lv_icmp_gt hx hb hdg ht (fun _ => kk ls H locs hl hP hS) (fun hf => absurd ?_ hf)
        simpa [pcmp] using hc
      · rename_i hc
        cases hs
        have hp : e'.1 = pc + 3 := hnp e' hn
        rw [hp] at kk
        cases ht : q.2.2.2.2[t]? with
        | none => simp [okJ, ht] at hj
        | some e2 =>
          refine lv_icmp_gt hx hb hdg (okJ_spec hj ht) (fun hf => absurd hf ?_) (fun _ => kk ls H locs hl hP hS)
          simpa [pcmp] using hc
    · cases hs
  · cases hs

set_option maxHeartbeats 4000000 in
theorem ps_if_le {q : PM} {i pc d j : Nat} {ex : List Nat} {L S L' S' : List Value} {h h' h0 hf : PH} {ls : Array Slot} {H : Heap} {locs : List Loc} {e' : PI} {off : Int}
    (C : Cx p R s m args meth c base sp D dA sc q d h0 hf) (hok : okI prog q i (pc, .ifCond .le off, ex) = true)
    (hs : stp sc q.2.2.2.1 d (.ifCond .le off) ex L S h = some (.inl (j, L', S', h'))) (hl : pL base sp ls q.2.2.1 L) (hP : va_P D pcl (pws base sp dA h) H) (hS : va_S (pAb base) s.heap H locs)
    (h01 : h0.length ≤ h.length) (h02 : psl h0 ≤ psl h) (h11 : h'.length ≤ hf.length) (h12 : psl h' ≤ psl hf)
    (hn : q.2.2.2.2[match j with | 0 => i + 1 | t + 1 => t]? = some e')
    (kk : ∀ (ls' : Array Slot) (H' : Heap) (locs' : List Loc), pL base sp ls' q.2.2.1 L' → va_P D pcl (pws base sp dA h') H' → va_S (pAb base) s.heap H' locs' →
      W p l e R s m args below meth c H' locs' (h'.length - h0.length) (psl h' - psl h0) Q (F0 m e'.1 ls' (S'.map (ptr base sp)))) :
    W p l e R s m args below meth c H locs (h.length - h0.length) (psl h - psl h0) Q (F0 m pc ls (S.map (ptr base sp))) := by
  obtain ⟨hx, hb, hml, hown, hts, hnm, hKf, hSf, hsz, hrc, hrs, hrd, hrl⟩ := C
  unfold okI at hok
  simp only [Bool.and_eq_true] at hok
  obtain ⟨hdg, hnp⟩ := okD_spec hok.1 rfl
  have hdg : decode q.2.1 pc = .ok (.ifCond .le off, 3) := hdg
  simp only [stp] at hs
  split at hs
  · unfold pif at hs
    split at hs
    · rename_i t
      have hj : okJ q pc t off = true := by simpa [okL] using hok.2
      split at hs
      · rename_i hc
        cases hs
        have ht := okJ_spec hj hn
        refine lv_if_le hx hb hdg ht (fun _ => kk ls H locs hl hP hS) (fun hf => absurd ?_ hf)
        simpa [pcmp] using hc
      · rename_i hc
        cases hs
        have hp : e'.1 = pc + 3 := hnp e' hn
        rw [hp] at kk
        cases ht : q.2.2.2.2[t]? with
        | none => simp [okJ, ht] at hj
        | some e2 =>
          refine lv_if_le hx hb hdg (okJ_spec hj ht) (fun hf => absurd hf ?_) (fun _ => kk ls H locs hl hP hS)
          simpa [pcmp] using hc
    · cases hs
  · cases hs

set_option maxHeartbeats 4000000 in
theorem ps_icmp_le {q : PM} {i pc d j : Nat} {ex : List Nat} {L S L' S' : List Value} {h h' h0 hf : PH} {ls : Array Slot} {H : Heap} {locs : List Loc} {e' : PI} {off : Int}
    (C : Cx p R s m args meth c base sp D dA sc q d h0 hf) (hok : okI prog q i (pc, .if_icmp .le off, ex) = true)
    (hs : stp sc q.2.2.2.1 d (.if_icmp .le off) ex L S h = some (.inl (j, L', S', h'))) (hl : pL base sp ls q.2.2.1 L) (hP : va_P D pcl (pws base sp dA h) H) (hS : va_S (pAb base) s.heap H locs)
    (h01 : h0.length ≤ h.length) (h02 : psl h0 ≤ psl h) (h11 : h'.length ≤ hf.length) (h12 : psl h' ≤ psl hf)
    (hn : q.2.2.2.2[match j with | 0 => i + 1 | t + 1 => t]? = some e')
    (kk : ∀ (ls' : Array Slot) (H' : Heap) (locs' : List Loc), pL base sp ls' q.2.2.1 L' → va_P D pcl (pws base sp dA h') H' → va_S (pAb base) s.heap H' locs' →
      W p l e R s m args below meth c H' locs' (h'.length - h0.length) (psl h' - psl h0) Q (F0 m e'.1 ls' (S'.map (ptr base sp)))) :
    W p l e R s m args below meth c H locs (h.length - h0.length) (psl h - psl h0) Q (F0 m pc ls (S.map (ptr base sp))) := by
  obtain ⟨hx, hb, hml, hown, hts, hnm, hKf, hSf, hsz, hrc, hrs, hrd, hrl⟩ := C
  unfold okI at hok
  simp only [Bool.and_eq_true] at hok
  obtain ⟨hdg, hnp⟩ := okD_spec hok.1 rfl
  have hdg : decode q.2.1 pc = .ok (.if_icmp .le off, 3) := hdg
  simp only [stp] at hs
  split at hs
  · unfold pif at hs
    split at hs
    · rename_i t
      have hj : okJ q pc t off = true := by simpa [okL] using hok.2
      split at hs
      · rename_i hc
        cases hs
        have ht := okJ_spec hj hn
        refine lv_icmp_le hx hb hdg ht (fun _ => kk ls H locs hl hP hS) (fun hf => absurd ?_ hf)
        simpa [pcmp] using hc
      · rename_i hc
        cases hs
        have hp : e'.1 = pc + 3 := hnp e' hn
        rw [hp] at kk
        cases ht : q.2.2.2.2[t]? with
        | none => simp [okJ, ht] at hj
        | some e2 =>
          refine lv_icmp_le hx hb hdg (okJ_spec hj ht) (fun hf => absurd hf ?_) (fun _ => kk ls H locs hl hP hS)
          simpa [pcmp] using hc
    · cases hs
  · cases hs

set_option maxHeartbeats 4000000 in
theorem ps_goto {q : PM} {i pc d j : Nat} {ex : List Nat} {L S L' S' : List Value} {h h' h0 hf : PH} {ls : Array Slot} {H : Heap} {locs : List Loc} {e' : PI} {off : Int}
    (C : Cx p R s m args meth c base sp D dA sc q d h0 hf) (hok : okI prog q i (pc, .goto off, ex) = true)
    (hs : stp sc q.2.2.2.1 d (.goto off) ex L S h = some (.inl (j, L', S', h'))) (hl : pL base sp ls q.2.2.1 L) (hP : va_P D pcl (pws base sp dA h) H) (hS : va_S (pAb base) s.heap H locs)
    (h01 : h0.length ≤ h.length) (h02 : psl h0 ≤ psl h) (h11 : h'.length ≤ hf.length) (h12 : psl h' ≤ psl hf)
    (hn : q.2.2.2.2[match j with | 0 => i + 1 | t + 1 => t]? = some e')
    (kk : ∀ (ls' : Array Slot) (H' : Heap) (locs' : List Loc), pL base sp ls' q.2.2.1 L' → va_P D pcl (pws base sp dA h') H' → va_S (pAb base) s.heap H' locs' →
      W p l e R s m args below meth c H' locs' (h'.length - h0.length) (psl h' - psl h0) Q (F0 m e'.1 ls' (S'.map (ptr base sp)))) :
    W p l e R s m args below meth c H locs (h.length - h0.length) (psl h - psl h0) Q (F0 m pc ls (S.map (ptr base sp))) := by
  obtain ⟨hx, hb, hml, hown, hts, hnm, hKf, hSf, hsz, hrc, hrs, hrd, hrl⟩ := C
  unfold okI at hok
  simp only [Bool.and_eq_true] at hok
  obtain ⟨hdg, hnp⟩ := okD_spec hok.1 rfl
  have hdg : decode q.2.1 pc = .ok (.goto off, 3) := hdg
  simp only [stp] at hs
  split at hs
  · rename_i t
    have hj : okJ q pc t off = true := by simpa [okL] using hok.2
    cases hs
    exact lv_goto hx hb hdg (okJ_spec hj hn) (kk ls H locs hl hP hS)
  · cases hs

set_option maxHeartbeats 4000000 in
theorem ps_ifnull {q : PM} {i pc d j : Nat} {ex : List Nat} {L S L' S' : List Value} {h h' h0 hf : PH} {ls : Array Slot} {H : Heap} {locs : List Loc} {e' : PI} {off : Int}
    (C : Cx p R s m args meth c base sp D dA sc q d h0 hf) (hok : okI prog q i (pc, .ifnull off, ex) = true)
    (hs : stp sc q.2.2.2.1 d (.ifnull off) ex L S h = some (.inl (j, L', S', h'))) (hl : pL base sp ls q.2.2.1 L) (hP : va_P D pcl (pws base sp dA h) H) (hS : va_S (pAb base) s.heap H locs)
    (h01 : h0.length ≤ h.length) (h02 : psl h0 ≤ psl h) (h11 : h'.length ≤ hf.length) (h12 : psl h' ≤ psl hf)
    (hn : q.2.2.2.2[match j with | 0 => i + 1 | t + 1 => t]? = some e')
    (kk : ∀ (ls' : Array Slot) (H' : Heap) (locs' : List Loc), pL base sp ls' q.2.2.1 L' → va_P D pcl (pws base sp dA h') H' → va_S (pAb base) s.heap H' locs' →
      W p l e R s m args below meth c H' locs' (h'.length - h0.length) (psl h' - psl h0) Q (F0 m e'.1 ls' (S'.map (ptr base sp)))) :
    W p l e R s m args below meth c H locs (h.length - h0.length) (psl h - psl h0) Q (F0 m pc ls (S.map (ptr base sp))) := by
  obtain ⟨hx, hb, hml, hown, hts, hnm, hKf, hSf, hsz, hrc, hrs, hrd, hrl⟩ := C
  unfold okI at hok
  simp only [Bool.and_eq_true] at hok
  obtain ⟨hdg, hnp⟩ := okD_spec hok.1 rfl
  have hdg : decode q.2.1 pc = .ok (.ifnull off, 3) := hdg
  simp only [stp] at hs
  split at hs
  · unfold pif at hs
    split at hs
    · rename_i t
      have hj : okJ q pc t off = true := by simpa [okL] using hok.2
      rw [if_pos rfl] at hs
      cases hs
      exact lv_ifnullN hx hb hdg (okJ_spec hj hn) (kk ls H locs hl hP hS)
    · cases hs
  · unfold pif at hs
    split at hs
    · rename_i t
      have hj : okJ q pc t off = true := by simpa [okL] using hok.2
      rw [if_neg (by decide)] at hs
      cases hs
      have hp : e'.1 = pc + 3 := hnp e' hn
      rw [hp] at kk
      exact lv_ifnull hx hb hdg (kk ls H locs hl hP hS)
    · cases hs
  · cases hs

set_option maxHeartbeats 4000000 in
theorem ps_ifnonnull {q : PM} {i pc d j : Nat} {ex : List Nat} {L S L' S' : List Value} {h h' h0 hf : PH} {ls : Array Slot} {H : Heap} {locs : List Loc} {e' : PI} {off : Int}
    (C : Cx p R s m args meth c base sp D dA sc q d h0 hf) (hok : okI prog q i (pc, .ifnonnull off, ex) = true)
    (hs : stp sc q.2.2.2.1 d (.ifnonnull off) ex L S h = some (.inl (j, L', S', h'))) (hl : pL base sp ls q.2.2.1 L) (hP : va_P D pcl (pws base sp dA h) H) (hS : va_S (pAb base) s.heap H locs)
    (h01 : h0.length ≤ h.length) (h02 : psl h0 ≤ psl h) (h11 : h'.length ≤ hf.length) (h12 : psl h' ≤ psl hf)
    (hn : q.2.2.2.2[match j with | 0 => i + 1 | t + 1 => t]? = some e')
    (kk : ∀ (ls' : Array Slot) (H' : Heap) (locs' : List Loc), pL base sp ls' q.2.2.1 L' → va_P D pcl (pws base sp dA h') H' → va_S (pAb base) s.heap H' locs' →
      W p l e R s m args below meth c H' locs' (h'.length - h0.length) (psl h' - psl h0) Q (F0 m e'.1 ls' (S'.map (ptr base sp)))) :
    W p l e R s m args below meth c H locs (h.length - h0.length) (psl h - psl h0) Q (F0 m pc ls (S.map (ptr base sp))) := by
  obtain ⟨hx, hb, hml, hown, hts, hnm, hKf, hSf, hsz, hrc, hrs, hrd, hrl⟩ := C
  unfold okI at hok
  simp only [Bool.and_eq_true] at hok
  obtain ⟨hdg, hnp⟩ := okD_spec hok.1 rfl
  have hdg : decode q.2.1 pc = .ok (.ifnonnull off, 3) := hdg
  simp only [stp] at hs
  split at hs
  · unfold pif at hs
    split at hs
    · rename_i t
      have hj : okJ q pc t off = true := by simpa [okL] using hok.2
      rw [if_neg (by decide)] at hs
      cases hs
      have hp : e'.1 = pc + 3 := hnp e' hn
      rw [hp] at kk
      exact lv_ifnonnullN hx hb hdg (kk ls H locs hl hP hS)
    · cases hs
  · unfold pif at hs
    split at hs
    · rename_i t
      have hj : okJ q pc t off = true := by simpa [okL] using hok.2
      rw [if_pos rfl] at hs
      cases hs
      exact lv_ifnonnull hx hb hdg (okJ_spec hj hn) (kk ls H locs hl hP hS)
    · cases hs
  · cases hs
end PS
