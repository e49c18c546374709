/-! ===== calls: a callee's run by contract ===== -/
section PS5
variable {p : Program} {l : Launch} {e : Env} {R : Room} {s : State} {m : MethodId} {args : Array Value} {below : List Frame} {meth : Method} {c : Code} {Q : State → Prop}
variable {base : Nat} {sp : Nat → Nat} {D : va_G} {dA : Nat → ClassId} {sc : Nat × (Nat → Int32)}
def wM (q : PM) : List Cond := .code q.1 q.2.1 q.2.2.1 q.2.2.2.1 :: wg
def prm (d : Nat) (h h2 : PH) : Room := { frames := d, cells := h2.length - h.length, slots := psl h2 - psl h, locals := d * 64 }
def pPre (base : Nat) (sp : Nat → Nat) (D : va_G) (dA : Nat → ClassId) (sc : Nat × (Nat → Int32)) (as : List Value) (h : PH) : Array Value → State → Prop := va_Pc (as.map (ptr base sp)) (fun U => U.heap.size = base + h.length ∧ va_P D pcl (pws base sp dA h) U.heap ∧ Kf D dA U ∧ Sf base sp sc U U.heap)
def pPost (base : Nat) (sp : Nat → Nat) (D : va_G) (dA : Nat → ClassId) (v : Option Value) (h : PH) : Array Value → State → Outcome → State → Prop := fun _ st o t => o = .returned (v.map (ptr base sp)) ∧ va_P D pcl (pws base sp dA h) t.heap ∧ va_F (pAb base) st t
def MetP (l : Launch) (base : Nat) (sp : Nat → Nat) (D : va_G) (dA : Nat → ClassId) (sc : Nat × (Nat → Int32)) (q : PM) (d : Nat) (as : List Value) (h h2 : PH) (v : Option Value) : Prop :=
  Met l q.1 (wM q) (prm d h h2) (pPre base sp D dA sc as h) (pPost base sp D dA v h2) (h2.length - h.length) (psl h2 - psl h) (pAb base)
theorem pPre_blind {as : List Value} {h : PH} : FrameBlind (pPre base sp D dA sc as h) := by
  intro a U g mk hq
  obtain ⟨h1, h2, h3, h4, h5⟩ := hq
  exact ⟨h1, h2, h3, Kf.same (s := U) rfl h4, Sf.same (s := U) rfl h5⟩
theorem pPre_at {as : List Value} {h : PH} {H : Heap} {locs : List Loc} {q : PM} {d : Nat} {h0 hf : PH} (C : Cx p R s m args meth c base sp D dA sc q d h0 hf) (hz : H.size = base + h.length) (hP : va_P D pcl (pws base sp dA h) H) (hS : va_S (pAb base) s.heap H locs) : ∀ U : State, U.heap = H → s.WarmedH U.vm → pPre base sp D dA sc as h (as.map (ptr base sp)).toArray U := by
  intro U hU hW
  obtain ⟨hx, hb, hml, hown, hts, hnm, hKf, hSf, hsz, hrc, hrs, hrd, hrl⟩ := C
  refine ⟨rfl, by rw [hU]; exact hz, by rw [hU]; exact hP, hKf.warm hW, ?_⟩
  rw [hU]
  exact (hSf.kept (by omega) (fun a h1 h2 => hS.2.1 a h1 h2)).warm hW
/-- behind a call -/
theorem pgo {h2 : PH} {v : Option Value} {H : Heap} {locs : List Loc} {cells slots mc ms pc : Nat} {ls : Array Slot} {st0 rest : List Value} {a : Array Value} (hr : va_Run p l e R s m args below meth c H locs cells slots mc ms (F0 m pc ls st0) rest (pPost base sp D dA v h2 a) (pAb base)) (hS : va_S (pAb base) s.heap H locs)
    (kk : ∀ (H1 : Heap) (locs1 : List Loc), va_P D pcl (pws base sp dA h2) H1 → va_S (pAb base) s.heap H1 locs1 → W p l e R s m args below meth c H1 locs1 (cells + mc) (slots + ms) Q (F0 m (pc + 3) ls ((v.map (ptr base sp)).toList ++ rest))) : W p l e R s m args below meth c H locs cells slots Q (F0 m pc ls st0) := by
  intro T hT X
  obtain ⟨v', st₀, t, T', L, h0, X', hL, e1, e2, ⟨hv, hp, hz, hk⟩, st⟩ := hr T hT X
  have hv : v' = v.map (ptr base sp) := by injection hv
  subst hv
  rw [h0] at hz hk
  obtain ⟨t2, a1, b1⟩ := kk T'.heap (locs ++ L) (by rw [e1]; exact hp)
    ⟨Nat.le_trans hS.1 (by rw [e1]; exact hz), fun q h1 h2 => by rw [e1, hk q (Nat.lt_of_lt_of_le h1 hS.1) h2]; exact hS.2.1 q h1 h2, fun q hq => by
      rcases List.mem_append.mp hq with h | h
      · exact hS.2.2 q h
      · exact hL q h⟩ T' rfl X'
  exact ⟨t2, st t2 a1, b1⟩
theorem wM_good {q : PM} (h : Cond.code q.1 q.2.1 q.2.2.1 q.2.2.2.1 ∈ wg) : GoodIn wg (wM q) := by
  intro w hw
  rcases List.mem_cons.mp hw with rfl | hw
  · exact wg_good _ h
  · exact wg_good w hw
theorem okC_spec {μ n : Nat} {q' : PM} (hq : prog[μ]? = some q') (h : okC μ n = true) : Cond.initialized q'.1.cls ∈ wg ∧ Cond.code q'.1 q'.2.1 q'.2.2.1 q'.2.2.2.1 ∈ wg ∧ (q'.1.cls ≠ "java/lang/invoke/MethodHandle" ∧ q'.1.cls ≠ "java/lang/invoke/VarHandle" ∧ (parseMethodDescriptor q'.1.desc).map (fun d => d.parameters.length) = some n) ∧ q'.2.2.1 ≤ 45 := by
  unfold okC at h
  simp only [Bool.and_eq_true, decide_eq_true_eq] at h
  exact pmeth μ q' n hq h.1 h.2
theorem pstk {S S' : List Value} {n : Nat} {x : Value} (hd : S.drop n = x :: S') : S.map (ptr base sp) = (((S.take n).reverse.map (ptr base sp)).reverse) ++ ptr base sp x :: S'.map (ptr base sp) := by
  rw [List.map_reverse, List.reverse_reverse, ← List.map_cons, ← hd, ← List.map_append, List.take_append_drop]
theorem pstkS {S : List Value} {n : Nat} : S.map (ptr base sp) = (((S.take n).reverse.map (ptr base sp)).reverse) ++ (S.drop n).map (ptr base sp) := by
  rw [List.map_reverse, List.reverse_reverse, ← List.map_append, List.take_append_drop]
set_option maxHeartbeats 4000000 in
theorem pcallstep {q q' : PM} {i pc d' μ' : Nat} {ins : Instr} {ex : List Nat} {L S as S' : List Value} {h h2 h0 hf : PH} {v : Option Value} {ls : Array Slot} {H : Heap} {locs : List Loc} {e' : PI}
    (C : Cx p R s m args meth c base sp D dA sc q (d' + 1) h0 hf) (hok : okI prog q i (pc, ins, ex) = true)
    (hs : stp sc q.2.2.2.1 (d' + 1) ins ex L S h = some (.inr (.inl (μ', as, S')))) (hq' : prog[μ']? = some q') (hM : MetP l base sp D dA sc q' d' as h h2 v)
    (hl : pL base sp ls q.2.2.1 L) (hP : va_P D pcl (pws base sp dA h) H) (hS : va_S (pAb base) s.heap H locs)
    (h01 : h0.length ≤ h.length) (h02 : psl h0 ≤ psl h) (h21 : h.length ≤ h2.length) (h22 : psl h ≤ psl h2) (h11 : h2.length ≤ hf.length) (h12 : psl h2 ≤ psl hf)
    (hn : q.2.2.2.2[i + 1]? = some e')
    (kk : ∀ (H' : Heap) (locs' : List Loc), va_P D pcl (pws base sp dA h2) H' → va_S (pAb base) s.heap H' locs' →
      W p l e R s m args below meth c H' locs' (h2.length - h0.length) (psl h2 - psl h0) Q (F0 m e'.1 ls ((v.toList ++ S').map (ptr base sp)))) :
    W p l e R s m args below meth c H locs (h.length - h0.length) (psl h - psl h0) Q (F0 m pc ls (S.map (ptr base sp))) := by
  have C0 := C
  obtain ⟨hx, hb, hml, hown, hts, hnm, hKf, hSf, hsz, hrc, hrs, hrd, hrl⟩ := C
  refine W_size (n := base + h.length) (pP_low hP hS hsz h01) (by omega) (fun hz => ?_)
  unfold okI at hok
  simp only [Bool.and_eq_true] at hok
  have fit : h.length - h0.length + (h2.length - h.length) ≤ R.cells ∧ psl h - psl h0 + (psl h2 - psl h) ≤ R.slots := ⟨by omega, by omega⟩
  have go : ∀ (st0 : List Value) (a : Array Value), decode q.2.1 pc = .ok (ins, ilen ins) → ilen ins = 3 → isSw ins = false → va_Run p l e R s m args below meth c H locs (h.length - h0.length) (psl h - psl h0) (h2.length - h.length) (psl h2 - psl h) (F0 m pc ls st0) (S'.map (ptr base sp)) (pPost base sp D dA v h2 a) (pAb base) → W p l e R s m args below meth c H locs (h.length - h0.length) (psl h - psl h0) Q (F0 m pc ls st0) := by
    intro st0 a _ hlen hsw hr
    have hp : e'.1 = pc + ilen ins := (okD_spec hok.1 hsw).2 e' hn
    rw [hlen] at hp
    refine pgo hr hS (fun H1 locs1 hP1 hS1 => ?_)
    have k2 := kk H1 locs1 hP1 hS1
    rw [hp, List.map_append] at k2
    have e1 : h2.length - h0.length = h.length - h0.length + (h2.length - h.length) := by omega
    have e2 : psl h2 - psl h0 = psl h - psl h0 + (psl h2 - psl h) := by omega
    rw [e1, e2] at k2
    have e3 : (v.map (ptr base sp)).toList = v.toList.map (ptr base sp) := by cases v <;> rfl
    rw [e3]
    exact k2
  have room : ∀ {S2 : List Value} (st : List Value), psum S2 ≤ 8 → 2 * (F0 m pc ls st).monitorRoom + ((S2.map (ptr base sp)).map fun v => v.category).sum ≤ 8 := by
    intro S2 st hp
    exact lv_room (by rw [← psum_map]; exact hp)
  cases ins with
  | invokevirtual idx =>
    obtain ⟨hdg, -⟩ := okD_spec hok.1 rfl
    simp only [stp, pinvV] at hs
    split at hs
    · unfold pclone at hs
      (repeat' split at hs) <;> cases hs
    · unfold pgetC at hs
      (repeat' split at hs) <;> cases hs
    · rename_i kd μ n k r hno hno7
      split at hs
      · rename_i a S2 hd
        split at hs
        · rename_i fs he
          split at hs
          · rename_i hc
            cases hs
            match kd, r, hok.2, hno, hno7 with
            | 0, [j1, j2, j3], hk, _, _ =>
              simp only [okL, hq', Bool.and_eq_true] at hk
              obtain ⟨⟨⟨⟨k1, k2⟩, k3⟩, k4⟩, k5⟩ := hk
              obtain ⟨c1, c2, c3, c4⟩ := okC_spec hq' k4
              have hC : ∃ r, pcl[k]? = some r ∧ r.1 = q'.1.cls := by
                unfold okCl at k5
                cases hr : pcl[k]? with
                | none =>
                  obtain ⟨r, hr2, -⟩ := hP _ _ (pws_get (pob_spec he))
                  rw [hr] at hr2
                  cases hr2
                | some r =>
                  rw [hr] at k5
                  exact ⟨r, rfl, by simpa using k5⟩
              obtain ⟨r, hr, hrn⟩ := hC
              refine go _ (Value.ref (base + a) :: (S.take n).reverse.map (ptr base sp)).toArray hdg rfl rfl ?_
              refine va_runV (Ts := wg) (own := q.1.cls) (C := q'.1.cls) (As := (S.take n).reverse.map (ptr base sp)) (b := base + a) (index := idx) ⟨hx, hb, hml, hown, hts⟩ hM (cwV n hts ?_ rfl rfl rfl ⟨rfl, c3⟩ ⟨?_, ?_⟩) ⟨pPre_blind, ?_, pPre_at (as := .ref a :: (S.take n).reverse) C0 hz hP hS⟩ rfl (by simp; omega) hl.1 (pstk hd) (room _ hc.2) hdg fit
              · intro w hw
                simp only [wsV, List.cons_append, List.nil_append, List.mem_cons] at hw
                rcases hw with rfl | rfl | rfl | rfl | hw
                · exact wg_good _ (okW_mem k1)
                · exact wg_good _ (okW_mem k2)
                · exact wg_good _ (okW_mem k3)
                · exact wg_good _ c1
                · exact wM_good c2 w hw
              · show d' + 1 ≤ R.frames
                omega
              · show 8 + (q'.2.2.1 + 11) + d' * 64 ≤ R.locals
                omega
              · have := va_recv hKf.1 hP hr (pws_get (pob_spec he))
                rwa [hrn] at this
            | 0, [], hk, _, _ => simp [okL] at hk
            | 0, [_], hk, _, _ => simp [okL] at hk
            | 0, [_, _], hk, _, _ => simp [okL] at hk
            | 0, _ :: _ :: _ :: _ :: _, hk, _, _ => simp [okL] at hk
            | kd + 1, r, hk, hno, hno7 =>
              simp only [okL] at hk
              split at hk
              · rename_i he9
                injection he9 with z1 z2
                exact (hno z1).elim
              · rename_i he9
                injection he9 with z1 z2
                exact (hno7 z1).elim
              · rename_i he9
                injection he9 with z1 z2
                cases z1
              · rename_i he9
                cases he9
              · cases hk
          · cases hs
        · cases hs
      · rename_i S2 hd
        split at hs
        · rename_i hc
          cases hs
          match kd, r, hok.2, hno, hno7 with
          | 0, [j1, j2, j3], hk, _, _ =>
            obtain ⟨hc0, hc1, hc2⟩ := hc
            subst hc0
            simp only [okL, hq', Bool.and_eq_true] at hk
            obtain ⟨⟨⟨⟨k1, k2⟩, k3⟩, k4⟩, k5⟩ := hk
            obtain ⟨c1, c2, c3, c4⟩ := okC_spec hq' k4
            have hC : q'.1.cls = "java/lang/String" := by simpa [okCl, pcl] using k5
            refine go _ (Value.ref (sp 2) :: (S.take n).reverse.map (ptr base sp)).toArray hdg rfl rfl ?_
            refine va_runV (Ts := wg) (own := q.1.cls) (C := q'.1.cls) (As := (S.take n).reverse.map (ptr base sp)) (b := sp 2) (index := idx) ⟨hx, hb, hml, hown, hts⟩ hM (cwV n hts ?_ rfl rfl rfl ⟨rfl, c3⟩ ⟨?_, ?_⟩) ⟨pPre_blind, ?_, pPre_at (as := .float 2 :: (S.take n).reverse) C0 hz hP hS⟩ rfl (by simp; omega) hl.1 (pstk hd) (room _ hc2) hdg fit
            · intro w hw
              simp only [wsV, List.cons_append, List.nil_append, List.mem_cons] at hw
              rcases hw with rfl | rfl | rfl | rfl | hw
              · exact wg_good _ (okW_mem k1)
              · exact wg_good _ (okW_mem k2)
              · exact wg_good _ (okW_mem k3)
              · exact wg_good _ c1
              · exact wM_good c2 w hw
            · show d' + 1 ≤ R.frames
              omega
            · show 8 + (q'.2.2.1 + 11) + d' * 64 ≤ R.locals
              omega
            · rw [hC]
              obtain ⟨cell, g1, g2, g3, g4⟩ := hSf.2.2.2.2.2.2.1
              exact ⟨cell, by rw [hS.2.1 (sp 2) (Array.getElem?_eq_some_iff.mp g1).1 g4]; exact g1, g2, g3⟩
          | 0, [], hk, _, _ => simp [okL] at hk
          | 0, [_], hk, _, _ => simp [okL] at hk
          | 0, [_, _], hk, _, _ => simp [okL] at hk
          | 0, _ :: _ :: _ :: _ :: _, hk, _, _ => simp [okL] at hk
          | kd + 1, r, hk, hno, hno7 =>
            simp only [okL] at hk
            split at hk
            · rename_i he9
              injection he9 with z1 z2
              exact (hno z1).elim
            · rename_i he9
              injection he9 with z1 z2
              exact (hno7 z1).elim
            · rename_i he9
              injection he9 with z1 z2
              cases z1
            · rename_i he9
              cases he9
            · cases hk
        · cases hs
      · cases hs
    · cases hs
  | invokestatic idx =>
    obtain ⟨hdg, -⟩ := okD_spec hok.1 rfl
    simp only [stp, pinvS] at hs
    split at hs
    · unfold pcopy at hs
      (repeat' split at hs) <;> cases hs
    · unfold pmath at hs
      (repeat' split at hs) <;> cases hs
    · rename_i kd μ n r hno hno6
      split at hs
      · rename_i hc
        cases hs
        match kd, r, hok.2, hno, hno6 with
        | 0, [j1, j2], hk, _, _ =>
          simp only [okL, hq', Bool.and_eq_true] at hk
          obtain ⟨⟨k1, k2⟩, k3⟩ := hk
          obtain ⟨c1, c2, c3, c4⟩ := okC_spec hq' k3
          refine go _ ((S.take n).reverse.map (ptr base sp)).toArray hdg rfl rfl ?_
          refine va_runS (Ts := wg) (own := q.1.cls) (As := (S.take n).reverse.map (ptr base sp)) (index := idx) ⟨hx, hb, hml, hown, hts⟩ hM ⟨callB_of n hts (wM_good c2) rfl rfl rfl (hts _ c1) (hts _ (okW_mem k1)) c3 ⟨?_, ?_⟩, hts _ (okW_mem k2)⟩ ⟨pPre_blind, pPre_at (as := (S.take n).reverse) C0 hz hP hS⟩ rfl (by simp; omega) hl.1 pstkS (room _ hc.2) hdg fit
          · show d' + 1 ≤ R.frames
            omega
          · show 8 + (q'.2.2.1 + 11) + d' * 64 ≤ R.locals
            omega
        | 1, [j1, j2], hk, _, _ =>
          simp only [okL, hq', Bool.and_eq_true] at hk
          obtain ⟨⟨k1, k2⟩, k3⟩ := hk
          obtain ⟨c1, c2, c3, c4⟩ := okC_spec hq' k3
          refine go _ ((S.take n).reverse.map (ptr base sp)).toArray hdg rfl rfl ?_
          refine va_runSN (Ts := wg) (own := q.1.cls) (As := (S.take n).reverse.map (ptr base sp)) (index := idx) ⟨hx, hb, hml, hown, hts⟩ hM ⟨va_cnB n hts (wM_good c2) rfl rfl rfl (hKf.2.1 _ (okN_mem k1).1 rfl) (hts _ c1) c3 ⟨?_, ?_⟩, hts _ (okW_mem k2), trivial⟩ ⟨pPre_blind, pPre_at (as := (S.take n).reverse) C0 hz hP hS⟩ rfl (by simp; omega) hl.1 pstkS (room _ hc.2) hdg fit
          · show d' + 1 ≤ R.frames
            omega
          · show 8 + (q'.2.2.1 + 11) + d' * 64 ≤ R.locals
            omega
        | 0, [], hk, _, _ => simp [okL] at hk
        | 0, [_], hk, _, _ => simp [okL] at hk
        | 0, _ :: _ :: _ :: _, hk, _, _ => simp [okL] at hk
        | 1, [], hk, _, _ => simp [okL] at hk
        | 1, [_], hk, _, _ => simp [okL] at hk
        | 1, _ :: _ :: _ :: _, hk, _, _ => simp [okL] at hk
        | kd + 2, r, hk, hno, hno6 =>
          simp only [okL] at hk
          split at hk
          · rename_i he9
            injection he9 with z1 z2
            exact (hno z1).elim
          · rename_i he9
            injection he9 with z1 z2
            exact absurd z1 (fun z => by first | exact hno6 z | exact hno6 _ z)
          · rename_i he9
            injection he9 with z1 z2
            exact absurd z1 (fun z => by first | exact hno6 z | exact hno6 _ z)
          · rename_i he9
            injection he9 with z1 z2
            exact absurd z1 (fun z => by first | exact hno6 z | exact hno6 _ z)
          · rename_i he9
            injection he9 with z1 z2
            cases z1
          · rename_i he9
            injection he9 with z1 z2
            cases z1
          · rename_i he9
            cases he9
          · cases hk
      · cases hs
    · cases hs
  | invokespecial idx =>
    obtain ⟨hdg, -⟩ := okD_spec hok.1 rfl
    simp only [stp, pinvI] at hs
    split at hs
    · (repeat' split at hs) <;> cases hs
    · rename_i kd μ n r hno
      split at hs
      · rename_i a S2 hd
        split at hs
        · rename_i hc
          cases hs
          match kd, r, hok.2, hno with
          | 0, [j1, j2], hk, _ =>
            simp only [okL, hq', Bool.and_eq_true, decide_eq_true_eq, beq_iff_eq] at hk
            obtain ⟨⟨⟨⟨k1, k2⟩, k3⟩, k4⟩, k5⟩ := hk
            obtain ⟨c1, c2, c3, c4⟩ := okC_spec hq' k3
            have hw5 : wM q' = Cond.code q'.1 q'.2.1 q'.2.2.1 none :: wg := by rw [wM, k5]
            refine go _ (Value.ref (base + a) :: (S.take n).reverse.map (ptr base sp)).toArray hdg rfl rfl ?_
            refine va_runI (Ts := wg) (own := q.1.cls) (b := base + a) (As := (S.take n).reverse.map (ptr base sp)) (index := idx) ⟨hx, hb, hml, hown, hts⟩ hM (cwI n hts (wM_good c2) hw5 rfl rfl (hts _ c1) (hts _ (okW_mem k1)) (hts _ (okW_mem k2)) k4 c3 ⟨?_, ?_⟩) ⟨pPre_blind, pPre_at (as := .ref a :: (S.take n).reverse) C0 hz hP hS⟩ rfl (by simp; omega) hl.1 (pstk hd) (room _ hc.2) hdg fit
            · show d' + 1 ≤ R.frames
              omega
            · show 8 + (q'.2.2.1 + 11) + d' * 64 ≤ R.locals
              omega
          | 1, [j1, j2], hk, _ =>
            simp only [okL, hq', Bool.and_eq_true, decide_eq_true_eq, beq_iff_eq] at hk
            obtain ⟨⟨⟨⟨k1, k2⟩, k3⟩, k4⟩, k5⟩ := hk
            obtain ⟨c1, c2, c3, c4⟩ := okC_spec hq' k3
            have hw5 : wM q' = Cond.code q'.1 q'.2.1 q'.2.2.1 none :: wg := by rw [wM, k5]
            refine go _ (Value.ref (base + a) :: (S.take n).reverse.map (ptr base sp)).toArray hdg rfl rfl ?_
            refine va_runIN (Ts := wg) (own := q.1.cls) (b := base + a) (As := (S.take n).reverse.map (ptr base sp)) (index := idx) ⟨hx, hb, hml, hown, hts⟩ hM ⟨va_cnB n hts (wM_good c2) hw5 rfl rfl (hKf.2.1 _ (okN_mem k1).1 rfl) (hts _ c1) c3 ⟨?_, ?_⟩, k4, hts _ (okW_mem k2)⟩ ⟨pPre_blind, pPre_at (as := .ref a :: (S.take n).reverse) C0 hz hP hS⟩ rfl (by simp; omega) hl.1 (pstk hd) (room _ hc.2) hdg fit
            · show d' + 1 ≤ R.frames
              omega
            · show 8 + (q'.2.2.1 + 11) + d' * 64 ≤ R.locals
              omega
          | 0, [], hk, _ => simp [okL] at hk
          | 0, [_], hk, _ => simp [okL] at hk
          | 0, _ :: _ :: _ :: _, hk, _ => simp [okL] at hk
          | 1, [], hk, _ => simp [okL] at hk
          | 1, [_], hk, _ => simp [okL] at hk
          | 1, _ :: _ :: _ :: _, hk, _ => simp [okL] at hk
          | kd + 2, r, hk, hno =>
            simp only [okL] at hk
            split at hk
            · rename_i he9
              injection he9 with z1 z2
              exact (hno z1).elim
            · rename_i he9
              injection he9 with z1 z2
              cases z1
            · rename_i he9
              injection he9 with z1 z2
              cases z1
            · rename_i he9
              cases he9
            · cases hk
        · cases hs
      · cases hs
    · cases hs
  | _ =>
    simp only [stp, pldc, pldcL, pld1, pld2, plda, pst1, pstl, psta, pial, plal, pbal, paal, pias, plas, pbas, paas, plen, pb1, pb2, pb2n, pl2, pl2n, ptab, pgets, pgetf, pputf, pcast, pnew, pnewa, panew, pif, piret, plret, paret] at hs
    first
    | (cases hs; done)
    | ((repeat' split at hs) <;> cases hs)
end PS5
