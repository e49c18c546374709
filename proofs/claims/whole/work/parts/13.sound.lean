/-! ===== a run of the pure machine is a run of the machine ===== -/
section PS6
variable {base : Nat} {sp : Nat → Nat} {D : va_G} {dA : Nat → ClassId} {sc : Nat × (Nat → Int32)}
/-- the end of a method -/
theorem preturn {p : Program} {l : Launch} {e : Env} {R : Room} {s : State} {m : MethodId} {args : Array Value} {below : List Frame} {meth : Method} {c : Code} {q : PM} {i d : Nat} {e0 : PI} {L S : List Value} {h h0 : PH} {v : Option Value} {ls : Array Slot} {H : Heap} {locs : List Loc}
    (hx : p.tables.exec = Jvm.exec) (hb : c.code = q.2.1) (hr : meth.sig.returnType = q.2.2.2.1) (hlocks : meth.locks = false) (hok : okI prog q i e0 = true)
    (hs : stp sc q.2.2.2.1 d e0.2.1 e0.2.2 L S h = some (.inr (.inr v))) (hP : va_P D pcl (pws base sp dA h) H) (hS : va_S (pAb base) s.heap H locs) :
    W p l e R s m args below meth c H locs (h.length - h0.length) (psl h - psl h0) (MQ below (pPost base sp D dA v h) args s (h.length - h0.length) (psl h - psl h0) (pAb base)) (F0 m e0.1 ls (S.map (ptr base sp))) := by
  obtain ⟨pc, ins, ex⟩ := e0
  unfold okI at hok
  simp only [Bool.and_eq_true] at hok
  have hq : ∀ (w : Option Value), w = v.map (ptr base sp) → ∀ t : State, t.heap = H → s.WarmedH t.vm → pPost base sp D dA v h args s (.returned w) t := fun w hw t ht _ => ⟨by rw [hw], by rw [ht]; exact hP, hS.F ht⟩
  cases ins with
  | ireturn =>
    obtain ⟨hdg, -⟩ := okD_spec hok.1 rfl
    have hdg : decode q.2.1 pc = .ok (.ireturn, 1) := hdg
    have hs : piret q.2.2.2.1 S = some (.inr (.inr v)) := hs
    unfold piret at hs
    split at hs
    · rename_i x hrt _
      cases hs
      rw [hrt] at hr
      exact W.iret hx hb hr (hq _ rfl) hS.2.2 hdg
    · rename_i x hrt _
      split at hs
      · rename_i hc
        cases hs
        rw [hrt] at hr
        refine W.zret hx hb hr ?_ (hq _ rfl) hS.2.2 hdg
        rcases hc with rfl | rfl <;> rfl
      · cases hs
    · rename_i x hrt _
      split at hs
      · rename_i hc
        cases hs
        rw [hrt] at hr
        exact W.zret hx hb hr (pnar (base := base) (sp := sp) (ty := .byte) (v := .int x) (by simp [pfit, hc.1, hc.2])).1 (hq _ rfl) hS.2.2 hdg
      · cases hs
    · cases hs
  | lreturn =>
    obtain ⟨hdg, -⟩ := okD_spec hok.1 rfl
    have hdg : decode q.2.1 pc = .ok (.lreturn, 1) := hdg
    have hs : plret q.2.2.2.1 S = some (.inr (.inr v)) := hs
    unfold plret at hs
    split at hs
    · rename_i x hrt _
      cases hs
      rw [hrt] at hr
      exact W.lret hx hb hr (hq _ rfl) hS.2.2 hdg
    · cases hs
  | areturn =>
    obtain ⟨hdg, -⟩ := okD_spec hok.1 rfl
    have hdg : decode q.2.1 pc = .ok (.areturn, 1) := hdg
    have hs : paret q.2.2.2.1 S = some (.inr (.inr v)) := hs
    unfold paret at hs
    split at hs
    · rename_i nm x hrt _
      cases hs
      rw [hrt] at hr
      exact W.aret hx hb hr (Or.inl ⟨_, rfl⟩) (Or.inr ⟨_, rfl⟩) (hq _ rfl) hS.2.2 hdg
    · rename_i nm hrt _
      cases hs
      rw [hrt] at hr
      exact W.aret hx hb hr (Or.inl ⟨_, rfl⟩) (Or.inl rfl) (hq _ rfl) hS.2.2 hdg
    · rename_i nm x hrt _
      cases hs
      rw [hrt] at hr
      exact W.aret hx hb hr (Or.inr ⟨_, rfl⟩) (Or.inr ⟨_, rfl⟩) (hq _ rfl) hS.2.2 hdg
    · rename_i nm hrt _
      cases hs
      rw [hrt] at hr
      exact W.aret hx hb hr (Or.inr ⟨_, rfl⟩) (Or.inl rfl) (hq _ rfl) hS.2.2 hdg
    · rename_i nm x hrt _
      cases hs
      rw [hrt] at hr
      exact W.aret hx hb hr (Or.inr ⟨_, rfl⟩) (Or.inr ⟨_, rfl⟩) (hq _ rfl) hS.2.2 hdg
    · cases hs
  | return_ =>
    obtain ⟨hdg, -⟩ := okD_spec hok.1 rfl
    have hdg : decode q.2.1 pc = .ok (.return_, 1) := hdg
    cases hrt : q.2.2.2.1 with
    | some t =>
      rw [hrt] at hs
      cases hs
    | none =>
      rw [hrt] at hs hr
      cases S with
      | nil =>
        cases hs
        exact W.vret hx hb hr (hq _ rfl) hS.2.2 hdg
      | cons x t => cases hs
  | _ =>
    simp only [stp, pldc, pldcL, pld1, pld2, plda, pst1, pstl, psta, pial, plal, pbal, paal, pias, plas, pbas, paas, plen, pb1, pb2, pb2n, pl2, pl2n, ptab, pgets, pgetf, pputf, pcast, pnew, pnewa, panew, pif, pinvV, pinvS, pinvI, pcopy, pclone, pgetC, pmath] at hs
    first
    | (cases hs; done)
    | ((repeat' split at hs) <;> cases hs)
theorem pz_all : prog.all (fun q => match q.2.2.2.2[0]? with | some e => e.1 == 0 | none => true) = true := by decide +kernel
theorem pz {μ : Nat} {q : PM} {e : PI} (h : prog[μ]? = some q) (he : q.2.2.2.2[0]? = some e) : e.1 = 0 := by
  have h1 := List.all_eq_true.mp pz_all q (List.mem_of_getElem? h)
  rw [he] at h1
  simpa using h1
/-- every method of the program passes the check -/
def okAll : Prop := ∀ (μ : Nat) (q : PM), prog[μ]? = some q → okQ prog q = true
set_option maxHeartbeats 4000000 in
theorem psound (hA : okAll) (l : Launch) : ∀ (f : Nat) (p : Program) (e : Env) (R : Room) (s : State) (m : MethodId) (args : Array Value) (below : List Frame) (meth : Method) (c : Code) (Q : State → Prop) (q : PM) (μ d i : Nat) (e0 : PI) (L S : List Value) (h h0 hf : PH) (v : Option Value) (ls : Array Slot) (H : Heap) (locs : List Loc),
    prog[μ]? = some q → Cx p R s m args meth c base sp D dA sc q d h0 hf → pex prog sc f d μ i L S h = some (v, hf) → q.2.2.2.2[i]? = some e0 → pL base sp ls q.2.2.1 L → va_P D pcl (pws base sp dA h) H → va_S (pAb base) s.heap H locs → h0.length ≤ h.length → psl h0 ≤ psl h →
    (∀ (i' : Nat) (e' : PI) (L' S' : List Value) (ls' : Array Slot) (H' : Heap) (locs' : List Loc), q.2.2.2.2[i']? = some e' → stp sc q.2.2.2.1 d e'.2.1 e'.2.2 L' S' hf = some (.inr (.inr v)) → va_P D pcl (pws base sp dA hf) H' → va_S (pAb base) s.heap H' locs' →
      W p l e R s m args below meth c H' locs' (hf.length - h0.length) (psl hf - psl h0) Q (F0 m e'.1 ls' (S'.map (ptr base sp)))) →
    W p l e R s m args below meth c H locs (h.length - h0.length) (psl h - psl h0) Q (F0 m e0.1 ls (S.map (ptr base sp))) := by
  intro f
  induction f with
  | zero =>
    intro p e R s m args below meth c Q q μ d i e0 L S h h0 hf v ls H locs hq C hx he hl hP hS h01 h02 hret
    cases hx
  | succ f ih =>
    intro p e R s m args below meth c Q q μ d i e0 L S h h0 hf v ls H locs hq C hx he hl hP hS h01 h02 hret
    have hok : okI prog q i e0 = true := okQ_at (hA μ q hq) he
    rw [pex] at hx
    simp only [hq, he] at hx
    -- the next place stands
    have next : ∀ {f' d' j : Nat} {L' S' : List Value} {h' : PH}, pex prog sc f' d' μ j L' S' h' = some (v, hf) → ∃ e', q.2.2.2.2[j]? = some e' := by
      intro f' d' j L' S' h' hx'
      cases f' with
      | zero => cases hx'
      | succ f' =>
        rw [pex] at hx'
        simp only [hq] at hx'
        cases hj : q.2.2.2.2[j]? with
        | none => rw [hj] at hx'; cases hx'
        | some e' => exact ⟨e', rfl⟩
    obtain ⟨pc, ins, ex⟩ := e0
    split at hx
    · cases hx
    · rename_i L' S' h' hst
      obtain ⟨e', he'⟩ := next hx
      have hm := pex_mono _ _ _ _ _ _ _ _ _ hx
      have hm0 := stp_mono hst
      exact pstep (j := 0) C hok hst hl hP hS h01 h02 hm.1 hm.2 he' (fun ls' H' locs' hl' hP' hS' => ih p e R s m args below meth c Q q μ d (i + 1) e' L' S' h' h0 hf v ls' H' locs' hq C hx he' hl' hP' hS' (Nat.le_trans h01 hm0.1) (Nat.le_trans h02 hm0.2) hret)
    · rename_i t L' S' h' hst
      obtain ⟨e', he'⟩ := next hx
      have hm := pex_mono _ _ _ _ _ _ _ _ _ hx
      have hm0 := stp_mono hst
      exact pstep (j := t + 1) C hok hst hl hP hS h01 h02 hm.1 hm.2 he' (fun ls' H' locs' hl' hP' hS' => ih p e R s m args below meth c Q q μ d t e' L' S' h' h0 hf v ls' H' locs' hq C hx he' hl' hP' hS' (Nat.le_trans h01 hm0.1) (Nat.le_trans h02 hm0.2) hret)
    · rename_i μ' as S' hst
      split at hx
      · cases hx
      · rename_i d'
        split at hx
        · cases hx
        · rename_i q' hq'
          split at hx
          · rename_i hent
            split at hx
            · cases hx
            · rename_i v2 h2 hcx
              obtain ⟨e', he'⟩ := next hx
              have hm1 := pex_mono _ _ _ _ _ _ _ _ _ hcx
              have hm2 := pex_mono _ _ _ _ _ _ _ _ _ hx
              have hM : MetP l base sp D dA sc q' d' as h h2 v2 := by
                have hok' := hA μ' q' hq'
                refine Met.ofW (cc := q'.2.1) (maxL := q'.2.2.1) (ret := q'.2.2.2.1) (by
                  unfold okQ at hok'
                  simp only [Bool.and_eq_true] at hok'
                  exact hok'.1) rfl ?_
                intro p e s m args below meth c s₁ B hml hv
                obtain ⟨rfl, hsz, hP, hKf, hSf⟩ := hv
                have hts := atoms_spec (ws := wM q') B.pre
                have hown : s.vm.findClass q'.1.cls = some m.cls := findClass_of_methodNamed B.named
                have hnm : q'.1.name = "<init>" → meth.name = "<init>" := fun z => (name_of_methodNamed B.named B.method).1.trans z
                have C' : Cx p (prm d' h h2) s m (as.map (ptr base sp)).toArray meth c base sp D dA sc q' d' h h2 := by
                  refine ⟨B.exec, B.bytes, hml, hown, fun w hw => hts w (List.mem_cons_of_mem _ hw), hnm, hKf, hSf, hsz, ?_, ?_, Nat.le_refl _, Nat.le_refl _⟩
                  · show h2.length ≤ h.length + (h2.length - h.length)
                    omega
                  · show psl h2 ≤ psl h + (psl h2 - psl h)
                    omega
                obtain ⟨e1, he1⟩ : ∃ e1, q'.2.2.2.2[0]? = some e1 := by
                  cases f with
                  | zero => cases hcx
                  | succ f' =>
                    rw [pex] at hcx
                    simp only [hq'] at hcx
                    cases hj : q'.2.2.2.2[0]? with
                    | none => rw [hj] at hcx; cases hcx
                    | some e1 => exact ⟨e1, rfl⟩
                have hpc0 : e1.1 = 0 := pz hq' he1
                rw [lg_entry_eq]
                have := ih p e (prm d' h h2) s m (as.map (ptr base sp)).toArray below meth c (MQ below (pPost base sp D dA v2 h2) (as.map (ptr base sp)).toArray s (h2.length - h.length) (psl h2 - psl h) (pAb base)) q' μ' d' 0 e1 (pent as q'.2.2.1) [] h h h2 v2 _ s.heap [] hq' C' hcx he1 (pL.entry hent) hP va_S.rf (Nat.le_refl _) (Nat.le_refl _) (fun i' e' L' S' ls' H' locs' hi' hst' hP' hS' => preturn (h0 := h) B.exec B.bytes B.returns B.notSynchronized (okQ_at hok' hi') hst' hP' hS')
                rw [hpc0, Nat.sub_self, Nat.sub_self] at this
                exact this
              exact pcallstep (e' := e') C hok hst hq' hM hl hP hS h01 h02 hm1.1 hm1.2 hm2.1 hm2.2 he' (fun H' locs' hP' hS' => ih p e R s m args below meth c Q q μ (d' + 1) (i + 1) e' L (v2.toList ++ S') h2 h0 hf v ls H' locs' hq C hx he' hl hP' hS' (Nat.le_trans h01 hm1.1) (Nat.le_trans h02 hm1.2) hret)
          · cases hx
    · rename_i v2 hst
      cases hx
      exact hret i (pc, ins, ex) L S ls H locs he hst hP hS
end PS6
