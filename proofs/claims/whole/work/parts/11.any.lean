/-! ===== any step; what a run makes; calls ===== -/
section PS4
variable {p : Program} {l : Launch} {e : Env} {R : Room} {s : State} {m : MethodId} {args : Array Value} {below : List Frame} {meth : Method} {c : Code} {Q : State → Prop}
variable {base : Nat} {sp : Nat → Nat} {D : va_G} {dA : Nat → ClassId} {sc : Nat × (Nat → Int32)}
theorem piret_ne {rt : Option FieldType} {S : List Value} {x : Nat × List Value × List Value × PH} : piret rt S ≠ some (.inl x) := by
  unfold piret
  split <;> (try split) <;> simp
theorem plret_ne {rt : Option FieldType} {S : List Value} {x : Nat × List Value × List Value × PH} : plret rt S ≠ some (.inl x) := by
  unfold plret
  split <;> simp
theorem paret_ne {rt : Option FieldType} {S : List Value} {x : Nat × List Value × List Value × PH} : paret rt S ≠ some (.inl x) := by
  unfold paret
  split <;> simp
set_option maxHeartbeats 4000000 in
theorem pstep {q : PM} {i pc d j : Nat} {ins : Instr} {ex : List Nat} {L S L' S' : List Value} {h h' h0 hf : PH} {ls : Array Slot} {H : Heap} {locs : List Loc} {e' : PI}
    (C : Cx p R s m args meth c base sp D dA sc q d h0 hf) (hok : okI prog q i (pc, ins, ex) = true)
    (hs : stp sc q.2.2.2.1 d ins ex L S h = some (.inl (j, L', S', h'))) (hl : pL base sp ls q.2.2.1 L) (hP : va_P D pcl (pws base sp dA h) H) (hS : va_S (pAb base) s.heap H locs)
    (h01 : h0.length ≤ h.length) (h02 : psl h0 ≤ psl h) (h11 : h'.length ≤ hf.length) (h12 : psl h' ≤ psl hf)
    (hn : q.2.2.2.2[match j with | 0 => i + 1 | t + 1 => t]? = some e')
    (kk : ∀ (ls' : Array Slot) (H' : Heap) (locs' : List Loc), pL base sp ls' q.2.2.1 L' → va_P D pcl (pws base sp dA h') H' → va_S (pAb base) s.heap H' locs' →
      W p l e R s m args below meth c H' locs' (h'.length - h0.length) (psl h' - psl h0) Q (F0 m e'.1 ls' (S'.map (ptr base sp)))) :
    W p l e R s m args below meth c H locs (h.length - h0.length) (psl h - psl h0) Q (F0 m pc ls (S.map (ptr base sp))) := by
  cases ins with
  | iconst _ => exact ps_iconst C hok hs hl hP hS h01 h02 h11 h12 hn kk
  | bipush _ => exact ps_bipush C hok hs hl hP hS h01 h02 h11 h12 hn kk
  | sipush _ => exact ps_sipush C hok hs hl hP hS h01 h02 h11 h12 hn kk
  | lconst _ => exact ps_lconst C hok hs hl hP hS h01 h02 h11 h12 hn kk
  | aconst_null => exact ps_aconst_null C hok hs hl hP hS h01 h02 h11 h12 hn kk
  | iload _ => exact ps_iload C hok hs hl hP hS h01 h02 h11 h12 hn kk
  | iload_n _ => exact ps_iload_n C hok hs hl hP hS h01 h02 h11 h12 hn kk
  | lload _ => exact ps_lload C hok hs hl hP hS h01 h02 h11 h12 hn kk
  | lload_n _ => exact ps_lload_n C hok hs hl hP hS h01 h02 h11 h12 hn kk
  | aload _ => exact ps_aload C hok hs hl hP hS h01 h02 h11 h12 hn kk
  | aload_n _ => exact ps_aload_n C hok hs hl hP hS h01 h02 h11 h12 hn kk
  | istore _ => exact ps_istore C hok hs hl hP hS h01 h02 h11 h12 hn kk
  | istore_n _ => exact ps_istore_n C hok hs hl hP hS h01 h02 h11 h12 hn kk
  | lstore _ => exact ps_lstore C hok hs hl hP hS h01 h02 h11 h12 hn kk
  | lstore_n _ => exact ps_lstore_n C hok hs hl hP hS h01 h02 h11 h12 hn kk
  | astore _ => exact ps_astore C hok hs hl hP hS h01 h02 h11 h12 hn kk
  | astore_n _ => exact ps_astore_n C hok hs hl hP hS h01 h02 h11 h12 hn kk
  | iinc _ _ => exact ps_iinc C hok hs hl hP hS h01 h02 h11 h12 hn kk
  | iadd => exact ps_iadd C hok hs hl hP hS h01 h02 h11 h12 hn kk
  | isub => exact ps_isub C hok hs hl hP hS h01 h02 h11 h12 hn kk
  | imul => exact ps_imul C hok hs hl hP hS h01 h02 h11 h12 hn kk
  | iand => exact ps_iand C hok hs hl hP hS h01 h02 h11 h12 hn kk
  | ior => exact ps_ior C hok hs hl hP hS h01 h02 h11 h12 hn kk
  | ixor => exact ps_ixor C hok hs hl hP hS h01 h02 h11 h12 hn kk
  | ishl => exact ps_ishl C hok hs hl hP hS h01 h02 h11 h12 hn kk
  | ishr => exact ps_ishr C hok hs hl hP hS h01 h02 h11 h12 hn kk
  | iushr => exact ps_iushr C hok hs hl hP hS h01 h02 h11 h12 hn kk
  | ladd => exact ps_ladd C hok hs hl hP hS h01 h02 h11 h12 hn kk
  | lsub => exact ps_lsub C hok hs hl hP hS h01 h02 h11 h12 hn kk
  | lmul => exact ps_lmul C hok hs hl hP hS h01 h02 h11 h12 hn kk
  | idiv => exact ps_idiv C hok hs hl hP hS h01 h02 h11 h12 hn kk
  | irem => exact ps_irem C hok hs hl hP hS h01 h02 h11 h12 hn kk
  | ldiv => exact ps_ldiv C hok hs hl hP hS h01 h02 h11 h12 hn kk
  | lrem => exact ps_lrem C hok hs hl hP hS h01 h02 h11 h12 hn kk
  | ineg => exact ps_ineg C hok hs hl hP hS h01 h02 h11 h12 hn kk
  | i2b => exact ps_i2b C hok hs hl hP hS h01 h02 h11 h12 hn kk
  | i2c => exact ps_i2c C hok hs hl hP hS h01 h02 h11 h12 hn kk
  | i2l => exact ps_i2l C hok hs hl hP hS h01 h02 h11 h12 hn kk
  | l2i => exact ps_l2i C hok hs hl hP hS h01 h02 h11 h12 hn kk
  | lcmp => exact ps_lcmp C hok hs hl hP hS h01 h02 h11 h12 hn kk
  | pop => exact ps_pop C hok hs hl hP hS h01 h02 h11 h12 hn kk
  | dup => exact ps_dup C hok hs hl hP hS h01 h02 h11 h12 hn kk
  | dup_x1 => exact ps_dup_x1 C hok hs hl hP hS h01 h02 h11 h12 hn kk
  | dup2 => exact ps_dup2 C hok hs hl hP hS h01 h02 h11 h12 hn kk
  | goto _ => exact ps_goto C hok hs hl hP hS h01 h02 h11 h12 hn kk
  | ifnull _ => exact ps_ifnull C hok hs hl hP hS h01 h02 h11 h12 hn kk
  | ifnonnull _ => exact ps_ifnonnull C hok hs hl hP hS h01 h02 h11 h12 hn kk
  | ldc _ => exact ps_ldc C hok hs hl hP hS h01 h02 h11 h12 hn kk
  | ldc_w _ => exact ps_ldc_w C hok hs hl hP hS h01 h02 h11 h12 hn kk
  | ldc2_w _ => exact ps_ldc2_w C hok hs hl hP hS h01 h02 h11 h12 hn kk
  | getstatic _ => exact ps_getstatic C hok hs hl hP hS h01 h02 h11 h12 hn kk
  | getfield _ => exact ps_getfield C hok hs hl hP hS h01 h02 h11 h12 hn kk
  | putfield _ => exact ps_putfield C hok hs hl hP hS h01 h02 h11 h12 hn kk
  | iaload => exact ps_iaload C hok hs hl hP hS h01 h02 h11 h12 hn kk
  | baload => exact ps_baload C hok hs hl hP hS h01 h02 h11 h12 hn kk
  | laload => exact ps_laload C hok hs hl hP hS h01 h02 h11 h12 hn kk
  | aaload => exact ps_aaload C hok hs hl hP hS h01 h02 h11 h12 hn kk
  | iastore => exact ps_iastore C hok hs hl hP hS h01 h02 h11 h12 hn kk
  | lastore => exact ps_lastore C hok hs hl hP hS h01 h02 h11 h12 hn kk
  | bastore => exact ps_bastore C hok hs hl hP hS h01 h02 h11 h12 hn kk
  | aastore => exact ps_aastore C hok hs hl hP hS h01 h02 h11 h12 hn kk
  | arraylength => exact ps_arraylength C hok hs hl hP hS h01 h02 h11 h12 hn kk
  | new _ => exact ps_new C hok hs hl hP hS h01 h02 h11 h12 hn kk
  | newarray _ => exact ps_newarray C hok hs hl hP hS h01 h02 h11 h12 hn kk
  | anewarray _ => exact ps_anewarray C hok hs hl hP hS h01 h02 h11 h12 hn kk
  | checkcast _ => exact ps_checkcast C hok hs hl hP hS h01 h02 h11 h12 hn kk
  | tableswitch _ _ _ _ => exact ps_tableswitch C hok hs hl hP hS h01 h02 h11 h12 hn kk
  | lookupswitch _ _ => exact ps_lookupswitch C hok hs hl hP hS h01 h02 h11 h12 hn kk
  | ifCond o off => cases o with
    | eq => exact ps_if_eq C hok hs hl hP hS h01 h02 h11 h12 hn kk
    | ne => exact ps_if_ne C hok hs hl hP hS h01 h02 h11 h12 hn kk
    | lt => exact ps_if_lt C hok hs hl hP hS h01 h02 h11 h12 hn kk
    | ge => exact ps_if_ge C hok hs hl hP hS h01 h02 h11 h12 hn kk
    | gt => exact ps_if_gt C hok hs hl hP hS h01 h02 h11 h12 hn kk
    | le => exact ps_if_le C hok hs hl hP hS h01 h02 h11 h12 hn kk
  | if_icmp o off => cases o with
    | eq => exact ps_icmp_eq C hok hs hl hP hS h01 h02 h11 h12 hn kk
    | ne => exact ps_icmp_ne C hok hs hl hP hS h01 h02 h11 h12 hn kk
    | lt => exact ps_icmp_lt C hok hs hl hP hS h01 h02 h11 h12 hn kk
    | ge => exact ps_icmp_ge C hok hs hl hP hS h01 h02 h11 h12 hn kk
    | gt => exact ps_icmp_gt C hok hs hl hP hS h01 h02 h11 h12 hn kk
    | le => exact ps_icmp_le C hok hs hl hP hS h01 h02 h11 h12 hn kk
  | if_acmp o off => cases o with
    | eq => exact ps_acmp_eq C hok hs hl hP hS h01 h02 h11 h12 hn kk
    | ne => exact ps_acmp_ne C hok hs hl hP hS h01 h02 h11 h12 hn kk
  | invokespecial _ => exact ps_special C hok hs hl hP hS h01 h02 h11 h12 hn kk
  | invokestatic _ => exact ps_static C hok hs hl hP hS h01 h02 h11 h12 hn kk
  | invokevirtual _ => exact ps_virtual C hok hs hl hP hS h01 h02 h11 h12 hn kk
  | ireturn => exact absurd hs piret_ne
  | lreturn => exact absurd hs plret_ne
  | areturn => exact absurd hs paret_ne
  | return_ =>
    simp only [stp] at hs
    split at hs <;> cases hs
  | _ => cases hs
theorem gr_keep {h : PH} {a : Nat} {e0 e : PC} (h0 : h[a]? = some e0) (hz : psz e = psz e0) : h.length ≤ (h.set a e).length ∧ psl h ≤ psl (h.set a e) := by
  obtain ⟨z1, z2⟩ := psl_keep h0 hz
  rw [z1, z2]
  exact ⟨Nat.le_refl _, Nat.le_refl _⟩
theorem gr_push {h : PH} {e : PC} : h.length ≤ (h ++ [e]).length ∧ psl h ≤ psl (h ++ [e]) := by
  rw [psl_push]
  simp
theorem gr_rf {h : PH} : h.length ≤ h.length ∧ psl h ≤ psl h := ⟨Nat.le_refl _, Nat.le_refl _⟩
set_option maxHeartbeats 4000000 in
theorem stp_mono {rt : Option FieldType} {d j : Nat} {ins : Instr} {ex : List Nat} {L S L' S' : List Value} {h h' : PH} (hs : stp sc rt d ins ex L S h = some (.inl (j, L', S', h'))) : h.length ≤ h'.length ∧ psl h ≤ psl h' := by
  cases ins with
  | putfield _ =>
    simp only [stp, pputf] at hs
    split at hs
    · split at hs
      · rename_i he
        split at hs
        · cases hs
          exact gr_keep (pob_spec he) (by simp [psz])
        · cases hs
      · cases hs
    · cases hs
  | iastore =>
    simp only [stp, pias] at hs
    split at hs
    · split at hs
      · rename_i he
        split at hs
        · cases hs
          exact gr_keep (prow_spec he) rfl
        · cases hs
      · cases hs
    · cases hs
  | bastore =>
    simp only [stp, pbas] at hs
    split at hs
    · split at hs
      · rename_i he
        split at hs
        · cases hs
          exact gr_keep (prow_spec he) rfl
        · cases hs
      · split at hs
        · rename_i he
          split at hs
          · cases hs
            exact gr_keep (prow_spec he) rfl
          · cases hs
        · cases hs
    · cases hs
  | lastore =>
    simp only [stp, plas] at hs
    split at hs
    · split at hs
      · rename_i he
        split at hs
        · cases hs
          exact gr_keep (prowL_spec he) rfl
        · cases hs
      · cases hs
    · cases hs
  | aastore =>
    simp only [stp, paas] at hs
    split at hs
    · split at hs
      · rename_i he _
        split at hs
        · cases hs
          exact gr_keep (prowR_spec he) rfl
        · cases hs
      · cases hs
    · cases hs
  | new _ =>
    simp only [stp, pnew] at hs
    split at hs
    · split at hs
      · cases hs
        exact gr_push
      · cases hs
    · cases hs
  | newarray _ =>
    simp only [stp, pnewa] at hs
    split at hs
    · split at hs
      · cases hs
        exact gr_push
      · cases hs
    · cases hs
  | anewarray _ =>
    simp only [stp, panew] at hs
    split at hs
    · split at hs
      · cases hs
        exact gr_push
      · cases hs
    · cases hs
  | invokestatic _ =>
    simp only [stp, pinvS] at hs
    split at hs
    · unfold pcopy at hs
      split at hs
      · split at hs
        · rename_i he1 he2
          split at hs
          · cases hs
            exact gr_keep (prow_spec he2) rfl
          · cases hs
        · split at hs
          · rename_i he1 he2
            split at hs
            · cases hs
              exact gr_keep (prowR_spec he2) rfl
            · cases hs
          · cases hs
      · cases hs
    · unfold pmath at hs
      split at hs
      · split at hs
        · cases hs
          exact gr_rf
        · cases hs
      · split at hs
        · cases hs
          exact gr_rf
        · cases hs
      · split at hs
        · cases hs
          exact gr_rf
        · cases hs
      · cases hs
    · split at hs <;> cases hs
    · cases hs
  | invokevirtual _ =>
    simp only [stp, pinvV] at hs
    split at hs
    · unfold pclone at hs
      split at hs
      · split at hs
        · split at hs
          · cases hs
            exact gr_push
          · cases hs
        · cases hs
      · cases hs
    · unfold pgetC at hs
      split at hs
      · split at hs
        · split at hs
          · cases hs
            exact gr_rf
          · cases hs
        · cases hs
      · cases hs
    · split at hs
      · split at hs
        · split at hs <;> cases hs
        · cases hs
      · split at hs <;> cases hs
      · cases hs
    · cases hs
  | invokespecial _ =>
    simp only [stp, pinvI] at hs
    split at hs
    · split at hs
      · split at hs
        · cases hs
          exact gr_rf
        · cases hs
      · cases hs
    · split at hs
      · split at hs <;> cases hs
      · cases hs
    · cases hs
  | ireturn => exact absurd hs piret_ne
  | lreturn => exact absurd hs plret_ne
  | areturn => exact absurd hs paret_ne
  | ifCond o off =>
    simp only [stp, pif] at hs
    (repeat' split at hs) <;> cases hs <;> exact gr_rf
  | if_icmp o off =>
    simp only [stp, pif] at hs
    (repeat' split at hs) <;> cases hs <;> exact gr_rf
  | if_acmp o off =>
    simp only [stp, pif] at hs
    (repeat' split at hs) <;> cases hs <;> exact gr_rf
  | ifnull off =>
    simp only [stp, pif] at hs
    (repeat' split at hs) <;> cases hs <;> exact gr_rf
  | ifnonnull off =>
    simp only [stp, pif] at hs
    (repeat' split at hs) <;> cases hs <;> exact gr_rf
  | _ =>
    simp only [stp, pldc, pldcL, pld1, pld2, plda, pst1, pstl, psta, pial, plal, pbal, paal, plen, pb1, pb2, pb2n, pl2, pl2n, ptab, pgets, pgetf, pcast] at hs
    first
    | (cases hs; done)
    | (cases hs; exact gr_rf)
    | ((repeat' split at hs) <;> first | (cases hs; done) | (cases hs; exact gr_rf))
theorem pex_mono : ∀ (f d μ i : Nat) (L S : List Value) (h : PH) (v : Option Value) (hf : PH), pex prog sc f d μ i L S h = some (v, hf) → h.length ≤ hf.length ∧ psl h ≤ psl hf := by
  intro f
  induction f with
  | zero => intro d μ i L S h v hf hx; cases hx
  | succ f ih =>
    intro d μ i L S h v hf hx
    rw [pex] at hx
    split at hx
    · cases hx
    · split at hx
      · cases hx
      · split at hx
        · cases hx
        · rename_i hst
          have h1 := stp_mono hst
          have h2 := ih _ _ _ _ _ _ _ _ hx
          exact ⟨Nat.le_trans h1.1 h2.1, Nat.le_trans h1.2 h2.2⟩
        · rename_i hst
          have h1 := stp_mono hst
          have h2 := ih _ _ _ _ _ _ _ _ hx
          exact ⟨Nat.le_trans h1.1 h2.1, Nat.le_trans h1.2 h2.2⟩
        · split at hx
          · cases hx
          · split at hx
            · cases hx
            · split at hx
              · split at hx
                · cases hx
                · rename_i hc
                  have h1 := ih _ _ _ _ _ _ _ _ hc
                  have h2 := ih _ _ _ _ _ _ _ _ hx
                  exact ⟨Nat.le_trans h1.1 h2.1, Nat.le_trans h1.2 h2.2⟩
              · cases hx
        · cases hx
          exact gr_rf
end PS4
