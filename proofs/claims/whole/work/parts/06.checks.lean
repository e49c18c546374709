/-! ===== what is checked of the pre-decoded program, by evaluation ===== -/
def okW (j : Nat) (w : Cond) : Bool := match lw_tbl[j]? with
  | some w' => decide (w' = w) && goodWord w'
  | none => false
def okN (j : Nat) (w : Cond) : Bool := match lw_tbl[j]? with
  | some w' => decide (w' = w) && isNW w'
  | none => false
theorem okW_mem {j : Nat} {w : Cond} (h : okW j w = true) : w ∈ wg := by
  unfold okW at h
  cases hj : lw_tbl[j]? with
  | none => rw [hj] at h; simp at h
  | some w' =>
    rw [hj] at h
    simp only [Bool.and_eq_true, decide_eq_true_eq] at h
    obtain ⟨rfl, h2⟩ := h
    exact List.mem_filter.mpr ⟨List.mem_of_getElem? hj, h2⟩
theorem okN_mem {j : Nat} {w : Cond} (h : okN j w = true) : w ∈ lw_tbl ∧ isNW w = true := by
  unfold okN at h
  cases hj : lw_tbl[j]? with
  | none => rw [hj] at h; simp at h
  | some w' =>
    rw [hj] at h
    simp only [Bool.and_eq_true, decide_eq_true_eq] at h
    obtain ⟨rfl, h2⟩ := h
    exact ⟨List.mem_of_getElem? hj, h2⟩
def ilen : Instr → Nat
  | .bipush _ | .ldc _ | .iload _ | .lload _ | .aload _ | .istore _ | .lstore _ | .astore _ | .newarray _ => 2
  | .sipush _ | .ldc_w _ | .ldc2_w _ | .iinc _ _ | .ifCond _ _ | .if_icmp _ _ | .if_acmp _ _ | .ifnull _ | .ifnonnull _ | .goto _ => 3
  | .getstatic _ | .getfield _ | .putfield _ | .invokevirtual _ | .invokespecial _ | .invokestatic _ | .new _ | .anewarray _ | .checkcast _ => 3
  | _ => 1
def isSw : Instr → Bool
  | .tableswitch _ _ _ _ => true
  | .lookupswitch _ _ => true
  | _ => false
def okD (q : PM) (i : Nat) (e : PI) : Bool :=
  if isSw e.2.1 = true then (match decode q.2.1 e.1 with
    | .ok (ins, _) => decide (ins = e.2.1)
    | _ => false)
  else decide (decode q.2.1 e.1 = .ok (e.2.1, ilen e.2.1)) && (match q.2.2.2.2[i + 1]? with
    | some e' => e'.1 == e.1 + ilen e.2.1
    | none => true)
def okJ (q : PM) (pc : Nat) (t : Nat) (off : Int) : Bool := match q.2.2.2.2[t]? with
  | some e' => decide ((pc : Int) + off = (e'.1 : Int))
  | none => false
def pkind : Nat → FieldType
  | 0 => .int
  | 1 => .long
  | 2 => .boolean
  | 3 => .byte
  | _ => .object "java/lang/Object"
def okF (q : PM) (idx c k j : Nat) : Bool := match pcl[c]? with
  | some r => decide (k < r.2.2) && okW j (.fieldLink q.1.cls idx (r.2.1 k).1 (r.2.1 k).2.1 (r.2.1 k).2.2.1)
  | none => false
def okFS (q : PM) (idx c k j js : Nat) : Bool := match pcl[c]? with
  | some r => decide (k < r.2.2) && okW j (.fieldLink q.1.cls idx r.1 (r.2.1 k).2.1 (r.2.1 k).2.2.1) && okW js (.sameField r.1 (r.2.1 k).1 (r.2.1 k).2.1 (r.2.1 k).2.2.1)
  | none => false
def okFin (q : PM) (c k : Nat) : Bool := match pcl[c]? with
  | some r => !(r.2.1 k).2.2.2 || (q.1.name == "<init>" && (r.2.1 k).1 == q.1.cls)
  | none => false
def okNf (c k : Nat) : Bool := match pcl[c]? with
  | some r => !(r.2.1 k).2.2.2
  | none => false
def okC (q' : PM) (n jini jc : Nat) : Bool := okW jini (.initialized q'.1.cls) && okW jc (.code q'.1 q'.2.1 q'.2.2.1 q'.2.2.2.1) && decide ((parseMethodDescriptor q'.1.desc).map (fun d => d.parameters.length) = some n) && decide (q'.1.cls ≠ "java/lang/invoke/MethodHandle") && decide (q'.1.cls ≠ "java/lang/invoke/VarHandle") && decide (q'.2.2.1 ≤ 45)
def okCl (c : Nat) (C : String) : Bool := match pcl[c]? with
  | some r => r.1 == C
  | none => c == 99 && C == "java/lang/String"
def cpyN : MethodName := ⟨"java/lang/System", "arraycopy", "(Ljava/lang/Object;ILjava/lang/Object;II)V"⟩
def clnN : MethodName := ⟨"java/lang/Object", "clone", "()Ljava/lang/Object;"⟩
def clnI : MethodName := ⟨"[I", "clone", "()Ljava/lang/Object;"⟩
def gcN : MethodName := ⟨"java/lang/Object", "getClass", "()Ljava/lang/Class;"⟩
def okL (P : List PM) (q : PM) (pc : Nat) (ins : Instr) (ex : List Nat) : Bool := match ins with
  | .ldc idx => (match ex with
    | [0, v, j] => okW j (.constant q.1.cls idx (Int32.ofNat v))
    | [1, _] => q.1.cls == "RowAuditor$Parser" && idx == 141
    | [2, j] => okW j (.classLink q.1.cls idx "[Ljava/lang/Object;")
    | [] => true
    | _ => false)
  | .ldc_w idx => (match ex with
    | [0, v, j] => okW j (.constant q.1.cls idx (Int32.ofNat v))
    | _ => false)
  | .ldc2_w idx => (match ex with
    | [v, j] => okW j (.constantLong q.1.cls idx (Int64.ofNat v))
    | _ => false)
  | .ifCond _ off => (match ex with
    | [t] => okJ q pc t off
    | _ => false)
  | .if_icmp _ off => (match ex with
    | [t] => okJ q pc t off
    | _ => false)
  | .if_acmp _ off => (match ex with
    | [t] => okJ q pc t off
    | _ => false)
  | .ifnull off => (match ex with
    | [t] => okJ q pc t off
    | _ => false)
  | .ifnonnull off => (match ex with
    | [t] => okJ q pc t off
    | _ => false)
  | .goto off => (match ex with
    | [t] => okJ q pc t off
    | _ => false)
  | .tableswitch dflt _ _ offs => (match ex with
    | t :: ts => okJ q pc t dflt && (List.range ts.length).all (fun k => match ts[k]?, offs[k]? with
      | some t, some o => okJ q pc t o
      | _, _ => false)
    | _ => false)
  | .lookupswitch dflt ps => (match ex with
    | t :: ts => okJ q pc t dflt && decide (ts.length = ps.toList.length) && (ps.toList.zip ts).all (fun x => okJ q pc x.2 x.1.2) && (ps.toList.zip (ps.toList.drop 1)).all (fun (a, next) => a.1 < next.1)
    | _ => false)
  | .getfield idx => (match ex with
    | [0, c, k, j] => okF q idx c k j
    | [2, c, k, j, js] => okFS q idx c k j js
    | [1, w, j] => (w == 0 && okW j (.fieldLink q.1.cls idx "java/lang/String" "coder" "B")) || (w == 1 && okW j (.fieldLink q.1.cls idx "java/lang/String" "value" "[B"))
    | _ => false)
  | .putfield idx => (match ex with
    | [c, k, j] => okF q idx c k j && okFin q c k
    | [c, k, j, js] => okFS q idx c k j js && okNf c k
    | _ => false)
  | .getstatic idx => (match ex with
    | [0, j] => okW j (.fieldLink q.1.cls idx "java/util/ArrayList" "DEFAULTCAPACITY_EMPTY_ELEMENTDATA" "[Ljava/lang/Object;")
    | [1, j] => okW j (.fieldLink q.1.cls idx "java/lang/String" "COMPACT_STRINGS" "Z")
    | _ => false)
  | .new idx => (match ex with
    | [c, j1, j2, j3] => (match pcl[c]? with
      | some r => okW j1 (.classLink q.1.cls idx r.1) && okW j2 (.instantiable r.1 r.2.2) && okW j3 (.initialized r.1)
      | none => false)
    | _ => false)
  | .newarray ty => (match ex with
    | [t, j] => decide (newarray.typeOf ty = pkind t) && decide (t < 4) && okW j (.arrayClass (newarray.typeOf ty))
    | _ => false)
  | .anewarray idx => (match ex with
    | [j, _] => okW j (.classLink q.1.cls idx "java/lang/Object")
    | _ => false)
  | .checkcast idx => (match ex with
    | [0, c, j] => (match pcl[c]? with
      | some r => okW j (.classLink q.1.cls idx r.1)
      | none => false)
    | [1, 0, j] => okW j (.classLink q.1.cls idx "[I")
    | _ => false)
  | .invokevirtual idx => (match ex with
    | [8, j1, j2, j3, j4, j5, j6] => okW j1 (.methodLink q.1.cls idx clnI) && okW j2 (.sameMethod "[I" "java/lang/Object" "clone" "()Ljava/lang/Object;") && okW j3 (.native clnN) && okW j4 (.instanceMethod clnN) && okW j5 (.selects "[I" clnI clnN) && okN j6 (.castable "[I" "java/lang/Cloneable")
    | [7, j1, j2, j3, j4, j5] => okW j1 (.methodLink q.1.cls idx gcN) && okN j2 (.declares gcN) && okW j3 (.selects "[Ljava/lang/Object;" gcN gcN) && okW j4 (.instanceMethod gcN) && okW j5 (.native gcN)
    | [0, μ, n, c, j1, j2, j3, j4, j5] => (match P[μ]? with
      | some q' => okW j1 (.methodLink q.1.cls idx q'.1) && okW j2 (.instanceMethod q'.1) && okW j3 (.selects q'.1.cls q'.1 q'.1) && okC q' n j4 j5 && okCl c q'.1.cls
      | none => false)
    | [] => true
    | _ => false)
  | .invokestatic idx => (match ex with
    | [8, j1, j2, j3, j4] => okW j1 (.methodLink q.1.cls idx cpyN) && okW j2 (.native cpyN) && okW j3 (.static cpyN) && okW j4 (.initialized "java/lang/System")
    | [0, μ, n, j1, j2, j3, j4] => (match P[μ]? with
      | some q' => okW j1 (.methodLink q.1.cls idx q'.1) && okW j2 (.static q'.1) && okC q' n j3 j4
      | none => false)
    | [1, μ, n, j1, j2, j3, j4] => (match P[μ]? with
      | some q' => okN j1 (.methodLinkNest q.1.cls idx q'.1 "RowAuditor") && okW j2 (.static q'.1) && okC q' n j3 j4
      | none => false)
    | [] => true
    | _ => false)
  | .invokespecial idx => (match ex with
    | [9, j1, j2, j3] => okW j1 (.methodLink q.1.cls idx objectInit) && okW j2 (.instanceMethod objectInit) && okW j3 (.code objectInit ⟨#[0xb1]⟩ 1 none)
    | [0, μ, n, j1, j2, j3, j4] => (match P[μ]? with
      | some q' => okW j1 (.methodLink q.1.cls idx q'.1) && okW j2 (.instanceMethod q'.1) && okC q' n j3 j4 && q'.1.name == "<init>" && decide (q'.2.2.2.1 = none)
      | none => false)
    | [1, μ, n, j1, j2, j3, j4] => (match P[μ]? with
      | some q' => okN j1 (.methodLinkNest q.1.cls idx q'.1 "RowAuditor") && okW j2 (.instanceMethod q'.1) && okC q' n j3 j4 && q'.1.name == "<init>" && decide (q'.2.2.2.1 = none)
      | none => false)
    | [] => true
    | _ => false)
  | _ => true
def okI (P : List PM) (q : PM) (i : Nat) (e : PI) : Bool := okD q i e && okL P q e.1 e.2.1 e.2.2
def okQ (P : List PM) (q : PM) : Bool := plainName q.1.cls && (List.range q.2.2.2.2.length).all (fun i => match q.2.2.2.2[i]? with
  | some e => okI P q i e
  | none => false)
theorem okQ_at {P : List PM} {q : PM} (h : okQ P q = true) {i : Nat} {e : PI} (he : q.2.2.2.2[i]? = some e) : okI P q i e = true := by
  unfold okQ at h
  simp only [Bool.and_eq_true, List.all_eq_true] at h
  have := h.2 i (List.mem_range.mpr (List.getElem?_eq_some_iff.mp he).1)
  rwa [he] at this
