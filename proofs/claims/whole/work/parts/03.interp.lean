/-! ===== one step of the pure machine ===== -/
abbrev pnx (L S : List Value) (h : PH) : Option PR := some (.inl (0, L, S, h))
abbrev pjp (t : Nat) (L S : List Value) (h : PH) : Option PR := some (.inl (t + 1, L, S, h))
abbrev pcall (μ : Nat) (as S : List Value) : Option PR := some (.inr (.inl (μ, as, S)))
abbrev pret (v : Option Value) : Option PR := some (.inr (.inr v))
def pin (i : Int32) (n : Nat) : Bool := !(decide (i < 0)) && decide (i.toNatClampNeg < n)
def pu : Value := .retAddr 0
def pcat (L : List Value) (i : Nat) : Bool := match i with
  | 0 => true
  | k + 1 => match L[k]? with
    | some (.long _) => false
    | some (.double _) => false
    | _ => true
def pst (L : List Value) (i : Nat) (v : Value) : Option (List Value) := if i < L.length ∧ pcat L i = true then some (L.set i v) else none
def pst2 (L : List Value) (i : Nat) (v : Value) : Option (List Value) := if i + 1 < L.length ∧ pcat L i = true then some ((L.set i v).set (i + 1) pu) else none
def psum (S : List Value) : Nat := (S.map fun v => v.category).sum
def pfit : FieldType → Value → Bool
  | .int, .int _ => true
  | .boolean, .int x => x == 0 || x == 1
  | .byte, .int x => -128 ≤ x && x ≤ 127
  | .long, .long _ => true
  | .object _, .ref _ => true
  | .object _, .null => true
  | .object _, .float _ => true
  | .array _, .ref _ => true
  | .array _, .null => true
  | .array _, .float _ => true
  | _, _ => false
def pZ (t : Nat) : PA := if t = 1 then .inr (.inl (fun _ => 0)) else .inl (fun _ => 0)
def pld1 (L : List Value) (i : Nat) (S : List Value) (h : PH) : Option PR := match L[i]? with
  | some (.int x) => pnx L (.int x :: S) h
  | _ => none
def pld2 (L : List Value) (i : Nat) (S : List Value) (h : PH) : Option PR := match L[i]? with
  | some (.long x) => pnx L (.long x :: S) h
  | _ => none
def plda (L : List Value) (i : Nat) (S : List Value) (h : PH) : Option PR := match L[i]? with
  | some (.ref x) => pnx L (.ref x :: S) h
  | some .null => pnx L (.null :: S) h
  | some (.float x) => pnx L (.float x :: S) h
  | _ => none
def pst1 (L : List Value) (i : Nat) (S : List Value) (h : PH) : Option PR := match S with
  | .int x :: S' => (match pst L i (.int x) with
    | some L' => pnx L' S' h
    | none => none)
  | _ => none
def pstl (L : List Value) (i : Nat) (S : List Value) (h : PH) : Option PR := match S with
  | .long x :: S' => (match pst2 L i (.long x) with
    | some L' => pnx L' S' h
    | none => none)
  | _ => none
def psta (L : List Value) (i : Nat) (S : List Value) (h : PH) : Option PR := match S with
  | .ref x :: S' => (match pst L i (.ref x) with
    | some L' => pnx L' S' h
    | none => none)
  | .null :: S' => (match pst L i .null with
    | some L' => pnx L' S' h
    | none => none)
  | .float x :: S' => (match pst L i (.float x) with
    | some L' => pnx L' S' h
    | none => none)
  | _ => none
def pif (b : Bool) (ex : List Nat) (L S : List Value) (h : PH) : Option PR := match ex with
  | [t] => if b = true then pjp t L S h else pnx L S h
  | _ => none
def pcmp (o : ClassFile.Cond) (x y : Int32) : Bool := match o with
  | .eq => decide (x = y)
  | .ne => !(decide (x = y))
  | .lt => decide (x < y)
  | .ge => decide (y ≤ x)
  | .gt => decide (y < x)
  | .le => decide (x ≤ y)
def pacm (x y : Value) : Option Bool := match x, y with
  | .ref a, .ref b => some (decide (a = b))
  | .null, .null => some true
  | .null, .ref _ => some false
  | .ref _, .null => some false
  | .null, .float _ => some false
  | .float _, .null => some false
  | .ref _, .float b => if b.toNat < 4 then some false else none
  | .float a, .ref _ => if a.toNat < 4 then some false else none
  | .float a, .float b => if a = b then some true else none
  | _, _ => none
def plook : List (Int × Int) → List Nat → Nat → Int → Nat
  | (a, _) :: ps, t :: ts, d, x => if x = a then t else plook ps ts d x
  | _, _, d, _ => d
def pob (h : PH) (a c : Nat) : Option (List Value) := match h[a]? with
  | some (.inr (c', fs)) => if c' = c then some fs else none
  | _ => none
def pgetf (ex : List Nat) (L S : List Value) (h : PH) : Option PR := match ex, S with
  | 0 :: c :: k :: _, .ref a :: S' => (match pob h a c with
    | some fs => (match fs[k]? with
      | some v => pnx L (v :: S') h
      | none => none)
    | none => none)
  | 2 :: c :: k :: _, .ref a :: S' => (match pob h a c with
    | some fs => (match fs[k]? with
      | some v => pnx L (v :: S') h
      | none => none)
    | none => none)
  | 1 :: w :: _, .float 2 :: S' => if w = 0 then pnx L (.int 0 :: S') h else pnx L (.float 3 :: S') h
  | _, _ => none
def pputf (ex : List Nat) (L S : List Value) (h : PH) : Option PR := match ex, S with
  | c :: k :: _, v :: .ref a :: S' => (match pob h a c with
    | some fs => if k < fs.length ∧ pfit (pY c k) v = true then pnx L S' (h.set a (.inr (c, fs.set k v))) else none
    | none => none)
  | _, _ => none
def prow (h : PH) (a t : Nat) : Option (Nat × (Nat → Int32)) := match h[a]? with
  | some (.inl (t', n, .inl f)) => if t' = t then some (n, f) else none
  | _ => none
def prowL (h : PH) (a : Nat) : Option (Nat × (Nat → Int64)) := match h[a]? with
  | some (.inl (1, n, .inr (.inl f))) => some (n, f)
  | _ => none
def prowR (h : PH) (a : Nat) : Option (Nat × (Nat → Option Nat)) := match h[a]? with
  | some (.inl (4, n, .inr (.inr f))) => some (n, f)
  | _ => none
def pbyt : List Int32 := [107, 115, 100, 104, 119, 118, 111, 101, 112, 113, 97, 110, 116]
def pial (sc : Nat × (Nat → Int32)) (L S : List Value) (h : PH) : Option PR := match S with
  | .int i :: .ref a :: S' => (match prow h a 0 with
    | some (n, f) => if pin i n = true then pnx L (.int (f i.toNatClampNeg) :: S') h else none
    | none => none)
  | .int i :: .float 0 :: S' => if pin i sc.1 = true then pnx L (.int (sc.2 i.toNatClampNeg) :: S') h else none
  | _ => none
def pbal (L S : List Value) (h : PH) : Option PR := match S with
  | .int i :: .ref a :: S' => (match prow h a 2 with
    | some (n, f) => if pin i n = true then pnx L (.int (f i.toNatClampNeg) :: S') h else none
    | none => (match prow h a 3 with
      | some (n, f) => if pin i n = true then pnx L (.int (f i.toNatClampNeg) :: S') h else none
      | none => none))
  | .int i :: .float 3 :: S' => if pin i 13 = true then pnx L (.int (pbyt.getD i.toNatClampNeg 0) :: S') h else none
  | _ => none
def plal (L S : List Value) (h : PH) : Option PR := match S with
  | .int i :: .ref a :: S' => (match prowL h a with
    | some (n, f) => if pin i n = true then pnx L (.long (f i.toNatClampNeg) :: S') h else none
    | none => none)
  | _ => none
def prf (r : Option Nat) : Value := match r with
  | none => .null
  | some a => .ref a
def paal (L S : List Value) (h : PH) : Option PR := match S with
  | .int i :: .ref a :: S' => (match prowR h a with
    | some (n, f) => if pin i n = true then pnx L (prf (f i.toNatClampNeg) :: S') h else none
    | none => none)
  | _ => none
def pias (L S : List Value) (h : PH) : Option PR := match S with
  | .int x :: .int i :: .ref a :: S' => (match prow h a 0 with
    | some (n, f) => if pin i n = true then pnx L S' (h.set a (.inl (0, n, .inl (upd f i.toNatClampNeg x)))) else none
    | none => none)
  | _ => none
def pbas (L S : List Value) (h : PH) : Option PR := match S with
  | .int x :: .int i :: .ref a :: S' => (match prow h a 2 with
    | some (n, f) => if pin i n = true then pnx L S' (h.set a (.inl (2, n, .inl (upd f i.toNatClampNeg (vp_nar .boolean x))))) else none
    | none => (match prow h a 3 with
      | some (n, f) => if pin i n = true then pnx L S' (h.set a (.inl (3, n, .inl (upd f i.toNatClampNeg (vp_nar .byte x))))) else none
      | none => none))
  | _ => none
def plas (L S : List Value) (h : PH) : Option PR := match S with
  | .long x :: .int i :: .ref a :: S' => (match prowL h a with
    | some (n, f) => if pin i n = true then pnx L S' (h.set a (.inl (1, n, .inr (.inl (vp_updL f i.toNatClampNeg x))))) else none
    | none => none)
  | _ => none
def paas (L S : List Value) (h : PH) : Option PR := match S with
  | .ref v :: .int i :: .ref a :: S' => (match prowR h a, h[v]? with
    | some (n, f), some (.inr _) => if pin i n = true then pnx L S' (h.set a (.inl (4, n, .inr (.inr (va_up f i.toNatClampNeg (some v)))))) else none
    | _, _ => none)
  | _ => none
def plen (sc : Nat × (Nat → Int32)) (L S : List Value) (h : PH) : Option PR := match S with
  | .ref a :: S' => (match h[a]? with
    | some (.inl (t, n, f)) => if t < 5 then pnx L (.int (Int32.ofNat n) :: S') h else none
    | _ => none)
  | .float 0 :: S' => pnx L (.int (Int32.ofNat sc.1) :: S') h
  | .float 1 :: S' => pnx L (.int 0 :: S') h
  | .float 3 :: S' => pnx L (.int 13 :: S') h
  | _ => none
def pnew (ex : List Nat) (L S : List Value) (h : PH) : Option PR := match ex with
  | c :: _ => (match pDf[c]? with
    | some fs => pnx L (.ref h.length :: S) (h ++ [.inr (c, fs)])
    | none => none)
  | _ => none
def pnewa (ex : List Nat) (L S : List Value) (h : PH) : Option PR := match ex, S with
  | t :: _, .int n :: S' => if ¬ n < 0 ∧ n.toNatClampNeg ≤ 100000 ∧ t < 4 then pnx L (.ref h.length :: S') (h ++ [.inl (t, n.toNatClampNeg, pZ t)]) else none
  | _, _ => none
def panew (L S : List Value) (h : PH) : Option PR := match S with
  | .int n :: S' => if ¬ n < 0 ∧ n.toNatClampNeg ≤ 100000 then pnx L (.ref h.length :: S') (h ++ [.inl (4, n.toNatClampNeg, .inr (.inr (fun _ => none)))]) else none
  | _ => none
def pcast (ex : List Nat) (L S : List Value) (h : PH) : Option PR := match ex, S with
  | 0 :: c :: _, .ref a :: S' => (match pob h a c with
    | some _ => pnx L (.ref a :: S') h
    | none => none)
  | 1 :: _, .ref a :: S' => (match prow h a 0 with
    | some _ => pnx L (.ref a :: S') h
    | none => none)
  | _, .null :: S' => pnx L (.null :: S') h
  | _, _ => none
/-- what is copied of a row of references points to objects -/
def pels (h : PH) (f : Nat → Option Nat) (sp n : Nat) : Bool := (List.range n).all (fun i => match f (sp + i) with
  | none => true
  | some y => match h[y]? with
    | some (.inr _) => true
    | _ => false)
/-- arraycopy -/
def pcopy (d : Nat) (L S : List Value) (h : PH) : Option PR := match S with
  | .int n :: .int dp :: .ref b :: .int sp :: .ref a :: S' => (match prow h a 0, prow h b 0 with
    | some (n0, f), some (n1, g) => if ¬ sp < 0 ∧ ¬ dp < 0 ∧ ¬ n < 0 ∧ sp.toNatClampNeg + n.toNatClampNeg ≤ n0 ∧ dp.toNatClampNeg + n.toNatClampNeg ≤ n1 ∧ 1 ≤ d ∧ psum S' ≤ 8 then
        pnx L S' (h.set b (.inl (0, n1, .inl (va_cpy f g sp.toNatClampNeg dp.toNatClampNeg n.toNatClampNeg)))) else none
    | _, _ => (match prowR h a, prowR h b with
      | some (n0, f), some (n1, g) => if ¬ sp < 0 ∧ ¬ dp < 0 ∧ ¬ n < 0 ∧ sp.toNatClampNeg + n.toNatClampNeg ≤ n0 ∧ dp.toNatClampNeg + n.toNatClampNeg ≤ n1 ∧ 1 ≤ d ∧ psum S' ≤ 8 ∧ pels h f sp.toNatClampNeg n.toNatClampNeg = true then
          pnx L S' (h.set b (.inl (4, n1, .inr (.inr (va_cpy f g sp.toNatClampNeg dp.toNatClampNeg n.toNatClampNeg))))) else none
      | _, _ => none))
  | _ => none
def pgetC (d : Nat) (L S : List Value) (h : PH) : Option PR := match S with
  | .ref a :: S' => (match prowR h a with
    | some _ => if 1 ≤ d ∧ psum S' ≤ 8 then pnx L (.float 4 :: S') h else none
    | none => none)
  | _ => none
def pmath (d w : Nat) (L S : List Value) (h : PH) : Option PR := match w, S with
  | 0, .int y :: .int x :: S' => if 1 ≤ d ∧ psum S' ≤ 8 then pnx L (.int (if x < y then y else x) :: S') h else none
  | 1, .int y :: .int x :: S' => if 1 ≤ d ∧ psum S' ≤ 8 then pnx L (.int (if y < x then y else x) :: S') h else none
  | 2, .int x :: S' => if 1 ≤ d ∧ psum S' ≤ 8 then pnx L (.int (if 0 ≤ x then x else 0 - x) :: S') h else none
  | _, _ => none
def pclone (d : Nat) (L S : List Value) (h : PH) : Option PR := match S with
  | .ref a :: S' => (match prow h a 0 with
    | some (n, f) => if 1 ≤ d ∧ psum S' ≤ 8 then pnx L (.ref h.length :: S') (h ++ [.inl (0, n, .inl f)]) else none
    | none => none)
  | _ => none
def pinvV (d : Nat) (ex : List Nat) (L S : List Value) (h : PH) : Option PR := match ex with
  | 8 :: _ => pclone d L S h
  | 7 :: _ => pgetC d L S h
  | _ :: μ :: n :: c :: _ => (match S.drop n with
    | .ref a :: S' => (match pob h a c with
      | some _ => if n ≤ S.length ∧ psum S' ≤ 8 then pcall μ (.ref a :: (S.take n).reverse) S' else none
      | none => none)
    | .float 2 :: S' => if c = 99 ∧ n ≤ S.length ∧ psum S' ≤ 8 then pcall μ (.float 2 :: (S.take n).reverse) S' else none
    | _ => none)
  | _ => none
def pinvS (d : Nat) (ex : List Nat) (L S : List Value) (h : PH) : Option PR := match ex with
  | 8 :: _ => pcopy d L S h
  | 6 :: w :: _ => pmath d w L S h
  | _ :: μ :: n :: _ => if n ≤ S.length ∧ psum (S.drop n) ≤ 8 then pcall μ (S.take n).reverse (S.drop n) else none
  | _ => none
def pinvI (d : Nat) (ex : List Nat) (L S : List Value) (h : PH) : Option PR := match ex with
  | 9 :: _ => (match S with
    | .ref _ :: S' => if 1 ≤ d ∧ psum S' ≤ 8 then pnx L S' h else none
    | _ => none)
  | _ :: μ :: n :: _ => (match S.drop n with
    | .ref a :: S' => if n ≤ S.length ∧ psum S' ≤ 8 then pcall μ (.ref a :: (S.take n).reverse) S' else none
    | _ => none)
  | _ => none
def pgets (ex : List Nat) (L S : List Value) (h : PH) : Option PR := match ex with
  | 0 :: _ => pnx L (.float 1 :: S) h
  | 1 :: _ => pnx L (.int 1 :: S) h
  | _ => none
def pldc (ex : List Nat) (L S : List Value) (h : PH) : Option PR := match ex with
  | 0 :: v :: _ => pnx L (.int (Int32.ofNat v) :: S) h
  | 1 :: _ => pnx L (.float 2 :: S) h
  | 2 :: _ => pnx L (.float 4 :: S) h
  | _ => none
def pldcL (ex : List Nat) (L S : List Value) (h : PH) : Option PR := match ex with
  | v :: _ => pnx L (.long (Int64.ofNat v) :: S) h
  | _ => none
def piret (rt : Option FieldType) (S : List Value) : Option PR := match rt, S with
  | some .int, [.int v] => pret (some (.int v))
  | some .boolean, [.int v] => if v = 0 ∨ v = 1 then pret (some (.int v)) else none
  | some .byte, [.int v] => if -128 ≤ v ∧ v ≤ 127 then pret (some (.int v)) else none
  | _, _ => none
def plret (rt : Option FieldType) (S : List Value) : Option PR := match rt, S with
  | some .long, [.long v] => pret (some (.long v))
  | _, _ => none
def paret (rt : Option FieldType) (S : List Value) : Option PR := match rt, S with
  | some (.object _), [.ref a] => pret (some (.ref a))
  | some (.object _), [.null] => pret (some .null)
  | some (.array _), [.ref a] => pret (some (.ref a))
  | some (.array _), [.null] => pret (some .null)
  | some (.array _), [.float k] => pret (some (.float k))
  | _, _ => none
def pb1 (f : Int32 → Int32) (L S : List Value) (h : PH) : Option PR := match S with
  | .int x :: S' => pnx L (.int (f x) :: S') h
  | _ => none
def pb2 (f : Int32 → Int32 → Int32) (L S : List Value) (h : PH) : Option PR := match S with
  | .int y :: .int x :: S' => pnx L (.int (f x y) :: S') h
  | _ => none
def pb2n (f : Int32 → Int32 → Int32) (L S : List Value) (h : PH) : Option PR := match S with
  | .int y :: .int x :: S' => if y = 0 then none else pnx L (.int (f x y) :: S') h
  | _ => none
def pl2 (f : Int64 → Int64 → Int64) (L S : List Value) (h : PH) : Option PR := match S with
  | .long y :: .long x :: S' => pnx L (.long (f x y) :: S') h
  | _ => none
def pl2n (f : Int64 → Int64 → Int64) (L S : List Value) (h : PH) : Option PR := match S with
  | .long y :: .long x :: S' => if y = 0 then none else pnx L (.long (f x y) :: S') h
  | _ => none
def ptab (lo hi : Int) (ex : List Nat) (L S : List Value) (h : PH) : Option PR := match ex, S with
  | d :: ts, .int x :: S' => if x.toInt < lo ∨ hi < x.toInt then pjp d L S' h else (match ts[(x.toInt - lo).toNat]? with
    | some t => pjp t L S' h
    | none => none)
  | _, _ => none
def stp (sc : Nat × (Nat → Int32)) (rt : Option FieldType) (d : Nat) (ins : Instr) (ex : List Nat) (L S : List Value) (h : PH) : Option PR := match ins with
  | .aconst_null => pnx L (.null :: S) h
  | .iconst n => pnx L (.int (Int32.ofInt n) :: S) h
  | .bipush n => pnx L (.int (Int8.ofInt n).toInt32 :: S) h
  | .sipush n => pnx L (.int (Int16.ofInt n).toInt32 :: S) h
  | .lconst n => pnx L (.long (Int64.ofNat (n : Nat)) :: S) h
  | .ldc _ => pldc ex L S h
  | .ldc_w _ => pldc ex L S h
  | .ldc2_w _ => pldcL ex L S h
  | .iload i => pld1 L i S h
  | .iload_n i => pld1 L i S h
  | .lload i => pld2 L i S h
  | .lload_n i => pld2 L i S h
  | .aload i => plda L i S h
  | .aload_n i => plda L i S h
  | .istore i => pst1 L i S h
  | .istore_n i => pst1 L i S h
  | .lstore i => pstl L i S h
  | .lstore_n i => pstl L i S h
  | .astore i => psta L i S h
  | .astore_n i => psta L i S h
  | .iinc i n => (match L[i]? with
    | some (.int x) => (match pst L i (.int (x + Int32.ofInt n)) with
      | some L' => pnx L' S h
      | none => none)
    | _ => none)
  | .iaload => pial sc L S h
  | .laload => plal L S h
  | .baload => pbal L S h
  | .aaload => paal L S h
  | .iastore => pias L S h
  | .lastore => plas L S h
  | .bastore => pbas L S h
  | .aastore => paas L S h
  | .arraylength => plen sc L S h
  | .pop => (match S with
    | v :: S' => if v.category = 1 then pnx L S' h else none
    | _ => none)
  | .dup => (match S with
    | v :: S' => if v.category = 1 then pnx L (v :: v :: S') h else none
    | _ => none)
  | .dup_x1 => (match S with
    | v :: w :: S' => if v.category = 1 ∧ w.category = 1 then pnx L (v :: w :: v :: S') h else none
    | _ => none)
  | .dup2 => (match S with
    | v :: w :: S' => if v.category = 1 ∧ w.category = 1 then pnx L (v :: w :: v :: w :: S') h else none
    | _ => none)
  | .iadd => pb2 (fun x y => x + y) L S h
  | .isub => pb2 (fun x y => x - y) L S h
  | .imul => pb2 (fun x y => x * y) L S h
  | .iand => pb2 (fun x y => x &&& y) L S h
  | .ior => pb2 (fun x y => x ||| y) L S h
  | .ixor => pb2 (fun x y => x ^^^ y) L S h
  | .idiv => pb2n (fun x y => x / y) L S h
  | .irem => pb2n (fun x y => x - x / y * y) L S h
  | .ineg => pb1 (fun x => -x) L S h
  | .ishl => pb2 (fun x y => x <<< (y &&& 31)) L S h
  | .ishr => pb2 (fun x y => x >>> (y &&& 31)) L S h
  | .iushr => pb2 (fun x y => (x.toUInt32 >>> (y.toUInt32 &&& Int32.toUInt32 31)).toInt32) L S h
  | .ladd => pl2 (fun x y => x + y) L S h
  | .lsub => pl2 (fun x y => x - y) L S h
  | .lmul => pl2 (fun x y => x * y) L S h
  | .ldiv => pl2n (fun x y => x / y) L S h
  | .lrem => pl2n (fun x y => x - x / y * y) L S h
  | .i2l => (match S with
    | .int x :: S' => pnx L (.long x.toInt64 :: S') h
    | _ => none)
  | .l2i => (match S with
    | .long x :: S' => pnx L (.int x.toInt32 :: S') h
    | _ => none)
  | .i2b => pb1 (fun x => x.toInt8.toInt32) L S h
  | .i2c => pb1 (fun x => (x.toUInt32 % 65536).toInt32) L S h
  | .lcmp => (match S with
    | .long y :: .long x :: S' => pnx L (.int (lg_cmp x y) :: S') h
    | _ => none)
  | .ifCond o _ => (match S with
    | .int x :: S' => pif (pcmp o x 0) ex L S' h
    | _ => none)
  | .if_icmp o _ => (match S with
    | .int y :: .int x :: S' => pif (pcmp o x y) ex L S' h
    | _ => none)
  | .if_acmp o _ => (match S with
    | y :: x :: S' => (match pacm x y with
      | some b => pif (match o with | .eq => b | .ne => !b) ex L S' h
      | none => none)
    | _ => none)
  | .ifnull _ => (match S with
    | .null :: S' => pif true ex L S' h
    | .ref _ :: S' => pif false ex L S' h
    | _ => none)
  | .ifnonnull _ => (match S with
    | .null :: S' => pif false ex L S' h
    | .ref _ :: S' => pif true ex L S' h
    | _ => none)
  | .goto _ => (match ex with
    | [t] => pjp t L S h
    | _ => none)
  | .tableswitch _ lo hi _ => ptab lo hi ex L S h
  | .lookupswitch _ ps => (match ex, S with
    | t0 :: ts, .int x :: S' => pjp (plook ps.toList ts t0 x.toInt) L S' h
    | _, _ => none)
  | .ireturn => piret rt S
  | .lreturn => plret rt S
  | .areturn => paret rt S
  | .return_ => (match rt, S with
    | none, [] => pret none
    | _, _ => none)
  | .getstatic _ => pgets ex L S h
  | .getfield _ => pgetf ex L S h
  | .putfield _ => pputf ex L S h
  | .invokevirtual _ => pinvV d ex L S h
  | .invokestatic _ => pinvS d ex L S h
  | .invokespecial _ => pinvI d ex L S h
  | .new _ => pnew ex L S h
  | .newarray _ => pnewa ex L S h
  | .anewarray _ => panew L S h
  | .checkcast _ => pcast ex L S h
  | _ => none
/-- a call's first locals -/
def pent (as : List Value) (n : Nat) : List Value :=
  let l := as.flatMap (fun v => if v.category = 2 then [v, pu] else [v])
  l ++ List.replicate (n - l.length) pu
/-- the machine: fuel, frames that are left, the method, the place in it -/
def pex (P : List PM) (sc : Nat × (Nat → Int32)) : Nat → Nat → Nat → Nat → List Value → List Value → PH → Option (Option Value × PH)
  | 0, _, _, _, _, _, _ => none
  | f + 1, d, μ, i, L, S, h => match P[μ]? with
    | none => none
    | some q => match q.2.2.2.2[i]? with
      | none => none
      | some e => match stp sc q.2.2.2.1 d e.2.1 e.2.2 L S h with
        | none => none
        | some (.inl (0, L', S', h')) => pex P sc f d μ (i + 1) L' S' h'
        | some (.inl (t + 1, L', S', h')) => pex P sc f d μ t L' S' h'
        | some (.inr (.inl (μ', as, S'))) => (match d with
          | 0 => none
          | d' + 1 => (match P[μ']? with
            | none => none
            | some q' => if (pent as q'.2.2.1).length = q'.2.2.1 then (match pex P sc f d' μ' 0 (pent as q'.2.2.1) [] h with
              | none => none
              | some (v, h') => pex P sc f (d' + 1) μ (i + 1) L (v.toList ++ S') h') else none))
        | some (.inr (.inr v)) => some (v, h)
