/-! ===== rounds: what is counted ===== -/
def lst : List Nat → Nat
  | [] => 0
  | [p] => p
  | _ :: q :: r => lst (q :: r)
section RND
variable (mv : Nat → Bool) (ho it : Nat → Nat) (ok2 : Nat → Nat → Bool)
/-- whether a place goes on; r: what is chosen, the latest first -/
def gR : List Nat → Nat → Bool
  | [], k => mv k
  | p :: r, k => mv k && ok2 (lst (p :: r)) k && decide (ho k = it p) && !((p :: r).map it).contains (it k)
def clR : List Nat → Nat → Bool
  | [], _ => false
  | p :: r, k => decide (it k = ho (lst (p :: r)))
def RC : Nat → List Nat → Nat → Nat
  | 0, _, _ => 0
  | m + 1, r, k => (if gR mv ho it ok2 r k = true then (if clR ho it r k = true then 1 else if r.length < 5 then RC m (k :: r) (k + 1) else 0) else 0) + RC m r (k + 1)
def sty (home h : Nat) : Nat := if home ≤ h then h - 1 else h
/-- how many ways home from a stay with a set of stays -/
def VV (okp : Nat → Bool) (home : Nat) : Nat → Nat → Nat → Nat → Nat
  | 0, _, _, _ => 0
  | m + 1, a, S, k => (if okp k = true ∧ ¬ ho k = home ∧ sty home (ho k) = a then (if it k = home then 1 else if S.testBit (sty home (it k)) = false ∧ pcN 12 S < 5 then VV okp home m (sty home (it k)) (S ||| 2 ^ (sty home (it k))) (k + 1) else 0) else 0) + VV okp home m a S (k + 1)
end RND
theorem sty_inj {home a b : Nat} (ha : ¬ a = home) (hb : ¬ b = home) (h : sty home a = sty home b) : a = b := by
  unfold sty at h
  split at h <;> split at h <;> omega
theorem sty_lt {home a : Nat} (hh : home < 10) (h : a < 10) (ha : ¬ a = home) : sty home a < 9 := by
  unfold sty
  split <;> omega
theorem pcT_all : (List.range 9).all (fun b => (List.range 512).all (fun S => S.testBit b || (decide (pcN 12 (S ||| 2 ^ b) = pcN 12 S + 1)))) = true := by decide +kernel
theorem pcT {b S : Nat} (hb : b < 9) (hS : S < 512) (h : S.testBit b = false) : pcN 12 (S ||| 2 ^ b) = pcN 12 S + 1 := by
  have h1 := List.all_eq_true.mp pcT_all b (List.mem_range.mpr hb)
  have h2 := List.all_eq_true.mp h1 S (List.mem_range.mpr hS)
  rw [h, Bool.false_or] at h2
  exact of_decide_eq_true h2
theorem or_512 {b S : Nat} (hb : b < 9) (hS : S < 512) : S ||| 2 ^ b < 512 := by
  have h1 : 2 ^ b < 2 ^ 9 := Nat.pow_lt_pow_right (by omega) hb
  exact Nat.or_lt_two_pow (n := 9) hS h1
theorem or_bit {b c S : Nat} : (S ||| 2 ^ b).testBit c = (S.testBit c || decide (b = c)) := by
  rw [Nat.testBit_or, Nat.testBit_two_pow]
theorem RC_VV {mv : Nat → Bool} {ho it : Nat → Nat} {ok2 : Nat → Nat → Bool} {f home : Nat} (hh : home = ho f) (h10 : ho f < 10) (hm : ∀ k, mv k = true → it k < 10 ∧ ho k < 10) : ∀ m r p k S, lst (p :: r) = f → (∀ q, q ∈ p :: r → it q < 10 ∧ ¬ it q = home) → (∀ h, h < 10 → ¬ h = home → ((p :: r).map it).contains h = S.testBit (sty home h)) → pcN 12 S = (p :: r).length → S < 512 → RC mv ho it ok2 m (p :: r) k = VV ho it (fun k => mv k && ok2 f k) home m (sty home (it p)) S k := by
  intro m
  induction m with
  | zero => intro r p k S _ _ _ _ _; rfl
  | succ m ih =>
    intro r p k S hl hi hc hp hS
    rw [RC, VV, ih r p (k + 1) S hl hi hc hp hS]
    congr 1
    have hip := hi p List.mem_cons_self
    have hnh : ((p :: r).map it).contains home = false := by
      cases e : ((p :: r).map it).contains home with
      | false => rfl
      | true =>
        have h1 := List.contains_iff_mem.mp e
        obtain ⟨q, h2, h3⟩ := List.mem_map.mp h1
        exact absurd h3 (hi q h2).2
    by_cases c1 : mv k = true
    · obtain ⟨k1, k2⟩ := hm k c1
      by_cases c2 : ok2 f k = true
      · by_cases c3 : ho k = it p
        · have c4 : ¬ ho k = home := by rw [c3]; exact hip.2
          have e1 : gR mv ho it ok2 (p :: r) k = !((p :: r).map it).contains (it k) := by
            show (mv k && ok2 (lst (p :: r)) k && decide (ho k = it p) && !((p :: r).map it).contains (it k)) = _
            rw [hl, c1, c2, decide_eq_true c3, Bool.true_and, Bool.true_and, Bool.true_and]
          have e2 : clR ho it (p :: r) k = decide (it k = home) := by
            show decide (it k = ho (lst (p :: r))) = _
            rw [hl, hh]
          rw [e1, e2, if_pos (show (mv k && ok2 f k) = true ∧ ¬ ho k = home ∧ sty home (ho k) = sty home (it p) from ⟨by rw [c1, c2]; rfl, c4, by rw [c3]⟩)]
          by_cases c5 : it k = home
          · rw [if_pos c5, c5, hnh, Bool.not_false, if_pos rfl, if_pos (decide_eq_true rfl)]
          · rw [if_neg c5, hc (it k) k1 c5]
            cases e : S.testBit (sty home (it k)) with
            | true =>
              rw [if_neg (by decide), if_neg (fun z => absurd z.1 (by decide))]
            | false =>
              rw [Bool.not_false, if_pos rfl, if_neg (by rw [decide_eq_false c5]; decide), hp]
              by_cases c6 : (p :: r).length < 5
              · rw [if_pos c6, if_pos ⟨rfl, c6⟩]
                have hb := sty_lt (home := home) (by omega) k1 c5
                refine ih (p :: r) k (k + 1) (S ||| 2 ^ sty home (it k)) hl ?_ ?_ ?_ (or_512 hb hS)
                · intro q hq
                  rcases List.mem_cons.mp hq with z | z
                  · rw [z]; exact ⟨k1, c5⟩
                  · exact hi q z
                · intro h h1 h2
                  rw [or_bit, List.map_cons, List.contains_cons, hc h h1 h2, Bool.or_comm]
                  congr 1
                  by_cases z : h = it k
                  · rw [z, decide_eq_true rfl, beq_self_eq_true]
                  · rw [decide_eq_false (fun y => z (sty_inj h2 c5 y.symm)), beq_eq_false_iff_ne.mpr z]
                · rw [pcT hb hS e, hp]
                  rfl
              · rw [if_neg c6, if_neg (fun z => c6 z.2)]
        · have e1 : gR mv ho it ok2 (p :: r) k = false := by
            show (mv k && ok2 (lst (p :: r)) k && decide (ho k = it p) && !((p :: r).map it).contains (it k)) = _
            rw [decide_eq_false c3, Bool.and_false, Bool.false_and]
          rw [e1, if_neg (by decide), if_neg (fun z => c3 (sty_inj z.2.1 hip.2 z.2.2))]
      · have e1 : gR mv ho it ok2 (p :: r) k = false := by
          show (mv k && ok2 (lst (p :: r)) k && decide (ho k = it p) && !((p :: r).map it).contains (it k)) = _
          rw [hl, Bool.eq_false_iff.mpr c2, Bool.and_false, Bool.false_and, Bool.false_and]
        rw [e1, if_neg (by decide), if_neg (fun z => c2 (Bool.and_eq_true_iff.mp z.1).2)]
    · have e1 : gR mv ho it ok2 (p :: r) k = false := by
        show (mv k && ok2 (lst (p :: r)) k && decide (ho k = it p) && !((p :: r).map it).contains (it k)) = _
        rw [Bool.eq_false_iff.mpr c1, Bool.false_and, Bool.false_and, Bool.false_and]
      rw [e1, if_neg (by decide), if_neg (fun z => c1 (Bool.and_eq_true_iff.mp z.1).1)]
/-! sums over the states that have ways -/
def sumL (L : List (Nat × Nat)) (g : Nat × Nat → Nat) : Nat := (L.map g).sum
theorem sumL_nil {g : Nat × Nat → Nat} : sumL [] g = 0 := rfl
theorem sumL_cons {x : Nat × Nat} {L : List (Nat × Nat)} {g : Nat × Nat → Nat} : sumL (x :: L) g = g x + sumL L g := rfl
theorem sumL_app {g : Nat × Nat → Nat} {y : Nat × Nat} : ∀ L, sumL (L ++ [y]) g = sumL L g + g y
  | [] => by show g y + 0 = 0 + g y; omega
  | x :: L => by
    show g x + sumL (L ++ [y]) g = g x + sumL L g + g y
    rw [sumL_app L]; omega
theorem sumL_add {g h : Nat × Nat → Nat} : ∀ L, sumL L (fun x => g x + h x) = sumL L g + sumL L h
  | [] => rfl
  | x :: L => by
    show g x + h x + sumL L (fun x => g x + h x) = (g x + sumL L g) + (h x + sumL L h)
    rw [sumL_add L]; omega
theorem sumL_congr {g h : Nat × Nat → Nat} : ∀ L, (∀ x, x ∈ L → g x = h x) → sumL L g = sumL L h
  | [], _ => rfl
  | x :: L, e => by
    show g x + sumL L g = h x + sumL L h
    rw [e x List.mem_cons_self, sumL_congr L (fun y hy => e y (List.mem_cons_of_mem _ hy))]
/-- one state changed -/
theorem sumL_upd {g h : Nat × Nat → Nat} {y : Nat × Nat} : ∀ L, L.Nodup → y ∈ L → (∀ x, x ∈ L → ¬ x = y → g x = h x) → sumL L g + h y = sumL L h + g y
  | [], _, hm, _ => by cases hm
  | x :: L, hn, hm, e => by
    have hn2 := List.nodup_cons.mp hn
    show g x + sumL L g + h y = h x + sumL L h + g y
    by_cases c : x = y
    · subst c
      rw [sumL_congr L (fun z hz => e z (List.mem_cons_of_mem _ hz) (fun q => hn2.1 (q ▸ hz)))]
      omega
    · have hm2 : y ∈ L := by
        rcases List.mem_cons.mp hm with z | z
        · exact absurd z.symm c
        · exact z
      have ih := sumL_upd L hn2.2 hm2 (fun z hz hq => e z (List.mem_cons_of_mem _ hz) hq)
      rw [e x List.mem_cons_self c]
      omega
/-- the sets of a stay, in the order in which they came -/
def Lf (L : List (Nat × Nat)) (a : Nat) : List (Nat × Nat) := L.filter (fun x => decide (x.1 = a))
theorem sumL_f {a : Nat} {g : Nat × Nat → Nat} : ∀ L, sumL (Lf L a) g = sumL L (fun x => if x.1 = a then g x else 0)
  | [] => rfl
  | x :: L => by
    unfold Lf
    rw [sumL_cons, List.filter_cons]
    by_cases c : x.1 = a
    · rw [if_pos (decide_eq_true c), if_pos c, sumL_cons]
      have := sumL_f (a := a) (g := g) L
      unfold Lf at this
      rw [this]
    · rw [if_neg (by rw [decide_eq_false c]; decide), if_neg c, Nat.zero_add]
      exact sumL_f L
theorem Lf_app {L : List (Nat × Nat)} {a : Nat} {y : Nat × Nat} : Lf (L ++ [y]) a = Lf L a ++ (if y.1 = a then [y] else []) := by
  unfold Lf
  rw [List.filter_append]
  congr 1
  by_cases c : y.1 = a
  · rw [if_pos c, List.filter_cons, if_pos (decide_eq_true c)]
    rfl
  · rw [if_neg c, List.filter_cons, if_neg (by rw [decide_eq_false c]; decide)]
    rfl
theorem sub_len {α : Type} [DecidableEq α] : ∀ (L M : List α), L.Nodup → (∀ x, x ∈ L → x ∈ M) → L.length ≤ M.length
  | [], _, _, _ => Nat.zero_le _
  | a :: L, M, hn, hs => by
    have hn2 := List.nodup_cons.mp hn
    have ha := hs a List.mem_cons_self
    have ih := sub_len L (M.erase a) hn2.2 (fun x hx => (List.mem_erase_of_ne (show x ≠ a from fun e => hn2.1 (by rw [← e]; exact hx))).mpr (hs x (List.mem_cons_of_mem _ hx)))
    rw [List.length_erase_of_mem ha] at ih
    have : 0 < M.length := List.length_pos_of_mem ha
    show L.length + 1 ≤ M.length
    omega
/-! counts that are cut at a bound -/
theorem sat {C x w m v : Nat} : min C (x + min C (w + m) * v) = min C (x + w * v + m * v) := by
  by_cases c : w + m ≤ C
  · rw [show min C (w + m) = w + m by omega, Nat.add_mul]
    congr 1
    omega
  · rw [show min C (w + m) = C by omega]
    cases v with
    | zero => rw [Nat.mul_zero, Nat.mul_zero, Nat.mul_zero]
    | succ v =>
      have h1 : C ≤ C * (v + 1) := Nat.le_mul_of_pos_right C (by omega)
      have h2 : (w + m) * (v + 1) = w * (v + 1) + m * (v + 1) := Nat.add_mul _ _ _
      have h3 : w + m ≤ (w + m) * (v + 1) := Nat.le_mul_of_pos_right _ (by omega)
      omega
/-! where a state's ways are counted -/
def ixN (x : Nat × Nat) : Nat := x.1 * 256 + (x.2 / 2 ^ (x.1 + 1)) * 2 ^ x.1 + x.2 % 2 ^ x.1
def uix (i : Nat) : Nat × Nat := (i / 256, (i % 256) / 2 ^ (i / 256) * 2 ^ (i / 256 + 1) + 2 ^ (i / 256) + (i % 256) % 2 ^ (i / 256))
def ixC (a S : Nat) : Bool := !S.testBit a || (decide (rIx (nI a) (nI S) = nI (ixN (a, S))) && decide (ixN (a, S) < 2304) && decide (uix (ixN (a, S)) = (a, S)))
theorem ixC_all : (List.range 9).all (fun a => (List.range 512).all (fun S => ixC a S)) = true := by decide +kernel
theorem ix_ok {a S : Nat} (ha : a < 9) (hS : S < 512) (h : S.testBit a = true) : rIx (nI a) (nI S) = nI (ixN (a, S)) ∧ ixN (a, S) < 2304 ∧ uix (ixN (a, S)) = (a, S) := by
  have h1 := List.all_eq_true.mp ixC_all a (List.mem_range.mpr ha)
  have h2 := List.all_eq_true.mp h1 S (List.mem_range.mpr hS)
  unfold ixC at h2
  rw [h, Bool.not_true, Bool.false_or] at h2
  simp only [Bool.and_eq_true, decide_eq_true_eq] at h2
  exact ⟨h2.1.1, h2.1.2, h2.2⟩
def orC (b S : Nat) : Bool := decide (nI S ||| ((1 : Int32) <<< (nI b &&& 31)) = nI (S ||| 2 ^ b)) && (decide (bitI (nI b) (nI S) = 0) == !S.testBit b) && decide ((1 : Int32) <<< (nI b &&& 31) = nI (2 ^ b))
theorem orC_all : (List.range 9).all (fun b => (List.range 512).all (fun S => orC b S)) = true := by decide +kernel
theorem or_ok {b S : Nat} (hb : b < 9) (hS : S < 512) : nI S ||| ((1 : Int32) <<< (nI b &&& 31)) = nI (S ||| 2 ^ b) ∧ (bitI (nI b) (nI S) = 0 ↔ S.testBit b = false) ∧ (1 : Int32) <<< (nI b &&& 31) = nI (2 ^ b) := by
  have h1 := List.all_eq_true.mp orC_all b (List.mem_range.mpr hb)
  have h2 := List.all_eq_true.mp h1 S (List.mem_range.mpr hS)
  unfold orC at h2
  simp only [Bool.and_eq_true, decide_eq_true_eq] at h2
  refine ⟨h2.1.1, ?_, h2.2⟩
  have h3 := eq_of_beq h2.1.2
  constructor
  · intro z
    rw [decide_eq_true z] at h3
    cases e : S.testBit b with
    | false => rfl
    | true => rw [e] at h3; cases h3
  · intro z
    rw [z] at h3
    exact of_decide_eq_true h3
def okS (u0 a S : Nat) : Prop := pcN 12 S ≤ 5 ∧ u0 < 9 ∧ S.testBit u0 = true ∧ (a = u0 → S = 2 ^ u0)
def allS (u0 a : Nat) : List (Nat × Nat) := ((List.range 512).filter (fun S => S.testBit a && decide (pcN 12 S ≤ 5) && S.testBit u0 && (!decide (a = u0) || decide (S = 2 ^ u0)))).map (fun S => (a, S))
theorem allS_len : (List.range 9).all (fun u0 => (List.range 9).all (fun a => decide ((allS u0 a).length ≤ 64))) = true := by decide +kernel
theorem allS_le {u0 a : Nat} (h0 : u0 < 9) (h : a < 9) : (allS u0 a).length ≤ 64 := of_decide_eq_true (List.all_eq_true.mp (List.all_eq_true.mp allS_len u0 (List.mem_range.mpr h0)) a (List.mem_range.mpr h))
