/-! texts: a parser that stands for both -/
abbrev PS : Type := Nat × Bool × List Nat
def nxP (T : Nat → Nat) (m : Nat) (s : PS) : Nat := bif s.2.1 then 999 else if s.1 < m then T s.1 else 999
def badP (s : PS) : PS := (s.1, true, s.2.2)
def advP (s : PS) : PS := (s.1 + 1, s.2.1, s.2.2)
def addP (t : Nat) (s : PS) : PS := bif s.2.1 then s else (s.1, false, s.2.2 ++ [t])
def opE (x : Nat) : Nat := if x = 124 then 20000 else 0
def opA (x : Nat) : Nat := if x = 38 then 20001 else 0
def opC (x : Nat) : Nat := if x = 60 then 20002 else if x = 61 then 20003 else if x = 62 then 20004 else 0
def opS (x : Nat) : Nat := if x = 43 then 20005 else if x = 45 then 20006 else 0
def opP (x : Nat) : Nat := if x = 42 then 20007 else if x = 47 then 20008 else if x = 37 then 20009 else 0
def lpF (T : Nat → Nat) (m : Nat) (o : Nat → Nat) (sub : PS → PS) : Nat → PS → PS
  | 0, s => s
  | n + 1, s => if o (nxP T m s) = 0 then s else lpF T m o sub n (addP (o (nxP T m s)) (sub (advP s)))
def prodF (T : Nat → Nat) (m : Nat) (rk : PS → PS) (s : PS) : PS := lpF T m opP rk 50 (rk s)
def sumF (T : Nat → Nat) (m : Nat) (rk : PS → PS) (s : PS) : PS := lpF T m opS (prodF T m rk) 50 (prodF T m rk s)
def cmpF (T : Nat → Nat) (m : Nat) (rk : PS → PS) (s : PS) : PS := lpF T m opC (sumF T m rk) 1 (sumF T m rk s)
def allF (T : Nat → Nat) (m : Nat) (rk : PS → PS) (s : PS) : PS := lpF T m opA (cmpF T m rk) 50 (cmpF T m rk s)
def eitF (T : Nat → Nat) (m : Nat) (rk : PS → PS) (s : PS) : PS := lpF T m opE (allF T m rk) 50 (allF T m rk s)
def nmF (T : Nat → Nat) (m : Nat) : Nat → Nat → PS → Nat × PS
  | 0, v, s => (v, s)
  | k + 1, v, s => if 48 ≤ nxP T m s ∧ nxP T m s ≤ 57 then nmF T m k (10 * v + nxP T m s - 48) (advP s) else (v, s)
def nameN (x : Nat) : Nat := if x = 97 then 0 else if x = 98 then 1 else if x = 99 then 2 else if x = 115 then 3 else if x = 112 then 4 else if x = 113 then 5 else if x = 114 then 6 else if x = 100 then 7 else if x = 119 then 8 else if x = 105 then 9 else 99
def cloP (T : Nat → Nat) (m : Nat) (s : PS) : PS := if nxP T m s = 41 then advP s else badP s
def numP (T : Nat → Nat) (m : Nat) (s : PS) : PS := addP (nmF T m 4 0 s).1 (nmF T m 4 0 s).2
def oneB (T : Nat → Nat) (m nm : Nat) (up br : PS → PS) (s : PS) : PS :=
  if nxP T m s = 33 then up s else if nxP T m s = 40 then br s else if 48 ≤ nxP T m s ∧ nxP T m s ≤ 57 then numP T m s else if nameN (nxP T m s) < nm then advP (addP (10000 + nameN (nxP T m s)) s) else badP s
def oneF (T : Nat → Nat) (m nm : Nat) : Nat → PS → PS
  | 0 => oneB T m nm badP badP
  | k + 1 => oneB T m nm (fun s => addP 20010 (oneF T m nm k (advP s))) (fun s => cloP T m (eitF T m (oneF T m nm k) (advP s)))
/-! what a run of tokens works out -/
def doneV (t : Nat) (a b : Int32) : Int32 :=
  if t = 20000 then (if a = 0 then (if b = 0 then 0 else 1) else 1) else if t = 20001 then (if a = 0 then 0 else if b = 0 then 0 else 1) else if t = 20002 then (if b ≤ a then 0 else 1) else if t = 20003 then (if a = b then 1 else 0) else if t = 20004 then (if a ≤ b then 0 else 1) else if t = 20005 then a + b else if t = 20006 then a - b else if t = 20007 then a * b else if t = 20008 then (if b = 0 then 0 else a / b) else (if b = 0 then 0 else a - a / b * b)
def stepV (val : Nat → Int32) (t : Nat) (st : List Int32) : Option (List Int32) :=
  if t < 10000 then some (nI t :: st) else if t < 20000 then some (val (t - 10000) :: st) else if t = 20010 then (match st with | a :: r => some ((if a = 0 then 1 else 0) :: r) | [] => none) else (match st with | b :: a :: r => some (doneV t a b :: r) | _ => none)
def runV (val : Nat → Int32) : List Nat → List Int32 → Option (List Int32)
  | [], st => some st
  | t :: e, st => (match stepV val t st with | none => none | some st' => runV val e st')
def tokO (nm t : Nat) : Prop := t < 10000 ∨ (10000 ≤ t ∧ t < 10000 + nm) ∨ (20000 ≤ t ∧ t ≤ 20010)
def EV (nm : Nat) (e : List Nat) : Prop := (∀ t, t ∈ e → tokO nm t) ∧ ∀ val, ∃ v, ∀ st, runV val e st = some (v :: st)
theorem runV_app (val : Nat → Int32) (e2 : List Nat) : ∀ e1 st, runV val (e1 ++ e2) st = (match runV val e1 st with | none => none | some st' => runV val e2 st')
  | [], st => rfl
  | t :: e1, st => by
    show (match stepV val t st with | none => none | some st' => runV val (e1 ++ e2) st') = (match (match stepV val t st with | none => none | some st' => runV val e1 st') with | none => none | some st' => runV val e2 st')
    cases stepV val t st with
    | none => rfl
    | some st' => exact runV_app val e2 e1 st'
theorem EV.one {nm t : Nat} (h : t < 10000 ∨ (10000 ≤ t ∧ t < 10000 + nm)) (hn : nm ≤ 10) : EV nm [t] := by
  refine ⟨fun t' ht' => by rw [List.mem_singleton.mp ht']; rcases h with h | h; · exact Or.inl h
                           · exact Or.inr (Or.inl h), fun val => ?_⟩
  rcases h with h | h
  · refine ⟨nI t, fun st => ?_⟩
    show (match stepV val t st with | none => none | some st' => some st') = _
    unfold stepV
    rw [if_pos h]
  · refine ⟨val (t - 10000), fun st => ?_⟩
    show (match stepV val t st with | none => none | some st' => some st') = _
    unfold stepV
    rw [if_neg (by omega), if_pos (by omega)]
theorem EV.no {nm : Nat} {e : List Nat} (h : EV nm e) : EV nm (e ++ [20010]) := by
  refine ⟨fun t ht => ?_, fun val => ?_⟩
  · rcases List.mem_append.mp ht with z | z
    · exact h.1 t z
    · rw [List.mem_singleton.mp z]; exact Or.inr (Or.inr (by decide))
  · obtain ⟨v, hv⟩ := h.2 val
    refine ⟨if v = 0 then 1 else 0, fun st => ?_⟩
    rw [runV_app, hv]
    rfl
theorem EV.op {nm t : Nat} {e1 e2 : List Nat} (h1 : EV nm e1) (h2 : EV nm e2) (ht : 20000 ≤ t ∧ t ≤ 20009) : EV nm (e1 ++ (e2 ++ [t])) := by
  refine ⟨fun t' ht' => ?_, fun val => ?_⟩
  · rcases List.mem_append.mp ht' with z | z
    · exact h1.1 t' z
    · rcases List.mem_append.mp z with z | z
      · exact h2.1 t' z
      · rw [List.mem_singleton.mp z]; exact Or.inr (Or.inr (by omega))
  · obtain ⟨v1, hv1⟩ := h1.2 val
    obtain ⟨v2, hv2⟩ := h2.2 val
    refine ⟨doneV t v1 v2, fun st => ?_⟩
    rw [runV_app, hv1]
    dsimp only
    rw [runV_app, hv2]
    show (match stepV val t (v2 :: v1 :: st) with | none => none | some st' => some st') = _
    unfold stepV
    rw [if_neg (by omega), if_neg (by omega), if_neg (by omega)]
/-! what every part of the parser keeps -/
def okP (m : Nat) (s : PS) : Prop := s.1 ≤ m ∧ (s.2.1 = false → s.2.2.length ≤ s.1)
def GP (m nm : Nat) (F : PS → PS) : Prop := ∀ s, okP m s → (s.2.1 = true → F s = s) ∧ (s.2.1 = false → okP m (F s) ∧ s.1 ≤ (F s).1 ∧ ((F s).2.1 = false → s.1 < (F s).1 ∧ ∃ e, (F s).2.2 = s.2.2 ++ e ∧ e.length ≤ (F s).1 - s.1 ∧ EV nm e))
def binO (o : Nat → Nat) : Prop := ∀ x, o x ≠ 0 → 20000 ≤ o x ∧ o x ≤ 20009 ∧ x < 999
section PARSE
variable {T : Nat → Nat} {m nm : Nat}
theorem nx_lt {s : PS} (h : nxP T m s ≠ 999) : s.2.1 = false ∧ s.1 < m := by
  unfold nxP at h
  cases hw : s.2.1
  · rw [hw, cond_false] at h
    by_cases z : s.1 < m
    · exact ⟨rfl, z⟩
    · rw [if_neg z] at h; exact absurd rfl h
  · rw [hw, cond_true] at h; exact absurd rfl h
theorem nx_w {s : PS} (h : s.2.1 = true) : nxP T m s = 999 := by unfold nxP; rw [h]; rfl
theorem okP.adv {s : PS} (h : okP m s) (hx : nxP T m s ≠ 999) : okP m (advP s) ∧ (advP s).2.1 = false ∧ (advP s).2.2.length + 1 ≤ (advP s).1 := by
  obtain ⟨h1, h2⟩ := nx_lt hx
  have := h.2 h1
  refine ⟨⟨?_, fun _ => ?_⟩, h1, ?_⟩
  · show s.1 + 1 ≤ m; omega
  · show s.2.2.length ≤ s.1 + 1; omega
  · show s.2.2.length + 1 ≤ s.1 + 1; omega
theorem addP_w {t : Nat} {s : PS} (h : s.2.1 = true) : addP t s = s := by unfold addP; rw [h]; rfl
theorem addP_f {t : Nat} {s : PS} (h : s.2.1 = false) : addP t s = (s.1, false, s.2.2 ++ [t]) := by unfold addP; rw [h]; rfl
/-- one turn of a loop: a sign, what is behind it, and the sign's token -/
theorem turn {o : Nat → Nat} {sub : PS → PS} {s : PS} (hb : binO o) (hS : GP m nm sub) (hs : okP m s) (ho : o (nxP T m s) ≠ 0) : okP m (sub (advP s)) ∧ okP m (addP (o (nxP T m s)) (sub (advP s))) ∧ s.1 + 1 ≤ (addP (o (nxP T m s)) (sub (advP s))).1 ∧ ((sub (advP s)).2.1 = false → (sub (advP s)).2.2.length + 1 ≤ (sub (advP s)).1) ∧ ((addP (o (nxP T m s)) (sub (advP s))).2.1 = false → ∃ e, (addP (o (nxP T m s)) (sub (advP s))).2.2 = s.2.2 ++ e ∧ e.length ≤ (addP (o (nxP T m s)) (sub (advP s))).1 - s.1 ∧ ∀ e0, EV nm e0 → EV nm (e0 ++ e)) := by
  obtain ⟨b1, b2, b3⟩ := hb _ ho
  obtain ⟨a1, a2, a3⟩ := hs.adv (T := T) (show nxP T m s ≠ 999 by omega)
  obtain ⟨c1, c2, c3⟩ := (hS _ a1).2 a2
  have c2 : s.1 + 1 ≤ (sub (advP s)).1 := c2
  cases hw : (sub (advP s)).2.1
  · obtain ⟨d1, e, d2, d3, d4⟩ := c3 hw
    have d1 : s.1 + 1 < (sub (advP s)).1 := d1
    have d2 : (sub (advP s)).2.2 = s.2.2 ++ e := d2
    have d3 : e.length ≤ (sub (advP s)).1 - (s.1 + 1) := d3
    have hl : (sub (advP s)).2.2.length = s.2.2.length + e.length := by rw [d2, List.length_append]
    have a3 : s.2.2.length + 1 ≤ s.1 + 1 := a3
    rw [addP_f hw]
    refine ⟨c1, ⟨c1.1, fun _ => ?_⟩, c2, fun _ => by omega, fun _ => ⟨e ++ [o (nxP T m s)], ?_, ?_, fun e0 h0 => h0.op d4 ⟨b1, b2⟩⟩⟩
    · show ((sub (advP s)).2.2 ++ [o (nxP T m s)]).length ≤ _
      rw [List.length_append, List.length_singleton]
      show _ ≤ (sub (advP s)).1
      omega
    · show (sub (advP s)).2.2 ++ [o (nxP T m s)] = _
      rw [d2, List.append_assoc]
    · rw [List.length_append, List.length_singleton]
      show _ ≤ (sub (advP s)).1 - s.1
      omega
  · rw [addP_w hw]
    exact ⟨c1, c1, c2, fun z => absurd z (by decide), fun z => absurd (hw.symm.trans z) (by decide)⟩
theorem lp_ok {o : Nat → Nat} {sub : PS → PS} (hb : binO o) (hS : GP m nm sub) : ∀ (n : Nat) (s : PS), okP m s → (s.2.1 = true → lpF T m o sub n s = s) ∧ (s.2.1 = false → okP m (lpF T m o sub n s) ∧ s.1 ≤ (lpF T m o sub n s).1 ∧ ((lpF T m o sub n s).2.1 = false → ∃ e, (lpF T m o sub n s).2.2 = s.2.2 ++ e ∧ e.length ≤ (lpF T m o sub n s).1 - s.1 ∧ ∀ e0, EV nm e0 → EV nm (e0 ++ e)))
  | 0, s, hs => ⟨fun _ => rfl, fun h => ⟨hs, Nat.le_refl _, fun _ => ⟨[], (List.append_nil _).symm, Nat.zero_le _, fun e0 h0 => by rw [List.append_nil]; exact h0⟩⟩⟩
  | n + 1, s, hs => by
    unfold lpF
    by_cases ho : o (nxP T m s) = 0
    · rw [if_pos ho]
      exact ⟨fun _ => rfl, fun h => ⟨hs, Nat.le_refl _, fun _ => ⟨[], (List.append_nil _).symm, Nat.zero_le _, fun e0 h0 => by rw [List.append_nil]; exact h0⟩⟩⟩
    · rw [if_neg ho]
      obtain ⟨t0, t1, t2, -, t3⟩ := turn hb hS hs ho
      have hx : nxP T m s ≠ 999 := by have := (hb _ ho).2.2; omega
      obtain ⟨i1, i2⟩ := lp_ok hb hS n _ t1
      refine ⟨fun h => absurd (nx_w h) hx, fun _ => ?_⟩
      cases hw : (addP (o (nxP T m s)) (sub (advP s))).2.1
      · obtain ⟨j1, j2, j3⟩ := i2 hw
        refine ⟨j1, by omega, fun z => ?_⟩
        obtain ⟨e1, k1, k2, k3⟩ := t3 hw
        obtain ⟨e2, l1, l2, l3⟩ := j3 z
        refine ⟨e1 ++ e2, by rw [l1, k1, List.append_assoc], by rw [List.length_append]; omega, fun e0 h0 => by rw [← List.append_assoc]; exact l3 _ (k3 _ h0)⟩
      · rw [i1 hw]
        exact ⟨t1, by omega, fun z => absurd (hw.symm.trans z) (by decide)⟩
theorem GP.lp {o : Nat → Nat} {F sub : PS → PS} {n : Nat} (hb : binO o) (hF : GP m nm F) (hS : GP m nm sub) : GP m nm (fun s => lpF T m o sub n (F s)) := by
  intro s hs
  obtain ⟨a1, a2⟩ := hF s hs
  refine ⟨fun h => ?_, fun h => ?_⟩
  · show lpF T m o sub n (F s) = s
    rw [a1 h]
    exact (lp_ok hb hS n s hs).1 h
  · obtain ⟨b1, b2, b3⟩ := a2 h
    show okP m (lpF T m o sub n (F s)) ∧ s.1 ≤ (lpF T m o sub n (F s)).1 ∧ _
    obtain ⟨c1, c2⟩ := lp_ok (T := T) (o := o) hb hS n (F s) b1
    cases hw : (F s).2.1
    · obtain ⟨d1, d2, d3⟩ := c2 hw
      refine ⟨d1, by omega, fun z => ?_⟩
      obtain ⟨e1, e, e2, e3, e4⟩ := b3 hw
      obtain ⟨f, f1, f2, f3⟩ := d3 z
      refine ⟨show s.1 < (lpF T m o sub n (F s)).1 by omega, e ++ f, ?_, ?_, f3 e e4⟩
      · show (lpF T m o sub n (F s)).2.2 = _
        rw [f1, e2, List.append_assoc]
      · rw [List.length_append]
        show _ ≤ (lpF T m o sub n (F s)).1 - s.1
        omega
    · have := c1 hw
      rw [this]
      refine ⟨b1, b2, fun z => ?_⟩
      have z : (lpF T m o sub n (F s)).2.1 = false := z
      rw [this, hw] at z; cases z
theorem bE : binO opE := fun x h => by
  unfold opE at h ⊢
  by_cases z1 : x = 124
  · rw [if_pos z1]; omega
  · rw [if_neg z1] at h; exact absurd rfl h
theorem bA : binO opA := fun x h => by
  unfold opA at h ⊢
  by_cases z1 : x = 38
  · rw [if_pos z1]; omega
  · rw [if_neg z1] at h; exact absurd rfl h
theorem bC : binO opC := fun x h => by
  unfold opC at h ⊢
  by_cases z1 : x = 60
  · rw [if_pos z1]; omega
  · by_cases z2 : x = 61
    · rw [if_neg z1, if_pos z2]; omega
    · by_cases z3 : x = 62
      · rw [if_neg z1, if_neg z2, if_pos z3]; omega
      · rw [if_neg z1, if_neg z2, if_neg z3] at h; exact absurd rfl h
theorem bS : binO opS := fun x h => by
  unfold opS at h ⊢
  by_cases z1 : x = 43
  · rw [if_pos z1]; omega
  · by_cases z2 : x = 45
    · rw [if_neg z1, if_pos z2]; omega
    · rw [if_neg z1, if_neg z2] at h; exact absurd rfl h
theorem bPr : binO opP := fun x h => by
  unfold opP at h ⊢
  by_cases z1 : x = 42
  · rw [if_pos z1]; omega
  · by_cases z2 : x = 47
    · rw [if_neg z1, if_pos z2]; omega
    · by_cases z3 : x = 37
      · rw [if_neg z1, if_neg z2, if_pos z3]; omega
      · rw [if_neg z1, if_neg z2, if_neg z3] at h; exact absurd rfl h
theorem gProd {rk : PS → PS} (h : GP m nm rk) : GP m nm (prodF T m rk) := GP.lp bPr h h
theorem gSum {rk : PS → PS} (h : GP m nm rk) : GP m nm (sumF T m rk) := GP.lp bS (gProd h) (gProd h)
theorem gCmp {rk : PS → PS} (h : GP m nm rk) : GP m nm (cmpF T m rk) := GP.lp bC (gSum h) (gSum h)
theorem gAll {rk : PS → PS} (h : GP m nm rk) : GP m nm (allF T m rk) := GP.lp bA (gCmp h) (gCmp h)
theorem gEit {rk : PS → PS} (h : GP m nm rk) : GP m nm (eitF T m rk) := GP.lp bE (gAll h) (gAll h)
/-- digits -/
theorem nm_ok : ∀ (k v : Nat) (s : PS), okP m s → s.2.1 = false → (nmF T m k v s).2.2 = s.2 ∧ s.1 ≤ (nmF T m k v s).2.1 ∧ (nmF T m k v s).2.1 ≤ m ∧ (0 < k → 48 ≤ nxP T m s ∧ nxP T m s ≤ 57 → s.1 < (nmF T m k v s).2.1) ∧ (nmF T m k v s).1 < (v + 1) * 10 ^ k
  | 0, v, s, hs, _ => ⟨rfl, Nat.le_refl _, hs.1, fun z => absurd z (Nat.lt_irrefl _), by rw [Nat.pow_zero]; show v < _; omega⟩
  | k + 1, v, s, hs, hw => by
    unfold nmF
    by_cases z : 48 ≤ nxP T m s ∧ nxP T m s ≤ 57
    · rw [if_pos z]
      obtain ⟨a1, a2, -⟩ := hs.adv (T := T) (show nxP T m s ≠ 999 by omega)
      obtain ⟨b1, b2, b3, -, b5⟩ := nm_ok k (10 * v + nxP T m s - 48) (advP s) a1 a2
      have b2 : s.1 + 1 ≤ _ := b2
      refine ⟨b1, by omega, b3, fun _ _ => by omega, Nat.lt_of_lt_of_le b5 ?_⟩
      rw [Nat.pow_succ, Nat.mul_comm (10 ^ k) 10, ← Nat.mul_assoc]
      exact Nat.mul_le_mul_right _ (by omega)
    · rw [if_neg z]
      refine ⟨rfl, Nat.le_refl _, hs.1, fun _ y => absurd y z, ?_⟩
      show v < (v + 1) * 10 ^ (k + 1)
      have : 0 < 10 ^ (k + 1) := Nat.pow_pos (by decide)
      have := Nat.le_mul_of_pos_right (v + 1) this
      omega
theorem nameN_lt {x : Nat} (h : nameN x < 10) : x < 999 := by
  by_cases z : x < 999
  · exact z
  · exfalso
    unfold nameN at h
    rw [if_neg (by omega), if_neg (by omega), if_neg (by omega), if_neg (by omega), if_neg (by omega), if_neg (by omega), if_neg (by omega), if_neg (by omega), if_neg (by omega), if_neg (by omega)] at h
    omega
theorem num_ok {s : PS} (hs : okP m s) (hw : s.2.1 = false) (hd : 48 ≤ nxP T m s ∧ nxP T m s ≤ 57) : (numP T m s).2.1 = false ∧ (numP T m s).1 = (nmF T m 4 0 s).2.1 ∧ (numP T m s).2.2 = s.2.2 ++ [(nmF T m 4 0 s).1] ∧ s.1 < (numP T m s).1 ∧ (numP T m s).1 ≤ m ∧ (nmF T m 4 0 s).1 < 10000 := by
  obtain ⟨a1, a2, a3, a4, a5⟩ := nm_ok (T := T) 4 0 s hs hw
  have hw2 : (nmF T m 4 0 s).2.2.1 = false := by rw [a1]; exact hw
  unfold numP
  rw [addP_f hw2]
  refine ⟨rfl, rfl, ?_, a4 (by decide) hd, a3, by simpa using a5⟩
  show (nmF T m 4 0 s).2.2.2 ++ _ = _
  rw [a1]
theorem gOneB {up br : PS → PS} (hn : nm ≤ 10) (hu : ∀ s, okP m s → nxP T m s = 33 → okP m (up s) ∧ s.1 ≤ (up s).1 ∧ ((up s).2.1 = false → s.1 < (up s).1 ∧ ∃ e, (up s).2.2 = s.2.2 ++ e ∧ e.length ≤ (up s).1 - s.1 ∧ EV nm e)) (hbr : ∀ s, okP m s → nxP T m s = 40 → okP m (br s) ∧ s.1 ≤ (br s).1 ∧ ((br s).2.1 = false → s.1 < (br s).1 ∧ ∃ e, (br s).2.2 = s.2.2 ++ e ∧ e.length ≤ (br s).1 - s.1 ∧ EV nm e)) : GP m nm (oneB T m nm up br) := by
  intro s hs
  refine ⟨fun h => ?_, fun h => ?_⟩
  · unfold oneB
    rw [nx_w h, if_neg (by decide), if_neg (by decide), if_neg (by decide), if_neg (fun z => absurd (nameN_lt (x := 999) (by omega)) (by decide))]
    show (s.1, true, s.2.2) = s
    rw [← h]
  · unfold oneB
    by_cases z1 : nxP T m s = 33
    · rw [if_pos z1]; exact hu s hs z1
    · rw [if_neg z1]
      by_cases z2 : nxP T m s = 40
      · rw [if_pos z2]; exact hbr s hs z2
      · rw [if_neg z2]
        by_cases z3 : 48 ≤ nxP T m s ∧ nxP T m s ≤ 57
        · rw [if_pos z3]
          obtain ⟨a1, a2, a3, a4, a5, a6⟩ := num_ok hs h z3
          have hl := hs.2 h
          refine ⟨⟨a5, fun _ => ?_⟩, by omega, fun _ => ⟨a4, _, a3, ?_, EV.one (Or.inl a6) hn⟩⟩
          · rw [a3, List.length_append, List.length_singleton]; omega
          · rw [List.length_singleton]; omega
        · rw [if_neg z3]
          by_cases z4 : nameN (nxP T m s) < nm
          · rw [if_pos z4]
            have hx := nameN_lt (x := nxP T m s) (by omega)
            obtain ⟨-, hlt⟩ := nx_lt (T := T) (m := m) (s := s) (by omega)
            have hl := hs.2 h
            rw [addP_f h]
            refine ⟨⟨?_, fun _ => ?_⟩, ?_, fun _ => ⟨?_, [10000 + nameN (nxP T m s)], rfl, ?_, EV.one (Or.inr (by omega)) hn⟩⟩
            · show s.1 + 1 ≤ m; omega
            · show (s.2.2 ++ [10000 + nameN (nxP T m s)]).length ≤ s.1 + 1
              rw [List.length_append, List.length_singleton]; omega
            · show s.1 ≤ s.1 + 1; omega
            · show s.1 < s.1 + 1; omega
            · rw [List.length_singleton]; show 1 ≤ s.1 + 1 - s.1; omega
          · rw [if_neg z4]
            exact ⟨⟨hs.1, fun z => Bool.noConfusion z⟩, Nat.le_refl _, fun z => Bool.noConfusion z⟩
theorem gBad (s : PS) (hs : okP m s) : okP m (badP s) ∧ s.1 ≤ (badP s).1 ∧ ((badP s).2.1 = false → s.1 < (badP s).1 ∧ ∃ e, (badP s).2.2 = s.2.2 ++ e ∧ e.length ≤ (badP s).1 - s.1 ∧ EV nm e) := ⟨⟨hs.1, fun z => Bool.noConfusion z⟩, Nat.le_refl _, fun z => Bool.noConfusion z⟩
theorem gUp {F : PS → PS} (hF : GP m nm F) (s : PS) (hs : okP m s) (hx : nxP T m s ≠ 999) : okP m (addP 20010 (F (advP s))) ∧ s.1 ≤ (addP 20010 (F (advP s))).1 ∧ ((addP 20010 (F (advP s))).2.1 = false → s.1 < (addP 20010 (F (advP s))).1 ∧ ∃ e, (addP 20010 (F (advP s))).2.2 = s.2.2 ++ e ∧ e.length ≤ (addP 20010 (F (advP s))).1 - s.1 ∧ EV nm e) := by
  obtain ⟨a1, a2, a3⟩ := hs.adv hx
  obtain ⟨c1, c2, c3⟩ := (hF _ a1).2 a2
  generalize F (advP s) = S at c1 c2 c3
  have c2 : s.1 + 1 ≤ S.1 := c2
  cases hw : S.2.1
  · obtain ⟨d1, e, d2, d3, d4⟩ := c3 hw
    have d1 : s.1 + 1 < S.1 := d1
    have d2 : S.2.2 = s.2.2 ++ e := d2
    have d3 : e.length ≤ S.1 - (s.1 + 1) := d3
    have a3 : s.2.2.length + 1 ≤ s.1 + 1 := a3
    have hl : S.2.2.length = s.2.2.length + e.length := by rw [d2, List.length_append]
    rw [addP_f hw]
    refine ⟨⟨c1.1, fun _ => ?_⟩, by show s.1 ≤ S.1; omega, fun _ => ⟨by show s.1 < S.1; omega, e ++ [20010], ?_, ?_, d4.no⟩⟩
    · show (S.2.2 ++ [20010]).length ≤ S.1
      rw [List.length_append, List.length_singleton]; omega
    · show S.2.2 ++ [20010] = _
      rw [d2, List.append_assoc]
    · rw [List.length_append, List.length_singleton]
      show _ ≤ S.1 - s.1
      omega
  · rw [addP_w hw]
    exact ⟨c1, by omega, fun z => absurd (hw.symm.trans z) (by decide)⟩
theorem gClo {F : PS → PS} (hF : GP m nm F) (s : PS) (hs : okP m s) (hx : nxP T m s ≠ 999) : okP m (cloP T m (F (advP s))) ∧ s.1 ≤ (cloP T m (F (advP s))).1 ∧ ((cloP T m (F (advP s))).2.1 = false → s.1 < (cloP T m (F (advP s))).1 ∧ ∃ e, (cloP T m (F (advP s))).2.2 = s.2.2 ++ e ∧ e.length ≤ (cloP T m (F (advP s))).1 - s.1 ∧ EV nm e) := by
  obtain ⟨a1, a2, a3⟩ := hs.adv hx
  obtain ⟨c1, c2, c3⟩ := (hF _ a1).2 a2
  generalize F (advP s) = S at c1 c2 c3
  have c2 : s.1 + 1 ≤ S.1 := c2
  unfold cloP
  by_cases z : nxP T m S = 41
  · rw [if_pos z]
    obtain ⟨hw, hlt⟩ := nx_lt (T := T) (m := m) (s := S) (by omega)
    obtain ⟨d1, e, d2, d3, d4⟩ := c3 hw
    have d2 : S.2.2 = s.2.2 ++ e := d2
    have d3 : e.length ≤ S.1 - (s.1 + 1) := d3
    have hl := c1.2 hw
    refine ⟨⟨by show S.1 + 1 ≤ m; omega, fun _ => ?_⟩, by show s.1 ≤ S.1 + 1; omega, fun _ => ⟨by show s.1 < S.1 + 1; omega, e, d2, ?_, d4⟩⟩
    · show S.2.2.length ≤ S.1 + 1
      omega
    · show e.length ≤ S.1 + 1 - s.1
      omega
  · rw [if_neg z]
    exact ⟨⟨c1.1, fun z => Bool.noConfusion z⟩, by show s.1 ≤ S.1; omega, fun z => Bool.noConfusion z⟩
theorem gOne (hn : nm ≤ 10) : ∀ k, GP m nm (oneF T m nm k)
  | 0 => gOneB hn (fun s hs _ => gBad s hs) (fun s hs _ => gBad s hs)
  | k + 1 => gOneB hn (fun s hs hx => gUp (gOne hn k) s hs (T := T) (by omega)) (fun s hs hx => gClo (gEit (gOne hn k)) s hs (by omega))
/-- a loop of fifty turns has come to its end -/
theorem lpG {σ ρ : Type} {B : σ → Option (σ ⊕ ρ)} {o : Nat → Nat} {sub : PS → PS} (Rl : Nat → PS → σ → Prop) (Q : PS → ρ → Prop) (N : Nat) (out : ∀ k s z, k ≤ N → Rl k s z → (o (nxP T m s) = 0 ∨ k = N) → ∃ r, B z = some (.inr r) ∧ Q s r) (step : ∀ k s z, k < N → Rl k s z → o (nxP T m s) ≠ 0 → ∃ z', B z = some (.inl z') ∧ Rl (k + 1) (addP (o (nxP T m s)) (sub (advP s))) z') : ∀ (n k f : Nat) (s : PS) (z : σ), k + n = N → n < f → Rl k s z → ∃ r, loopN B f z = some r ∧ Q (lpF T m o sub n s) r
  | 0, k, f, s, z, hk, hf, hR => by
    obtain ⟨r, h1, h2⟩ := out k s z (by omega) hR (Or.inr (by omega))
    exact ⟨r, loopN_out (by omega) h1, h2⟩
  | n + 1, k, f, s, z, hk, hf, hR => by
    by_cases ho : o (nxP T m s) = 0
    · obtain ⟨r, h1, h2⟩ := out k s z (by omega) hR (Or.inl ho)
      refine ⟨r, loopN_out (by omega) h1, ?_⟩
      unfold lpF
      rw [if_pos ho]
      exact h2
    · obtain ⟨z', h1, h2⟩ := step k s z (by omega) hR ho
      rw [loopN_go (by omega) h1]
      unfold lpF
      rw [if_neg ho]
      exact lpG Rl Q N out step n (k + 1) (f - 1) _ z' (by omega) (by omega) h2
end PARSE
