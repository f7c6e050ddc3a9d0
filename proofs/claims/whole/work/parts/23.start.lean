/-! a run that never looks at the script is the same for every script -/
def XZ : AX := (0, fun _ => 0)
def xfree (ins : Instr) (st : List Value) : Bool := match ins, st with
  | .arraylength, .ref k :: _ => !(Nat.beq k 999)
  | .iaload, .int _ :: .ref k :: _ => !(Nat.beq k 999)
  | _, _ => true
def astepS (ins : Instr) (len a b pc : Nat) (ls : AL) (st : List Value) (n : Nat) (μ : AM) : Option AR := bif xfree ins st then astep XZ ins len a b pc ls st n μ else none
theorem ial_ne {X Y : AX} {n k : Nat} (h : ¬ k = 999) : ial X n k = ial Y n k := by
  unfold ial
  rw [beqf h]
  rfl
theorem ird_ne {X Y : AX} {μ : AM} {k j : Nat} (h : ¬ k = 999) : ird X μ k j = ird Y μ k j := by
  unfold ird
  rw [beqf h]
  rfl
theorem acpy_ne {X Y : AX} {μ : AM} {sk sp dk dp m : Nat} (h : sk < 999) : acpy μ X sk sp dk dp m = acpy μ Y sk sp dk dp m := by
  funext k j
  unfold acpy
  rw [ird_ne (X := X) (Y := Y) (by omega)]
theorem astepS_ok {X : AX} {ins : Instr} {len a b pc : Nat} {ls : AL} {st : List Value} {n : Nat} {μ : AM} {r : AR} (h : astepS ins len a b pc ls st n μ = some r) : astep X ins len a b pc ls st n μ = some r := by
  unfold astepS at h
  cases hx : xfree ins st with
  | false => rw [hx] at h; cases h
  | true =>
    rw [hx, cond_true] at h
    cases ins
    case arraylength =>
      simp only [astep] at h ⊢
      split at h
      · rename_i k r'
        have hk : ¬ k = 999 := fun e => by subst e; cases hx
        rw [ial_ne hk (Y := XZ)]
        exact h
      · cases h
    case iaload =>
      simp only [astep] at h ⊢
      split at h
      · rename_i x k r'
        have hk : ¬ k = 999 := fun e => by subst e; cases hx
        rw [ial_ne hk (Y := XZ), ird_ne hk (Y := XZ)]
        exact h
      · cases h
    all_goals exact h
def axBS (rc : Nat → Nat → Nat → AL → List Value → Nat → AM → Option (Option Value × Nat × AM)) (d i pc : Nat) (ls : AL) (st : List Value) (n : Nat) (μ : AM) : Option (Option Value × Nat × AM) := match it i pc with
    | none => none
    | some (ins, len, a, b) => bif isend ins then (match aend ins (mR i) st with | some v => some (v, n, μ) | none => none)
      else bif Nat.beq (acall ins) 0 then (match astepS ins len a b pc (amk i pc ls) st n μ with
        | some (pc', ls', st', n', μ') => rc d i pc' ls' st' n' μ'
        | none => none)
      else bif Nat.beq a 1000 then (match st with
        | .ref _ :: r => bif Nat.beq (acall ins) 3 && Nat.blt 0 d && arest r then rc d i (pc + 3) (amk i pc ls) r n μ else none
        | _ => none)
      else bif Nat.beq a 1001 then (match st with
        | .int m :: .int dp :: .ref dk :: .int sp :: .ref sk :: r => (match ial XZ n sk with
          | some L => bif Nat.beq (acall ins) 2 && Nat.blt 0 d && arest r && Nat.blt dk 999 && Nat.blt sk 999 && Nat.blt dk n && Nat.beq (kd dk) 0 && !(decide (m < 0)) && !(decide (sp < 0)) && !(decide (dp < 0)) && Nat.ble (sp.toNatClampNeg + m.toNatClampNeg) L && Nat.ble (dp.toNatClampNeg + m.toNatClampNeg) (ln dk)
              then rc d i (pc + 3) (amk i pc ls) r n (acpy μ XZ sk sp.toNatClampNeg dk dp.toNatClampNeg m.toNatClampNeg) else none
          | none => none)
        | _ => none)
      else bif Nat.beq a 1002 then (match st with
        | .int y :: .int x :: r => bif Nat.beq (acall ins) 2 && Nat.blt 0 d && arest r then rc d i (pc + 3) (amk i pc ls) (.int (bif decide (x < y) then y else x) :: r) n μ else none
        | _ => none)
      else bif Nat.beq a 1003 then (match st with
        | .int y :: .int x :: r => bif Nat.beq (acall ins) 2 && Nat.blt 0 d && arest r then rc d i (pc + 3) (amk i pc ls) (.int (bif decide (y < x) then y else x) :: r) n μ else none
        | _ => none)
      else match d with
        | 0 => none
        | d' + 1 => (match atake (bif Nat.beq (acall ins) 2 then mP a else mP a + 1) st [] with
          | none => none
          | some (as, r) => bif arest r && arecv (acall ins) n a as && Nat.ble (aent as).length (mL a) then (match rc d' a 0 (apad as (mL a)) [] n μ with
            | none => none
            | some (v, n', μ') => rc d i (pc + 3) (amk i pc ls) (v.toList ++ r) n' μ') else none)
def axS : Nat → Nat → Nat → Nat → AL → List Value → Nat → AM → Option (Option Value × Nat × AM)
  | 0, _, _, _, _, _, _, _ => none
  | f + 1, d, i, pc, ls, st, n, μ => axBS (axS f) d i pc ls st n μ
theorem axBS_ok {X : AX} {rc rc' : Nat → Nat → Nat → AL → List Value → Nat → AM → Option (Option Value × Nat × AM)} (hr : ∀ d i pc ls st n μ r, rc d i pc ls st n μ = some r → rc' d i pc ls st n μ = some r) {d i pc : Nat} {ls : AL} {st : List Value} {n : Nat} {μ : AM} {r : Option Value × Nat × AM} (h : axBS rc d i pc ls st n μ = some r) : axB X rc' d i pc ls st n μ = some r := by
  unfold axBS at h
  unfold axB
  cases hit : it i pc with
  | none => rw [hit] at h; cases h
  | some q =>
    obtain ⟨ins, len, a, b⟩ := q
    rw [hit] at h
    dsimp only at h ⊢
    cases he : isend ins with
    | true => rw [he] at h; exact h
    | false =>
      rw [he, cond_false] at h
      rw [cond_false]
      cases hc : Nat.beq (acall ins) 0 with
      | true =>
        rw [hc, cond_true] at h
        rw [cond_true]
        split at h
        · rename_i hs
          rw [astepS_ok hs]
          exact hr _ _ _ _ _ _ _ _ h
        · cases h
      | false =>
        rw [hc, cond_false] at h
        rw [cond_false]
        cases h0 : Nat.beq a 1000 with
        | true =>
          rw [h0, cond_true] at h
          rw [cond_true]
          split at h
          · rename_i k r'
            generalize hg : (Nat.beq (acall ins) 3 && Nat.blt 0 d && arest r') = g at h
            cases g with
            | false => cases h
            | true => (try dsimp only); (try rw [hg]); rw [cond_true]; exact hr _ _ _ _ _ _ _ _ h
          · cases h
        | false =>
          rw [h0, cond_false] at h
          rw [cond_false]
          cases h1 : Nat.beq a 1001 with
          | true =>
            rw [h1, cond_true] at h
            rw [cond_true]
            split at h
            · rename_i m' dp dk sp sk r'
              (try dsimp only)
              by_cases h9 : sk = 999
              · subst h9
                split at h
                · simp only [show Nat.blt 999 999 = false from rfl, Bool.and_false, Bool.false_and, cond_false] at h
                  cases h
                · cases h
              · rw [ial_ne h9 (Y := XZ)]
                split at h
                · rename_i L hL
                  (try rw [hL])
                  (try dsimp only)
                  simp only [cond] at h ⊢
                  split at h
                  · rename_i hg
                    simp only [Bool.and_eq_true] at hg
                    rw [acpy_ne (Y := XZ) (Nat.blt_eq.mp hg.1.1.1.1.1.1.1.2)]
                    exact hr _ _ _ _ _ _ _ _ h
                  · cases h
                · cases h
            · cases h
          | false =>
            rw [h1, cond_false] at h
            rw [cond_false]
            cases h2 : Nat.beq a 1002 with
            | true =>
              rw [h2, cond_true] at h
              rw [cond_true]
              split at h
              · rename_i y x r'
                generalize hg : (Nat.beq (acall ins) 2 && Nat.blt 0 d && arest r') = g at h
                cases g with
                | false => cases h
                | true => (try dsimp only); (try rw [hg]); rw [cond_true]; exact hr _ _ _ _ _ _ _ _ h
              · cases h
            | false =>
              rw [h2, cond_false] at h
              rw [cond_false]
              cases h3 : Nat.beq a 1003 with
              | true =>
                rw [h3, cond_true] at h
                rw [cond_true]
                split at h
                · rename_i y x r'
                  generalize hg : (Nat.beq (acall ins) 2 && Nat.blt 0 d && arest r') = g at h
                  cases g with
                  | false => cases h
                  | true => (try dsimp only); (try rw [hg]); rw [cond_true]; exact hr _ _ _ _ _ _ _ _ h
                · cases h
              | false =>
                rw [h3, cond_false] at h
                rw [cond_false]
                cases d with
                | zero => cases h
                | succ d' =>
                  dsimp only at h ⊢
                  cases ht : atake (bif Nat.beq (acall ins) 2 then mP a else mP a + 1) st [] with
                  | none => rw [ht] at h; cases h
                  | some q =>
                    obtain ⟨as, r'⟩ := q
                    rw [ht] at h
                    dsimp only at h ⊢
                    cases hg : (arest r' && arecv (acall ins) n a as && Nat.ble (aent as).length (mL a)) with
                    | false => rw [hg] at h; cases h
                    | true =>
                      rw [hg, cond_true] at h
                      rw [cond_true]
                      cases hcal : rc d' a 0 (apad as (mL a)) [] n μ with
                      | none => rw [hcal] at h; cases h
                      | some q2 =>
                        obtain ⟨v', n', μ'⟩ := q2
                        rw [hcal] at h
                        rw [hr _ _ _ _ _ _ _ _ hcal]
                        exact hr _ _ _ _ _ _ _ _ h
theorem axS_ok {X : AX} : ∀ (f d i pc : Nat) (ls : AL) (st : List Value) (n : Nat) (μ : AM) (r : Option Value × Nat × AM), axS f d i pc ls st n μ = some r → ax X f d i pc ls st n μ = some r := by
  intro f
  induction f with
  | zero => intro d i pc ls st n μ r h; cases h
  | succ f ih => intro d i pc ls st n μ r h; exact axBS_ok (rc := axS f) (rc' := ax X f) ih h
