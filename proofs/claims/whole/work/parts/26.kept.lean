/-! what kind of thing memory holds, and both kept by a whole run -/
def Ty (μ : AM) : Prop := ∀ k j, tgR k j = 5000 → ∃ x, μ k j = .int x
def isInT (t : FieldType) : Bool := match t with | .int => true | .boolean => true | _ => false
set_option maxRecDepth 100000 in
theorem tgYk : ∀ k, k < 98 → ∀ a, a < 10 → kd k = a + 3 → ∀ b, b < kN a → tgR k b = 5000 → isInT (kY a b) = true := by decide +kernel
set_option maxRecDepth 100000 in
theorem tgRow : ∀ k, k < 98 → kd k = 1 ∨ kd k = 2 → (rTl.getD k []).all (fun t => !(Nat.beq t 5000)) = true := by decide +kernel
theorem kd_lt {k x : Nat} (h : kd k = x) (hx : x < 99) : k < 98 := by
  by_cases e : k < 98
  · exact e
  · have := kd_big (k := k) (Nat.not_lt.mp e)
    omega
theorem tgRef {k : Nat} (h : kd k = 1 ∨ kd k = 2) (j : Nat) : ¬ tgR k j = 5000 := by
  have hk : k < 98 := by rcases h with h | h <;> exact kd_lt h (by decide)
  have hr := tgRow k hk h
  unfold tgR
  rw [List.getD_eq_getElem?_getD]
  cases e : (rTl.getD k [])[j]? with
  | none =>
    rcases h with h | h <;> rw [h] <;> decide
  | some t =>
    have := List.all_eq_true.mp hr t (List.mem_of_getElem? e)
    intro q
    rw [Option.getD_some] at q
    subst q
    simp at this
theorem Ty.int {μ : AM} {k j : Nat} {x : Int32} (h : Ty μ) : Ty (aset μ k j (.int x)) := by
  intro k' j' e
  rw [aset_eq]
  by_cases g : k' = k ∧ j' = j
  · rw [if_pos g]; exact ⟨x, rfl⟩
  · rw [if_neg g]; exact h k' j' e
theorem Ty.ref {μ : AM} {k j : Nat} {v : Value} (h : Ty μ) (hk : ¬ tgR k j = 5000) : Ty (aset μ k j v) := by
  intro k' j' e
  rw [aset_eq]
  by_cases g : k' = k ∧ j' = j
  · obtain ⟨rfl, rfl⟩ := g
    exact absurd e hk
  · rw [if_neg g]; exact h k' j' e
theorem Ty.row {n : Nat} {μ : AM} {r : Nat → Value} (h : Ty μ) (hr : ∀ j, tgR n j = 5000 → ∃ x, r j = .int x) : Ty (arow μ n r) := by
  intro k' j' e
  rw [arow_eq]
  by_cases g : k' = n
  · subst g
    rw [if_pos rfl]; exact hr j' e
  · rw [if_neg g]; exact h k' j' e
theorem dflInt {t : FieldType} (h : isInT t = true) : ∃ x, defaultValue t = .int x := by
  cases t <;> first | (cases h; done) | exact ⟨_, rfl⟩
theorem fokInt {t : FieldType} {v : Value} (h : isInT t = true) (hf : fok t v = true) : ∃ x, v = .int x := by
  cases t <;> first | (cases h; done) | (cases v <;> first | (cases hf; done) | exact ⟨_, rfl⟩)
theorem rowInt {n a : Nat} (e2 : kd n = a + 3) (ha : a < 10) : ∀ j, tgR n j = 5000 → ∃ x, defaultValue (kY a j) = .int x := by
  intro j hj
  by_cases hb : j < kN a
  · exact dflInt (tgYk n (kd_lt e2 (by omega)) a ha e2 j hb hj)
  · rw [kYout ha (Nat.not_lt.mp hb)]; exact ⟨_, rfl⟩
section TY
variable {X : AX} {pc pc' n n' : Nat} {ls ls' : AL} {st st' : List Value} {μ μ' : AM}
theorem Ty.step {ins : Instr} {len a b : Nat} (hF : Ty μ) (hs : astep X ins len a b pc ls st n μ = some (pc', ls', st', n', μ')) : Ty μ' := by
  cases ins
  case putfield ix =>
    simp only [astep] at hs
    split at hs
    · rename_i v k r
      generalize hg : (Nat.blt k 999 && Nat.blt k n && Nat.beq (kd k) (a + 3) && Nat.blt b (kN a) && fok (kY a b) v) = g at hs
      cases g with
      | false => cases hs
      | true =>
        simp only [cond_true] at hs
        simp only [Bool.and_eq_true] at hg
        obtain ⟨⟨⟨⟨g1, g2⟩, g3⟩, g4⟩, g5⟩ := hg
        cases hs
        have e3 : kd k = a + 3 := Nat.eq_of_beq_eq_true g3
        have hb : b < kN a := Nat.blt_eq.mp g4
        have ha : a < 10 := by
          by_cases h : a < 10
          · exact h
          · exfalso
            have : kN a = 0 := by
              unfold kN
              rw [List.getD_eq_getElem?_getD, List.getElem?_eq_none (by have : fNl.length = 10 := by decide +kernel
                                                                        omega)]
              rfl
            omega
        by_cases ht : tgR k b = 5000
        · obtain ⟨x, rfl⟩ := fokInt (tgYk k (kd_lt e3 (by omega)) a ha e3 b hb ht) g5
          exact hF.int
        · exact hF.ref ht
    · cases hs
  case iastore =>
    simp only [astep] at hs
    split at hs
    · rename_i y x k r
      generalize hg : (Nat.blt k 999 && Nat.blt k n && Nat.beq (kd k) 0 && inb x (ln k)) = g at hs
      cases g with
      | false => cases hs
      | true =>
        simp only [cond_true] at hs
        cases hs
        exact hF.int
    · cases hs
  case aastore =>
    simp only [astep] at hs
    split at hs
    · rename_i kh x k r
      generalize hg : (Nat.blt k 999 && Nat.blt k n && (Nat.beq (kd k) 1 && Nat.beq (kd kh) 3 || Nat.beq (kd k) 2 && Nat.beq (kd kh) 5) && inb x (ln k) && Nat.blt kh 999 && Nat.blt kh n) = g at hs
      cases g with
      | false => cases hs
      | true =>
        simp only [cond_true] at hs
        simp only [Bool.and_eq_true, Bool.or_eq_true] at hg
        obtain ⟨⟨⟨⟨⟨g1, g2⟩, g3⟩, g4⟩, g5⟩, g6⟩ := hg
        cases hs
        refine hF.ref (tgRef ?_ _)
        rcases g3 with ⟨q, -⟩ | ⟨q, -⟩
        · exact Or.inl (Nat.eq_of_beq_eq_true q)
        · exact Or.inr (Nat.eq_of_beq_eq_true q)
    · cases hs
  case new ix =>
    simp only [astep] at hs
    generalize hg : (Nat.blt n 999 && Nat.beq (kd n) (a + 3) && Nat.beq (ln n) (kN a) && Nat.blt a 10) = g at hs
    cases g with
    | false => cases hs
    | true =>
      simp only [cond_true] at hs
      simp only [Bool.and_eq_true] at hg
      obtain ⟨⟨⟨g1, g2⟩, g3⟩, g4⟩ := hg
      cases hs
      exact hF.row (rowInt (Nat.eq_of_beq_eq_true g2) (Nat.blt_eq.mp g4))
  case newarray t =>
    simp only [astep] at hs
    split at hs
    · rename_i x r
      generalize hg : (Nat.blt n 999 && decide (t = .int) && Nat.beq (kd n) 0 && !(decide (x < 0)) && Nat.beq x.toNatClampNeg (ln n)) = g at hs
      cases g with
      | false => cases hs
      | true =>
        simp only [cond_true] at hs
        cases hs
        exact hF.row (fun j hj => ⟨_, rfl⟩)
    · cases hs
  case anewarray ix =>
    simp only [astep] at hs
    split at hs
    · rename_i x r
      generalize hg : (Nat.blt n 999 && (Nat.beq a 0 && Nat.beq (kd n) 1 || Nat.beq a 2 && Nat.beq (kd n) 2) && !(decide (x < 0)) && Nat.beq x.toNatClampNeg (ln n)) = g at hs
      cases g with
      | false => cases hs
      | true =>
        simp only [cond_true] at hs
        simp only [Bool.and_eq_true, Bool.or_eq_true] at hg
        obtain ⟨⟨⟨g1, g2⟩, g3⟩, g4⟩ := hg
        cases hs
        refine hF.row (fun j hj => absurd hj (tgRef ?_ _))
        rcases g2 with ⟨-, q⟩ | ⟨-, q⟩
        · exact Or.inl (Nat.eq_of_beq_eq_true q)
        · exact Or.inr (Nat.eq_of_beq_eq_true q)
    · cases hs
  all_goals simp only [astep, aLd, aLda, aLdl, aSt, aSta, aStl, aB, aU, aBl, aSl] at hs
  all_goals first
    | (cases hs; done)
    | (cases hs; exact hF)
    | (repeat' split at hs) <;> (first | (cases hs; done) | (cases hs; exact hF) | (simp only [cond] at hs; (repeat' split at hs) <;> first | (cases hs; done) | (cases hs; exact hF)))
    | (simp only [cond] at hs; (repeat' split at hs) <;> first | (cases hs; done) | (cases hs; exact hF))
end TY
def Gd (n : Nat) (μ : AM) : Prop := Fm n μ ∧ Ty μ
theorem Gd.cpy {n sk sp dk dp m : Nat} {μ : AM} {X : AX} (h : Gd n μ) (h1 : dk < n) (h2 : dp + m ≤ ln dk) : Gd n (acpy μ X sk sp dk dp m) := by
  have hne : ∀ k j, ¬ (k = dk ∧ dp ≤ j ∧ j < dp + m) → acpy μ X sk sp dk dp m k j = μ k j := by
    intro k j hn
    unfold acpy
    cases hg : (Nat.beq k dk && Nat.ble dp j && Nat.blt j (dp + m)) with
    | false => rfl
    | true =>
      simp only [Bool.and_eq_true] at hg
      exact absurd ⟨Nat.eq_of_beq_eq_true hg.1.1, Nat.ble_eq.mp hg.1.2, Nat.blt_eq.mp hg.2⟩ hn
  refine ⟨⟨fun k j hk => ?_, fun k j hk hj => ?_⟩, fun k j ht => ?_⟩
  · rw [hne k j (fun z => by omega)]; exact h.1.1 k j hk
  · rw [hne k j (fun z => by obtain ⟨rfl, z1, z2⟩ := z; omega)]; exact h.1.2 k j hk hj
  · by_cases z : k = dk ∧ dp ≤ j ∧ j < dp + m
    · obtain ⟨rfl, z1, z2⟩ := z
      unfold acpy
      rw [show Nat.beq k k = true from Nat.beq_refl k, Nat.ble_eq.mpr z1, Nat.blt_eq.mpr z2]
      exact ⟨_, rfl⟩
    · rw [hne k j z]; exact h.2 k j ht
theorem axBS_gd {rc : Nat → Nat → Nat → AL → List Value → Nat → AM → Option (Option Value × Nat × AM)} (hr : ∀ d i pc ls st n μ v n' μ', rc d i pc ls st n μ = some (v, n', μ') → Gd n μ → Gd n' μ') {d i pc : Nat} {ls : AL} {st : List Value} {n : Nat} {μ : AM} {v : Option Value} {n' : Nat} {μ' : AM} (h : axBS rc d i pc ls st n μ = some (v, n', μ')) (hG : Gd n μ) : Gd n' μ' := by
  unfold axBS at h
  cases hit : it i pc with
  | none => rw [hit] at h; cases h
  | some q =>
    obtain ⟨ins, len, a, b⟩ := q
    rw [hit] at h
    dsimp only at h
    cases he : isend ins with
    | true =>
      rw [he, cond_true] at h
      split at h
      · cases h; exact hG
      · cases h
    | false =>
      rw [he, cond_false] at h
      cases hc : Nat.beq (acall ins) 0 with
      | true =>
        rw [hc, cond_true] at h
        split at h
        · rename_i hs
          unfold astepS at hs
          cases hx : xfree ins st with
          | false => rw [hx] at hs; cases hs
          | true =>
            rw [hx, cond_true] at hs
            exact hr _ _ _ _ _ _ _ _ _ _ h ⟨hG.1.step hs, hG.2.step hs⟩
        · cases h
      | false =>
        rw [hc, cond_false] at h
        cases h0 : Nat.beq a 1000 with
        | true =>
          rw [h0, cond_true] at h
          split at h
          · rename_i k r'
            generalize hg : (Nat.beq (acall ins) 3 && Nat.blt 0 d && arest r') = g at h
            cases g with
            | false => cases h
            | true => exact hr _ _ _ _ _ _ _ _ _ _ h hG
          · cases h
        | false =>
          rw [h0, cond_false] at h
          cases h1 : Nat.beq a 1001 with
          | true =>
            rw [h1, cond_true] at h
            split at h
            · split at h
              · simp only [cond] at h
                split at h
                · rename_i hg
                  simp only [Bool.and_eq_true] at hg
                  exact hr _ _ _ _ _ _ _ _ _ _ h (hG.cpy (Nat.blt_eq.mp hg.1.1.1.1.1.1.2) (Nat.ble_eq.mp hg.2))
                · cases h
              · cases h
            · cases h
          | false =>
            rw [h1, cond_false] at h
            cases h2 : Nat.beq a 1002 with
            | true =>
              rw [h2, cond_true] at h
              split at h
              · rename_i y x r'
                generalize hg : (Nat.beq (acall ins) 2 && Nat.blt 0 d && arest r') = g at h
                cases g with
                | false => cases h
                | true => exact hr _ _ _ _ _ _ _ _ _ _ h hG
              · cases h
            | false =>
              rw [h2, cond_false] at h
              cases h3 : Nat.beq a 1003 with
              | true =>
                rw [h3, cond_true] at h
                split at h
                · rename_i y x r'
                  generalize hg : (Nat.beq (acall ins) 2 && Nat.blt 0 d && arest r') = g at h
                  cases g with
                  | false => cases h
                  | true => exact hr _ _ _ _ _ _ _ _ _ _ h hG
                · cases h
              | false =>
                rw [h3, cond_false] at h
                cases d with
                | zero => cases h
                | succ d' =>
                  dsimp only at h
                  cases ht : atake (bif Nat.beq (acall ins) 2 then mP a else mP a + 1) st [] with
                  | none => rw [ht] at h; cases h
                  | some q =>
                    obtain ⟨as, r'⟩ := q
                    rw [ht] at h
                    dsimp only at h
                    cases hg : (arest r' && arecv (acall ins) n a as && Nat.ble (aent as).length (mL a)) with
                    | false => rw [hg] at h; cases h
                    | true =>
                      rw [hg, cond_true] at h
                      cases hcal : rc d' a 0 (apad as (mL a)) [] n μ with
                      | none => rw [hcal] at h; cases h
                      | some q2 =>
                        obtain ⟨v', n1, μ1⟩ := q2
                        rw [hcal] at h
                        exact hr _ _ _ _ _ _ _ _ _ _ h (hr _ _ _ _ _ _ _ _ _ _ hcal hG)
theorem axS_gd : ∀ (f d i pc : Nat) (ls : AL) (st : List Value) (n : Nat) (μ : AM) (v : Option Value) (n' : Nat) (μ' : AM), axS f d i pc ls st n μ = some (v, n', μ') → Gd n μ → Gd n' μ' := by
  intro f
  induction f with
  | zero => intro d i pc ls st n μ v n' μ' h; cases h
  | succ f ih => intro d i pc ls st n μ v n' μ' h hG; exact axBS_gd ih h hG
theorem Gd.new {n a : Nat} {μ : AM} (h : Gd n μ) (e2 : kd n = a + 3) (e3 : ln n = kN a) (ha : a < 10) : Gd (n + 1) (arow μ n (fun j => defaultValue (kY a j))) := by
  refine ⟨h.1.row (fun j hj => ?_), h.2.row (rowInt e2 ha)⟩
  rw [kYout ha (by omega)]
  unfold dfl
  rw [e2, beqf (by omega), beqf (by omega)]
  rfl
theorem Gd_0 : Gd 0 μ0 := ⟨⟨fun _ _ _ => rfl, fun _ _ h => absurd h (Nat.not_lt_zero _)⟩, fun _ _ _ => ⟨0, rfl⟩⟩
theorem Gd_b : Gd 77 μb := axS_gd _ _ _ _ _ _ _ _ _ _ _ r92_eq (Gd_0.new (a := 8) (by decide) (by decide) (by decide))
theorem Gd_d : Gd 98 μd := axS_gd _ _ _ _ _ _ _ _ _ _ _ r150_eq (Gd_b.new (a := 9) (by decide) (by decide) (by decide))
