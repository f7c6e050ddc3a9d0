/-! beyond what is made, memory stays as it was -/
def dfl (k : Nat) : Value := bif Nat.beq (kd k) 1 || Nat.beq (kd k) 2 then .null else .int 0
def Fm (n : Nat) (μ : AM) : Prop := (∀ k j, n ≤ k → μ k j = .int 0) ∧ ∀ k j, k < n → ln k ≤ j → μ k j = dfl k
theorem Fm.set {n k j : Nat} {μ : AM} {v : Value} (h : Fm n μ) (hk : k < n) (hj : j < ln k) : Fm n (aset μ k j v) := by
  refine ⟨fun k' j' h1 => ?_, fun k' j' h1 h2 => ?_⟩
  · rw [aset_eq, if_neg (fun z => by omega)]
    exact h.1 k' j' h1
  · rw [aset_eq, if_neg (fun z => by obtain ⟨rfl, rfl⟩ := z; omega)]
    exact h.2 k' j' h1 h2
theorem Fm.row {n : Nat} {μ : AM} {r : Nat → Value} (h : Fm n μ) (hr : ∀ j, ln n ≤ j → r j = dfl n) : Fm (n + 1) (arow μ n r) := by
  refine ⟨fun k' j' h1 => ?_, fun k' j' h1 h2 => ?_⟩
  · rw [arow_eq, if_neg (by omega)]
    exact h.1 k' j' (by omega)
  · rw [arow_eq]
    by_cases e : k' = n
    · subst e
      rw [if_pos rfl]
      exact hr j' h2
    · rw [if_neg e]
      exact h.2 k' j' (by omega) h2
set_option maxRecDepth 100000 in
theorem lnk : ∀ k, k < 98 → ∀ a, a < 10 → kd k = a + 3 → ln k = kN a := by decide +kernel
set_option maxRecDepth 100000 in
theorem kYlen : ∀ a, a < 10 → (fYl.getD a []).length = kN a := by decide +kernel
theorem kYout {a j : Nat} (ha : a < 10) (h : kN a ≤ j) : kY a j = .int := by
  unfold kY
  rw [List.getD_eq_getElem?_getD, List.getElem?_eq_none (by rw [kYlen a ha]; exact h)]
  rfl
theorem kd_big {k : Nat} (h : 98 ≤ k) : kd k = 99 := by
  unfold kd
  rw [List.getD_eq_getElem?_getD, List.getElem?_eq_none (by have : lyL.length = 98 := by decide +kernel
                                                            omega)]
  rfl
section FM
variable {X : AX} {pc pc' n n' : Nat} {ls ls' : AL} {st st' : List Value} {μ μ' : AM}
theorem Fm.step {ins : Instr} {len a b : Nat} (hF : Fm n μ) (hs : astep X ins len a b pc ls st n μ = some (pc', ls', st', n', μ')) : Fm n' μ' := by
  cases ins
  case putfield ix =>
    simp only [astep] at hs
    split at hs
    · rename_i v k r
      generalize hg : (Nat.blt k 999 && Nat.blt k n && Nat.beq (kd k) (a + 3) && Nat.blt b (kN a) && fok (kY a b) v) = g at hs
      cases g with
      | false => cases hs
      | true =>
        simp only [cond_true] at hs
        simp only [Bool.and_eq_true] at hg
        obtain ⟨⟨⟨⟨g1, g2⟩, g3⟩, g4⟩, g5⟩ := hg
        cases hs
        have e3 : kd k = a + 3 := Nat.eq_of_beq_eq_true g3
        have hb : b < kN a := Nat.blt_eq.mp g4
        have ha : a < 10 := by
          by_cases h : a < 10
          · exact h
          · exfalso
            have : kN a = 0 := by
              unfold kN
              rw [List.getD_eq_getElem?_getD, List.getElem?_eq_none (by have : fNl.length = 10 := by decide +kernel
                                                                        omega)]
              rfl
            omega
        have hk : k < 98 := by
          by_cases h : k < 98
          · exact h
          · have h9 := kd_big (k := k) (Nat.not_lt.mp h)
            exfalso
            rw [e3] at h9
            omega
        exact hF.set (Nat.blt_eq.mp g2) (by rw [lnk k hk a ha e3]; exact hb)
    · cases hs
  case iastore =>
    simp only [astep] at hs
    split at hs
    · rename_i y x k r
      generalize hg : (Nat.blt k 999 && Nat.blt k n && Nat.beq (kd k) 0 && inb x (ln k)) = g at hs
      cases g with
      | false => cases hs
      | true =>
        simp only [cond_true] at hs
        simp only [Bool.and_eq_true] at hg
        obtain ⟨⟨⟨g1, g2⟩, g3⟩, g4⟩ := hg
        cases hs
        exact hF.set (Nat.blt_eq.mp g2) (inb_in g4).2.2
    · cases hs
  case aastore =>
    simp only [astep] at hs
    split at hs
    · rename_i kh x k r
      generalize hg : (Nat.blt k 999 && Nat.blt k n && (Nat.beq (kd k) 1 && Nat.beq (kd kh) 3 || Nat.beq (kd k) 2 && Nat.beq (kd kh) 5) && inb x (ln k) && Nat.blt kh 999 && Nat.blt kh n) = g at hs
      cases g with
      | false => cases hs
      | true =>
        simp only [cond_true] at hs
        simp only [Bool.and_eq_true] at hg
        obtain ⟨⟨⟨⟨⟨g1, g2⟩, g3⟩, g4⟩, g5⟩, g6⟩ := hg
        cases hs
        exact hF.set (Nat.blt_eq.mp g2) (inb_in g4).2.2
    · cases hs
  case new ix =>
    simp only [astep] at hs
    generalize hg : (Nat.blt n 999 && Nat.beq (kd n) (a + 3) && Nat.beq (ln n) (kN a) && Nat.blt a 10) = g at hs
    cases g with
    | false => cases hs
    | true =>
      simp only [cond_true] at hs
      simp only [Bool.and_eq_true] at hg
      obtain ⟨⟨⟨g1, g2⟩, g3⟩, g4⟩ := hg
      cases hs
      have e2 : kd n = a + 3 := Nat.eq_of_beq_eq_true g2
      have e3 : ln n = kN a := Nat.eq_of_beq_eq_true g3
      refine hF.row (fun j hj => ?_)
      rw [kYout (Nat.blt_eq.mp g4) (by omega)]
      unfold dfl
      rw [e2, beqf (by omega), beqf (by omega)]
      rfl
  case newarray t =>
    simp only [astep] at hs
    split at hs
    · rename_i x r
      generalize hg : (Nat.blt n 999 && decide (t = .int) && Nat.beq (kd n) 0 && !(decide (x < 0)) && Nat.beq x.toNatClampNeg (ln n)) = g at hs
      cases g with
      | false => cases hs
      | true =>
        simp only [cond_true] at hs
        simp only [Bool.and_eq_true] at hg
        obtain ⟨⟨⟨⟨g1, g2⟩, g3⟩, g4⟩, g5⟩ := hg
        cases hs
        refine hF.row (fun j hj => ?_)
        unfold dfl
        rw [Nat.eq_of_beq_eq_true g3]
        rfl
    · cases hs
  case anewarray ix =>
    simp only [astep] at hs
    split at hs
    · rename_i x r
      generalize hg : (Nat.blt n 999 && (Nat.beq a 0 && Nat.beq (kd n) 1 || Nat.beq a 2 && Nat.beq (kd n) 2) && !(decide (x < 0)) && Nat.beq x.toNatClampNeg (ln n)) = g at hs
      cases g with
      | false => cases hs
      | true =>
        simp only [cond_true] at hs
        simp only [Bool.and_eq_true, Bool.or_eq_true] at hg
        obtain ⟨⟨⟨g1, g2⟩, g3⟩, g4⟩ := hg
        cases hs
        refine hF.row (fun j hj => ?_)
        unfold dfl
        rcases g2 with ⟨-, q⟩ | ⟨-, q⟩ <;> rw [Nat.eq_of_beq_eq_true q] <;> rfl
    · cases hs
  all_goals simp only [astep, aLd, aLda, aLdl, aSt, aSta, aStl, aB, aU, aBl, aSl] at hs
  all_goals first
    | (cases hs; done)
    | (cases hs; exact hF)
    | (repeat' split at hs) <;> (first | (cases hs; done) | (cases hs; exact hF) | (simp only [cond] at hs; (repeat' split at hs) <;> first | (cases hs; done) | (cases hs; exact hF)))
    | (simp only [cond] at hs; (repeat' split at hs) <;> first | (cases hs; done) | (cases hs; exact hF))
end FM
