/-! beyond what is made, memory stays as it was -/
def dfl (k : Nat) : Value := bif Nat.beq (kd k) 1 || Nat.beq (kd k) 2 then .null else .int 0
def Fm (n : Nat) (μ : AM) : Prop := (∀ k j, n ≤ k → μ k j = .int 0) ∧ ∀ k j, k < n → ln k ≤ j → μ k j = dfl k
theorem Fm.set {n k j : Nat} {μ : AM} {v : Value} (h : Fm n μ) (hk : k < n) (hj : j < ln k) : Fm n (aset μ k j v) := by
  refine ⟨fun k' j' h1 => ?_, fun k' j' h1 h2 => ?_⟩
  · rw [aset_eq, if_neg (fun z => by omega)]
    exact h.1 k' j' h1
  · rw [aset_eq, if_neg (fun z => by obtain ⟨rfl, rfl⟩ := z; omega)]
    exact h.2 k' j' h1 h2
theorem Fm.row {n : Nat} {μ : AM} {r : Nat → Value} (h : Fm n μ) (hr : ∀ j, ln n ≤ j → r j = dfl n) : Fm (n + 1) (arow μ n r) := by
  refine ⟨fun k' j' h1 => ?_, fun k' j' h1 h2 => ?_⟩
  · rw [arow_eq, if_neg (by omega)]
    exact h.1 k' j' (by omega)
  · rw [arow_eq]
    by_cases e : k' = n
    · subst e
      rw [if_pos rfl]
      exact hr j' h2
    · rw [if_neg e]
      exact h.2 k' j' (by omega) h2
set_option maxRecDepth 100000 in
theorem lnk : ∀ k, k < 98 → ∀ a, a < 10 → kd k = a + 3 → ln k = kN a := by decide +kernel
set_option maxRecDepth 100000 in
theorem kYlen : ∀ a, a < 10 → (fYl.getD a []).length = kN a := by decide +kernel
theorem kYout {a j : Nat} (ha : a < 10) (h : kN a ≤ j) : kY a j = .int := by
  unfold kY
  rw [List.getD_eq_getElem?_getD, List.getElem?_eq_none (by rw [kYlen a ha]; exact h)]
  rfl
theorem kd_big {k : Nat} (h : 98 ≤ k) : kd k = 99 := by
  unfold kd
  rw [List.getD_eq_getElem?_getD, List.getElem?_eq_none (by have : lyL.length = 98 := by decide +kernel
                                                            omega)]
  rfl
