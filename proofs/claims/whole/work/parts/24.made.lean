/-! what the constructors make, by the kernel -/
def μa : AM := arow μ0 0 (fun j => defaultValue (kY 8 j))
def r92 : Option (Option Value × Nat × AM) := axS 12000 1999 92 0 (apad [.ref 0] 2) [] 1 μa
set_option maxRecDepth 100000 in
theorem r92_k : (match r92 with | some (v, n, _) => decide (v = none) && Nat.beq n 77 | none => false) = true := by decide +kernel
def μb : AM := match r92 with | some (_, _, μ) => μ | none => μ0
theorem r92_eq : r92 = some (none, 77, μb) := by
  have h := r92_k
  unfold μb
  cases e : r92 with
  | none => rw [e] at h; cases h
  | some q =>
    obtain ⟨v, n, μ⟩ := q
    rw [e] at h
    simp only [Bool.and_eq_true, decide_eq_true_eq] at h
    obtain ⟨rfl, h2⟩ := h
    rw [Nat.eq_of_beq_eq_true h2]
def μc : AM := arow μb 77 (fun j => defaultValue (kY 9 j))
def r150 : Option (Option Value × Nat × AM) := axS 12000 1999 150 0 (apad [.ref 77] 3) [] 78 μc
set_option maxRecDepth 100000 in
theorem r150_k : (match r150 with | some (v, n, _) => decide (v = none) && Nat.beq n 98 | none => false) = true := by decide +kernel
def μd : AM := match r150 with | some (_, _, μ) => μ | none => μ0
theorem r150_eq : r150 = some (none, 98, μd) := by
  have h := r150_k
  unfold μd
  cases e : r150 with
  | none => rw [e] at h; cases h
  | some q =>
    obtain ⟨v, n, μ⟩ := q
    rw [e] at h
    simp only [Bool.and_eq_true, decide_eq_true_eq] at h
    obtain ⟨rfl, h2⟩ := h
    rw [Nat.eq_of_beq_eq_true h2]
