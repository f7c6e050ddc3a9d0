/-! a law's numbers: the class -/
def valF (k i c d j : Nat) : Int32 := if j = 0 then nI (hcn (fa k i) 0) else if j = 1 then nI (hcn (fa k i) 1) else if j = 2 then nI c else if j = 3 then nI (hsz (fa k i)) else if j = 4 then nI (hwt (fa k i) 0) else if j = 5 then nI (hwt (fa k i) 1) else if j = 6 then nI (hwt (fa k i) 2) else if j = 7 then nI d else if j = 8 then (if k = 1 then nI (hwt (fa k i) (fwh k i)) else nI (hwt (fb k i) 2)) else nI (fwh k i)
def fK (e : List Nat) (k i c d : Nat) : Bool := if k = 2 then decide (d = c) else if k = 3 then decide (d = if c = 3 then 3 else 3 - c) else if k = 5 then !(decide (c = 3)) else isV (valF k i c (if k = 0 then 0 else d)) e
def rwN (f : Nat → Bool) : Nat → Nat
  | 0 => 0
  | n + 1 => rwN f n ||| (if f (n + 1) = true then 1 <<< n else 0)
def tbC (g : Nat → Nat → Bool) : Nat → Nat
  | 0 => 0
  | n + 1 => tbC g n ||| (rwN (g (n + 1)) 3 <<< (3 * n))
def tbl (g : Nat → Nat → Bool) : Nat := tbC g 3
theorem rw_lt (f : Nat → Bool) : ∀ n, n ≤ 3 → rwN f n < 8
  | 0, _ => by show 0 < 8; decide
  | n + 1, h => by
    have ih := rw_lt f n (by omega)
    show (rwN f n ||| (if f (n + 1) = true then 1 <<< n else 0)) < 2 ^ 3
    refine Nat.or_lt_two_pow ih ?_
    by_cases z : f (n + 1) = true
    · rw [if_pos z, Nat.one_shiftLeft]; exact Nat.pow_lt_pow_right (by decide) (by omega)
    · rw [if_neg z]; decide
theorem tbC_lt (g : Nat → Nat → Bool) : ∀ n, n ≤ 3 → tbC g n < 512
  | 0, _ => by show 0 < 512; decide
  | n + 1, h => by
    have ih := tbC_lt g n (by omega)
    show (tbC g n ||| (rwN (g (n + 1)) 3 <<< (3 * n))) < 2 ^ 9
    refine Nat.or_lt_two_pow ih ?_
    have := rw_lt (g (n + 1)) 3 (by decide)
    rw [Nat.shiftLeft_eq]
    have h8 : 2 ^ (3 * n) ≤ 2 ^ 6 := Nat.pow_le_pow_right (by decide) (by omega)
    have : rwN (g (n + 1)) 3 * 2 ^ (3 * n) ≤ 7 * 2 ^ 6 := Nat.mul_le_mul (by omega) h8
    omega
theorem E_4 : ∀ i, i < 32 → F_4 (nI i) = nI (fwh 1 i) ∧ fwh 1 i < 3 := by decide +kernel
theorem f76 {k i : Nat} {M : IM} (hk : k = 0 ∨ k = 1 ∨ k = 4) (hi : i < mny k) : ∃ M1, F_76 (nI k) (nI i) M = some M1 ∧ (∀ a b, a ≠ 49 → M1 a b = M a b) ∧ ∀ j, j < nmOf k → j ≠ 2 → j ≠ 7 → ∀ c d, M1 49 j = valF k i c d j := by
  have hk6 : k < 6 := by omega
  have hh := fa_lt k hk6 i hi
  have hb := fb_lt k hk6 i hi
  unfold F_76 J_76_104
  rw [E_2 k hk6 i hi]
  dsimp only
  rw [E_10 _ hh, E_9 _ hh, E_6 _ hh, show F_8 (nI (fa k i)) 0 = _ from E_8 _ hh 0 (by decide), show F_8 (nI (fa k i)) 1 = _ from E_8 _ hh 1 (by decide), show F_8 (nI (fa k i)) 2 = _ from E_8 _ hh 2 (by decide)]
  simp (disch := omega) only [lit_nI, ni_cl]
  rcases hk with z | z | z <;> subst z
  · rw [if_neg (show ¬ nI 0 = nI 1 by decide), if_neg (show ¬ nI 0 = nI 4 by decide)]
    refine ⟨_, rfl, fun a b h => ?_, fun j hj h2 h7 c d => ?_⟩
    · rw [iset_k h, iset_k h, iset_k h, iset_k h, iset_k h, iset_k h]
    · have hj : j < 7 := hj
      rcases (show j = 0 ∨ j = 1 ∨ j = 3 ∨ j = 4 ∨ j = 5 ∨ j = 6 by omega) with z | z | z | z | z | z <;> subst z <;> simp (disch := decide) only [iset_same, iset_j] <;> rfl
  · have hi : i < 32 := hi
    obtain ⟨e4, e4l⟩ := E_4 i hi
    rw [if_pos (show nI 1 = nI 1 from rfl), if_neg (show ¬ nI 1 = nI 4 by decide), e4, iset_same, E_8 _ hh _ e4l]
    refine ⟨_, rfl, fun a b h => ?_, fun j hj h2 h7 c d => ?_⟩
    · rw [iset_k h, iset_k h, iset_k h, iset_k h, iset_k h, iset_k h, iset_k h, iset_k h]
    · have hj : j < 10 := hj
      rcases (show j = 0 ∨ j = 1 ∨ j = 3 ∨ j = 4 ∨ j = 5 ∨ j = 6 ∨ j = 8 ∨ j = 9 by omega) with z | z | z | z | z | z | z | z <;> subst z <;> simp (disch := decide) only [iset_same, iset_j] <;> rfl
  · rw [if_neg (show ¬ nI 4 = nI 1 by decide), if_pos (show nI 4 = nI 4 from rfl), E_3 4 hk6 i hi]
    dsimp only
    rw [E_8 _ hb 2 (by decide)]
    refine ⟨_, rfl, fun a b h => ?_, fun j hj h2 h7 c d => ?_⟩
    · rw [iset_k h, iset_k h, iset_k h, iset_k h, iset_k h, iset_k h, iset_k h]
    · have hj : j < 9 := hj
      rcases (show j = 0 ∨ j = 1 ∨ j = 3 ∨ j = 4 ∨ j = 5 ∨ j = 6 ∨ j = 8 by omega) with z | z | z | z | z | z | z <;> subst z <;> simp (disch := decide) only [iset_same, iset_j] <;> rfl
def CDC (e : List Nat) (k : Nat) (M : IM) : Prop := EV (nmOf k) e ∧ e.length ≤ 50 ∧ M 45 6 = nI e.length ∧ ∀ j, j < e.length → M 47 j = nI (tC (e.getD j 0))
theorem CDC.cg {e : List Nat} {k : Nat} {M M' : IM} (h : CDC e k M) (f : ∀ a b, (a = 45 ∧ b = 6) ∨ a = 47 → M' a b = M a b) : CDC e k M' :=
  ⟨h.1, h.2.1, (f 45 6 (by omega)).trans h.2.2.1, fun j hj => (f 47 j (by omega)).trans (h.2.2.2 j hj)⟩
theorem f75 {e : List Nat} {k i c : Nat} {M : IM} (hk : k = 0 ∨ k = 1 ∨ k = 4) (he : CDC e k M) (hv : ∀ j, j < nmOf k → j ≠ 7 → ∀ d, M 49 j = valF k i c d j) : ∃ M', F_75 (nI k) M = some (nI (rwN (fK e k i c) 3), M') ∧ ∀ a b, a ≠ 48 → (a = 49 → b ≠ 7) → M' a b = M a b := by
  have hn := (nmOf_le k).2
  unfold F_75
  rw [E_1 k (by omega)]
  by_cases z : k = 0
  · subst z
    rw [show (if pr 0 = true then (1 : Int32) else 0) = 0 from rfl, if_pos rfl]
    obtain ⟨v, M', a1, a2, a3⟩ := f77 (val := valF 0 i c 0) hn he.2.1 he.1 he.2.2.1 he.2.2.2 (fun j hj => hv j hj (by have hj : j < 7 := hj; omega) 0)
    have ef : ∀ d, fK e 0 i c d = isV (valF 0 i c 0) e := fun d => rfl
    refine ⟨M', ?_, fun a b h _ => a3 a b h⟩
    rw [a1]
    dsimp only
    simp only [rwN, ef]
    by_cases y : v = 0
    · rw [if_pos y, a2.mp y]; rfl
    · have : isV (valF 0 i c 0) e = true := by
        cases q : isV (valF 0 i c 0) e
        · exact absurd (a2.mpr q) y
        · rfl
      rw [if_neg y, this]; rfl
  · have hp : (if pr k = true then (1 : Int32) else 0) = 1 := by
      rcases hk with q | q | q
      · exact absurd q z
      · subst q; rfl
      · subst q; rfl
    rw [hp, if_neg one_ne]
    obtain ⟨r, h1, h2⟩ := loopF (body := B_75_25) (fun n st => ∃ M', st = (nI (rwN (fK e k i c) n), nI (n + 1), M') ∧ ∀ a b, a ≠ 48 → (a = 49 → b ≠ 7) → M' a b = M a b) (fun r => r.1 = nI (rwN (fK e k i c) 3) ∧ ∀ a b, a ≠ 48 → (a = 49 → b ≠ 7) → r.2.2 a b = M a b) 3 (by decide) (s := (nI 0, nI 1, M)) ⟨M, rfl, fun _ _ _ _ => rfl⟩ (fun n st hn3 hI => by
      obtain ⟨M1, rfl, fr⟩ := hI
      unfold B_75_25
      dsimp only
      rw [lit_nI (n := 3), ie_lt (by omega) (by omega)]
      by_cases y : 3 < n + 1
      · obtain rfl : n = 3 := by omega
        exact Or.inl ⟨_, by rw [if_pos y], rfl, fr⟩
      · have hlt := rw_lt (fK e k i c) n (by omega)
        rw [if_neg y, show (7 : Int32).toNatClampNeg = 7 from rfl]
        obtain ⟨v, M', a1, a2, a3⟩ := f77 (val := valF k i c (n + 1)) (M := iset M1 49 7 (nI (n + 1))) hn he.2.1 he.1 (by rw [iset_k (by decide), fr _ _ (by decide) (fun q => absurd q (by decide))]; exact he.2.2.1) (fun j hj => by rw [iset_k (by decide), fr _ _ (by decide) (fun q => absurd q (by decide))]; exact he.2.2.2 j hj) (fun j hj => by
          by_cases q : j = 7
          · subst q; rw [iset_same]; rfl
          · rw [iset_j q, fr _ _ (by decide) (fun _ => q)]; exact hv j hj q (n + 1))
        have frn : ∀ a b, a ≠ 48 → (a = 49 → b ≠ 7) → M' a b = M a b := fun a b p q => by
          rw [a3 a b p]
          by_cases w : a = 49
          · subst w; rw [iset_j (q rfl)]; exact fr _ _ p q
          · rw [iset_k w]; exact fr _ _ p q
        have ef : fK e k i c (n + 1) = isV (valF k i c (n + 1)) e := by
          unfold fK
          rw [if_neg (by omega), if_neg (by omega), if_neg (by omega), if_neg z]
        have er : rwN (fK e k i c) (n + 1) = rwN (fK e k i c) n ||| (if isV (valF k i c (n + 1)) e = true then 1 <<< n else 0) := by rw [← ef]; rfl
        rw [a1]
        dsimp only
        unfold J_75_52_25
        rw [ni_add1, f142 n (by omega), ni_or]
        by_cases w : v = 0
        · rw [if_pos w]
          refine Or.inr ⟨by omega, _, rfl, M', ?_, frn⟩
          rw [er, a2.mp w, if_neg (by decide), Nat.or_zero]
        · have w2 : isV (valF k i c (n + 1)) e = true := by
            cases q : isV (valF k i c (n + 1)) e
            · exact absurd (a2.mpr q) w
            · rfl
          rw [if_neg w]
          refine Or.inr ⟨by omega, _, rfl, M', ?_, frn⟩
          rw [er, w2, if_pos rfl])
    refine ⟨r.2.2, ?_, h2.2⟩
    rw [show L_75_25 0 1 M = some r from h1, ← h2.1]
theorem f74 {e : List Nat} {k i : Nat} {M : IM} (hk : k = 0 ∨ k = 1 ∨ k = 4) (hi : i < mny k) (he : CDC e k M) : ∃ M', F_74 (nI k) (nI i) M = some (nI (tbl (fK e k i)), M') ∧ ∀ a b, a ≠ 48 → a ≠ 49 → M' a b = M a b := by
  obtain ⟨M1, a1, a2, a3⟩ := f76 (M := M) hk hi
  unfold F_74
  rw [a1]
  dsimp only
  obtain ⟨r, h1, h2⟩ := loopF (body := B_74_11 (nI k)) (fun n st => ∃ M', st = (nI (tbC (fK e k i) n), nI (n + 1), M') ∧ ∀ a b, a ≠ 48 → (a = 49 → b ≠ 2 ∧ b ≠ 7) → M' a b = M1 a b) (fun r => r.1 = nI (tbl (fK e k i)) ∧ ∀ a b, a ≠ 48 → (a = 49 → b ≠ 2 ∧ b ≠ 7) → r.2.2 a b = M1 a b) 3 (by decide) (s := (nI 0, nI 1, M1)) ⟨M1, rfl, fun _ _ _ _ => rfl⟩ (fun n st hn3 hI => by
    obtain ⟨M2, rfl, fr⟩ := hI
    unfold B_74_11
    dsimp only
    rw [lit_nI (n := 3), ie_lt (by omega) (by omega)]
    by_cases y : 3 < n + 1
    · obtain rfl : n = 3 := by omega
      exact Or.inl ⟨_, by rw [if_pos y], rfl, fr⟩
    · have hlt := rw_lt (fK e k i (n + 1)) 3 (by omega)
      rw [if_neg y, show (2 : Int32).toNatClampNeg = 2 from rfl]
      obtain ⟨M', b1, b2⟩ := f75 (e := e) (i := i) (c := n + 1) (M := iset M2 49 2 (nI (n + 1))) hk (he.cg (fun a b h => by
        rw [iset_k (by omega), fr _ _ (by omega) (fun q => by omega), a2 _ _ (by omega)])) (fun j hj h7 d => by
        by_cases q : j = 2
        · subst q; rw [iset_same]; rfl
        · rw [iset_j q, fr _ _ (by decide) (fun _ => ⟨q, h7⟩)]; exact a3 j hj q h7 (n + 1) d)
      rw [b1]
      dsimp only
      have hsh : rwN (fK e k i (n + 1)) 3 * 2 ^ (3 * n) < 4294967296 := by
        have : 2 ^ (3 * n) ≤ 2 ^ 6 := Nat.pow_le_pow_right (by decide) (by omega)
        have : rwN (fK e k i (n + 1)) 3 * 2 ^ (3 * n) ≤ 7 * 2 ^ 6 := Nat.mul_le_mul (by omega) this
        omega
      rw [lit_nI (n := 1), ni_sub (by omega), show n + 1 - 1 = n by omega, ni_mul, ni_shl (by omega) hsh, ni_or, ni_add]
      refine Or.inr ⟨by omega, _, rfl, M', rfl, fun a b p q => ?_⟩
      rw [b2 a b p (fun w => (q w).2)]
      by_cases w : a = 49
      · subst w; rw [iset_j (q rfl).1]; exact fr _ _ p q
      · rw [iset_k w]; exact fr _ _ p q)
  refine ⟨r.2.2, ?_, fun a b p q => ?_⟩
  · rw [show L_74_11 (nI k) 0 1 M1 = some r from h1, ← h2.1]
  · rw [h2.2 a b p (fun w => absurd w q)]; exact a2 a b q
theorem tbl_2 (e : List Nat) (i : Nat) : tbl (fK e 2 i) = 273 := by
  have h : ∀ c d, fK e 2 i c d = decide (d = c) := fun c d => rfl
  simp only [tbl, tbC, rwN, h]
  decide
theorem tbl_3 (e : List Nat) (i : Nat) : tbl (fK e 3 i) = 266 := by
  have h : ∀ c d, fK e 3 i c d = decide (d = if c = 3 then 3 else 3 - c) := fun c d => rfl
  simp only [tbl, tbC, rwN, h]
  decide
theorem tbl_5 (e : List Nat) (i : Nat) : tbl (fK e 5 i) = 63 := by
  have h : ∀ c d, fK e 5 i c d = !(decide (c = 3)) := fun c d => rfl
  simp only [tbl, tbC, rwN, h]
  decide
theorem f145 {e : List Nat} {k i : Nat} {M : IM} (hk : k < 6) (hi : i < mny k) (he : k = 0 ∨ k = 1 ∨ k = 4 → CDC e k M) : ∃ M', F_145 (nI k) (nI i) M = some (nI (tbl (fK e k i)), M') ∧ ∀ a b, a ≠ 48 → a ≠ 49 → M' a b = M a b := by
  unfold F_145
  by_cases z2 : k = 2
  · subst z2
    rw [if_pos (by rfl), tbl_2]
    exact ⟨M, rfl, fun _ _ _ _ => rfl⟩
  · by_cases z3 : k = 3
    · subst z3
      rw [if_neg (by decide), if_pos (by rfl), tbl_3]
      exact ⟨M, rfl, fun _ _ _ _ => rfl⟩
    · by_cases z5 : k = 5
      · subst z5
        rw [if_neg (by decide), if_neg (by decide), if_pos (by rfl), tbl_5]
        exact ⟨M, rfl, fun _ _ _ _ => rfl⟩
      · rw [lit_nI (n := 2), lit_nI (n := 3), lit_nI (n := 5), ie_eq (by omega) (by omega), ie_eq (by omega) (by omega), ie_eq (by omega) (by omega), if_neg z2, if_neg z3, if_neg z5]
        obtain ⟨M', a1, a2⟩ := f74 (show k = 0 ∨ k = 1 ∨ k = 4 by omega) hi (he (by omega))
        rw [a1]
        exact ⟨M', rfl, a2⟩
