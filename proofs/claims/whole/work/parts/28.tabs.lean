/-! halls, cases: tables of naturals, and what the small methods answer -/
def mny (k : Nat) : Nat := [12, 32, 14, 12, 8, 12].getD k 0
def fcs (k : Nat) : Nat := [0, 12, 44, 58, 70, 78, 90].getD k 0
def pr (k : Nat) : Bool := !(Nat.beq k 0) && !(Nat.beq k 5)
def fwh (k i : Nat) : Nat := if k = 1 then (if i < 8 then i % 2 else (i - 8) % 3) else if k = 4 then 2 else if k = 2 then [0, 0, 0, 0, 0, 1, 0, 1, 0, 1, 0, 1, 0, 0].getD i 0 else 0
def fa (k i : Nat) : Nat := if k = 1 then (if i < 8 then i / 2 else 4 + (i - 8) / 3) else if k = 2 then [1, 2, 5, 5, 6, 6, 7, 7, 8, 8, 9, 9, 10, 10].getD i 0 else if k = 4 then i / 2 else i
def flp (h p : Nat) : Nat := if h < 4 then h ^^^ (1 <<< p) else 4 + ((h - 4) ^^^ (1 <<< p))
def fb (k i : Nat) : Nat := if k = 1 then flp (fa 1 i) (fwh 1 i) else if k = 2 then [2, 1, 6, 8, 5, 8, 10, 9, 5, 6, 10, 7, 9, 7].getD i 0 else if k = 3 then (if i < 4 then 3 - i else 15 - i) else if k = 4 then 4 + i / 2 + 4 * (i % 2) else i
def hsz (h : Nat) : Nat := if h < 4 then 2 else 3
def hwt (h p : Nat) : Nat := if p < hsz h then (if h < 4 then h else h - 4) / 2 ^ p % 2 else 2
def hcn (h t : Nat) : Nat := (if hwt h 0 = t then 1 else 0) + (if hwt h 1 = t then 1 else 0) + (if hwt h 2 = t then 1 else 0)
theorem mny_lt {k : Nat} (h : k < 6) : mny k ≤ 32 ∧ 0 < mny k := by
  revert k; decide +kernel
theorem fcs_add : ∀ k, k < 6 → fcs (k + 1) = fcs k + mny k := by decide +kernel
theorem fcs_le : ∀ k, k < 7 → fcs k ≤ 90 := by decide +kernel
set_option maxRecDepth 100000 in
theorem fa_lt : ∀ k, k < 6 → ∀ i, i < mny k → fa k i < 12 := by decide +kernel
set_option maxRecDepth 100000 in
theorem fb_lt : ∀ k, k < 6 → ∀ i, i < mny k → fb k i < 12 := by decide +kernel
set_option maxRecDepth 100000 in
theorem fab_ne : ∀ k, k < 6 → pr k = true → ∀ i, i < mny k → fa k i ≠ fb k i := by decide +kernel
set_option maxRecDepth 100000 in
theorem fab_np : ∀ k, k < 6 → pr k = false → ∀ i, i < mny k → fa k i = i ∧ fb k i = i := by decide +kernel
theorem mny_np : ∀ k, k < 6 → pr k = false → mny k = 12 := by decide +kernel
theorem E_0 : ∀ k, k < 6 → F_0 (nI k) = some (nI (mny k)) := by decide +kernel
theorem E_1 : ∀ k, k < 6 → F_1 (nI k) = if pr k = true then 1 else 0 := by decide +kernel
set_option maxRecDepth 100000 in
theorem E_2 : ∀ k, k < 6 → ∀ i, i < mny k → F_2 (nI k) (nI i) = some (nI (fa k i)) := by decide +kernel
set_option maxRecDepth 100000 in
theorem E_3 : ∀ k, k < 6 → ∀ i, i < mny k → F_3 (nI k) (nI i) = some (nI (fb k i)) := by decide +kernel
theorem E_6 : ∀ h, h < 12 → F_6 (nI h) = nI (hsz h) := by decide +kernel
theorem E_8 : ∀ h, h < 12 → ∀ p, p < 3 → F_8 (nI h) (nI p) = nI (hwt h p) := by decide +kernel
theorem E_9 : ∀ h, h < 12 → F_9 (nI h) = nI (hcn h 1) := by decide +kernel
theorem E_10 : ∀ h, h < 12 → F_10 (nI h) = nI (hcn h 0) := by decide +kernel
theorem E_11 : ∀ h, h < 12 → ∀ p, p < hsz h → F_11 (nI h) (nI p) = nI (flp h p) := by decide +kernel
theorem E_151 : ∀ h, h < 12 → F_151 (nI h) = nI (hsz h) := by decide +kernel
theorem E_152 : ∀ h, h < 12 → ∀ p, p < 3 → F_152 (nI h) (nI p) = nI (hwt h p) := by decide +kernel
theorem E_153 : ∀ h, h < 12 → ∀ p, p < hsz h → F_153 (nI h) ((1 : Int32) <<< (nI p &&& 31)) = nI (flp h p) := by decide +kernel
set_option maxRecDepth 100000 in
theorem E_166 : ∀ h, h < 12 → ∀ t, t < 2 → F_166 (nI h) (nI t) = some (nI (hcn h t)) := by decide +kernel
/-- what a form chooses in a hall -/
def frm (f h : Nat) : Nat := (F_13 (nI f) (nI h)).toNatClampNeg
set_option maxRecDepth 100000 in
theorem E_13 : ∀ f, f < 12 → ∀ h, h < 12 → F_13 (nI f) (nI h) = nI (frm f h) ∧ 1 ≤ frm f h ∧ frm f h ≤ 3 := by decide +kernel
set_option maxRecDepth 100000 in
theorem E_172 : ∀ f, f < 12 → ∀ h, h < 12 → F_172 (nI f) (nI h) = some (nI (frm f h)) := by decide +kernel
/-! checks of a number's range -/
def rg (x : Int32) (n : Nat) : Prop := ∃ j, j < n ∧ x = nI j
theorem rg_lt {x : Int32} {m : Nat} (hm : m + 1 < 2147483648) (h : ¬ rg x (m + 1)) : x < 0 ∨ (¬ x < 0 ∧ nI m < x ∧ nI (m + 1) ≤ x) := by
  by_cases h0 : x < 0
  · exact Or.inl h0
  · refine Or.inr ⟨h0, ?_⟩
    have e0 : 0 ≤ x := Int32.not_lt.mp h0
    have e := ni_of e0
    have hl : x.toNatClampNeg < 2147483648 := Int32.toNatClampNeg_lt x
    have : ¬ x.toNatClampNeg < m + 1 := fun q => h ⟨_, q, e⟩
    rw [e, ni_lti (by omega) hl, ni_lei (by omega) hl]
    exact ⟨by omega, by omega⟩
theorem wn_in {j m : Nat} (hj : j ≤ m) (hm : m < 2147483648) : F_157 (nI j) 0 (nI m) = 1 := by
  unfold F_157
  rw [if_neg (nI_pos (by omega)), if_neg (nI_nlt hj hm)]
theorem wn_out {x : Int32} {m : Nat} (hm : m + 1 < 2147483648) (h : ¬ rg x (m + 1)) : F_157 x 0 (nI m) = 0 := by
  unfold F_157
  rcases rg_lt hm h with h0 | ⟨h0, h1, -⟩
  · rw [if_pos h0]
  · rw [if_neg h0, if_pos h1]
theorem rn_in {j n : Nat} (hj : j < n) (hn : n < 2147483648) : (if nI j < 0 then (0 : Int32) else (if nI n ≤ nI j then 0 else 1)) = 1 := by
  rw [if_neg (nI_pos (by omega)), if_neg (nI_ge hj hn)]
theorem rn_out {x : Int32} {m : Nat} (hm : m + 1 < 2147483648) (h : ¬ rg x (m + 1)) : (if x < 0 then (0 : Int32) else (if nI (m + 1) ≤ x then 0 else 1)) = 0 := by
  rcases rg_lt hm h with h0 | ⟨h0, -, h1⟩
  · rw [if_pos h0]
  · rw [if_neg h0, if_pos h1]
theorem ck_5 (x : Int32) : (∃ j, j < 12 ∧ x = nI j ∧ F_5 x = 1 ∧ F_158 x = 1) ∨ (F_5 x = 0 ∧ F_158 x = 0) := by
  by_cases h : rg x 12
  · obtain ⟨j, hj, rfl⟩ := h
    exact Or.inl ⟨j, hj, rfl, rn_in hj (by decide), wn_in (m := 11) (by omega) (by decide)⟩
  · exact Or.inr ⟨rn_out (by decide) h, wn_out (m := 11) (by decide) h⟩
theorem ck_137 (x : Int32) : (∃ j, j < 6 ∧ x = nI j ∧ F_137 x = 1 ∧ F_157 x 0 5 = 1) ∨ (F_137 x = 0 ∧ F_157 x 0 5 = 0) := by
  by_cases h : rg x 6
  · obtain ⟨j, hj, rfl⟩ := h
    exact Or.inl ⟨j, hj, rfl, rn_in hj (by decide), wn_in (m := 5) (by omega) (by decide)⟩
  · exact Or.inr ⟨rn_out (by decide) h, wn_out (m := 5) (by decide) h⟩
theorem ck_136 (x : Int32) : (∃ j, j < 4 ∧ x = nI j ∧ F_136 x = 1 ∧ F_242 x = 1) ∨ (F_136 x = 0 ∧ F_242 x = 0) := by
  by_cases h : rg x 4
  · obtain ⟨j, hj, rfl⟩ := h
    exact Or.inl ⟨j, hj, rfl, rn_in hj (by decide), wn_in (m := 3) (by omega) (by decide)⟩
  · exact Or.inr ⟨rn_out (by decide) h, wn_out (m := 3) (by decide) h⟩
theorem ck_138 (x : Int32) : (∃ j, j < 100 ∧ x = nI j ∧ F_138 x = 1 ∧ F_157 x 0 99 = 1) ∨ (F_138 x = 0 ∧ F_157 x 0 99 = 0) := by
  by_cases h : rg x 100
  · obtain ⟨j, hj, rfl⟩ := h
    exact Or.inl ⟨j, hj, rfl, wn_in (m := 99) (by omega) (by decide), wn_in (m := 99) (by omega) (by decide)⟩
  · exact Or.inr ⟨wn_out (m := 99) (by decide) h, wn_out (m := 99) (by decide) h⟩
theorem ck_139 (x : Int32) : (∃ c, 1 ≤ c ∧ c ≤ 3 ∧ x = nI c ∧ F_139 x = 1 ∧ F_159 x = 1) ∨ (F_139 x = 0 ∧ F_159 x = 0) := by
  by_cases h : rg x 4
  · obtain ⟨j, hj, rfl⟩ := h
    by_cases h1 : 1 ≤ j
    · left
      refine ⟨j, h1, by omega, rfl, ?_⟩
      revert j; decide +kernel
    · right
      obtain rfl : j = 0 := by omega
      exact ⟨rfl, rfl⟩
  · right
    have : F_139 x = 0 := by
      unfold F_139
      rcases rg_lt (m := 3) (by decide) h with h0 | ⟨h0, h1, -⟩
      · rw [if_pos (Int32.lt_trans h0 (by decide))]
      · by_cases h2 : x < 1
        · rw [if_pos h2]
        · rw [if_neg h2, if_pos (show (3 : Int32) < x from h1)]
    exact ⟨this, this⟩
theorem ck_133 {M : IM} {n : Nat} (hn : n ≤ 8) (h1 : M 1 2 = nI n) (h2 : M 78 0 = nI n) (x : Int32) : (∃ j, j < n ∧ x = nI j ∧ F_133 x M = 1 ∧ F_160 x M = 1) ∨ (F_133 x M = 0 ∧ F_160 x M = 0) := by
  have e160 : F_160 x M = F_157 x 0 (nI n - 1) := by
    unfold F_160
    rw [show M 78 (0 : Int32).toNatClampNeg = nI n from h2]
  have e133 : F_133 x M = (if x < 0 then (0 : Int32) else (if nI n ≤ x then 0 else 1)) := by
    unfold F_133
    rw [h1]
  rw [e160, e133]
  cases n with
  | zero =>
    right
    by_cases h0 : x < 0
    · unfold F_157; rw [if_pos h0, if_pos h0]; exact ⟨rfl, rfl⟩
    · have e0 : (0 : Int32) ≤ x := Int32.not_lt.mp h0
      unfold F_157
      rw [if_neg h0, if_neg h0, if_pos (show nI 0 ≤ x from e0), if_pos (show nI 0 - 1 < x from Int32.lt_of_lt_of_le (by decide) e0)]
      exact ⟨rfl, rfl⟩
  | succ m =>
    rw [show nI (m + 1) - 1 = nI m from (ni_sub (b := 1) (by omega)).trans rfl]
    by_cases h : rg x (m + 1)
    · obtain ⟨j, hj, rfl⟩ := h
      exact Or.inl ⟨j, hj, rfl, rn_in hj (by omega), wn_in (by omega) (by omega)⟩
    · exact Or.inr ⟨rn_out (by omega) h, wn_out (by omega) h⟩
theorem pw_n : ∀ n, n ≤ 8 → (1 : Int32) <<< (nI n &&& 31) = nI (2 ^ n) ∧ 0 < 2 ^ n ∧ 2 ^ n ≤ 256 := by decide +kernel
theorem ck_135 {M : IM} {n : Nat} (hn : n ≤ 8) (h1 : M 1 2 = nI n) (h2 : M 78 0 = nI n) (x : Int32) : (∃ j, j < 2 ^ n ∧ x = nI j ∧ F_135 x M = 1 ∧ F_161 x M = 1) ∨ (F_135 x M = 0 ∧ F_161 x M = 0) := by
  obtain ⟨e, e1, e2⟩ := pw_n n hn
  have e161 : F_161 x M = F_157 x 0 (nI (2 ^ n) - 1) := by
    unfold F_161
    rw [show M 78 (0 : Int32).toNatClampNeg = nI n from h2, e]
  have e135 : F_135 x M = (if x < 0 then (0 : Int32) else (if nI (2 ^ n) ≤ x then 0 else 1)) := by
    unfold F_135
    rw [h1, e]
  rw [e161, e135]
  obtain ⟨m, hm⟩ : ∃ m, 2 ^ n = m + 1 := ⟨2 ^ n - 1, by omega⟩
  rw [hm, show nI (m + 1) - 1 = nI m from (ni_sub (b := 1) (by omega)).trans rfl]
  by_cases h : rg x (m + 1)
  · obtain ⟨j, hj, rfl⟩ := h
    exact Or.inl ⟨j, hj, rfl, rn_in hj (by omega), wn_in (by omega) (by omega)⟩
  · exact Or.inr ⟨rn_out (by omega) h, wn_out (by omega) h⟩
