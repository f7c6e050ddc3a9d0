/-! loops that run through a row -/
theorem loopN_it {σ ρ : Type} {B : σ → Option (σ ⊕ ρ)} (S : Nat → σ) {r : ρ} {N : Nat} (step : ∀ k, k < N → B (S k) = some (.inl (S (k + 1)))) (out : B (S N) = some (.inr r)) : ∀ (n k : Nat), k ≤ N → N - k < n → loopN B n (S k) = some r := by
  intro n
  induction n with
  | zero => intro k _ h; exact absurd h (Nat.not_lt_zero _)
  | succ n ih =>
    intro k hk hn
    by_cases e : k = N
    · subst e; exact loopN_out (Nat.succ_pos _) out
    · rw [loopN_go (Nat.succ_pos _) (step k (by omega))]
      exact ih (k + 1) (by omega) (by omega)
theorem loopI {σ ρ : Type} {B : σ → Option (σ ⊕ ρ)} (S : Nat → σ) {r : ρ} (N : Nat) (hN : N < 100000) (step : ∀ k, k < N → B (S k) = some (.inl (S (k + 1)))) (out : B (S N) = some (.inr r)) : loopN B FU (S 0) = some r :=
  loopN_it S step out FU 0 (Nat.zero_le _) (by show N - 0 < 100000; omega)
/-- places lo to hi of a row written -/
def wr (M : IM) (t lo hi : Nat) (f : Nat → Int32) : IM := fun a j => if a = t ∧ lo ≤ j ∧ j < hi then f j else M a j
theorem wr_eq (M : IM) (t lo hi : Nat) (f : Nat → Int32) (a j : Nat) : wr M t lo hi f a j = if a = t ∧ lo ≤ j ∧ j < hi then f j else M a j := rfl
theorem wr_in {M : IM} {t lo hi j : Nat} {f : Nat → Int32} (h1 : lo ≤ j) (h2 : j < hi) : wr M t lo hi f t j = f j := if_pos ⟨rfl, h1, h2⟩
theorem wr_k {M : IM} {t lo hi a j : Nat} {f : Nat → Int32} (h : a ≠ t) : wr M t lo hi f a j = M a j := if_neg (fun z => h z.1)
theorem wr_lo {M : IM} {t lo hi a j : Nat} {f : Nat → Int32} (h : j < lo) : wr M t lo hi f a j = M a j := if_neg (fun z => by omega)
theorem wr_hi {M : IM} {t lo hi a j : Nat} {f : Nat → Int32} (h : hi ≤ j) : wr M t lo hi f a j = M a j := if_neg (fun z => by omega)
theorem wr_0 (M : IM) (t lo : Nat) (f : Nat → Int32) : wr M t lo lo f = M := by
  funext a j; exact if_neg (fun z => by omega)
theorem wr_s {M : IM} {t lo k : Nat} {f : Nat → Int32} {x : Int32} (hk : lo ≤ k) (hx : x = f k) : iset (wr M t lo k f) t k x = wr M t lo (k + 1) f := by
  funext a j
  rw [iset_eq, wr_eq, wr_eq, hx]
  by_cases e : a = t ∧ j = k
  · obtain ⟨rfl, rfl⟩ := e
    rw [if_pos ⟨rfl, rfl⟩, if_pos ⟨rfl, hk, by omega⟩]
  · rw [if_neg e]
    by_cases g : a = t ∧ lo ≤ j ∧ j < k
    · rw [if_pos g, if_pos ⟨g.1, g.2.1, by omega⟩]
    · rw [if_neg g, if_neg (fun z => by
        by_cases q : j = k
        · exact e ⟨z.1, q⟩
        · exact g ⟨z.1, z.2.1, by omega⟩)]
theorem icpy_wr (M : IM) (sk sp dk dp m : Nat) : icpy M sk sp dk dp m = wr M dk dp (dp + m) (fun j => M sk (sp + (j - dp))) := by
  funext a j; rw [icpy_eq, wr_eq]
theorem fill_ok (t : Nat) (x : Int32) (M : IM) (hL : ln t < 100000) : F_256 t x M = some (wr M t 0 (ln t) (fun _ => x)) := by
  unfold F_256 L_256_5
  have h := loopI (B := B_256_5 t x (Int32.ofNat (ln t))) (fun k => (nI k, wr M t 0 k (fun _ => x))) (r := (nI (ln t), wr M t 0 (ln t) (fun _ => x))) (ln t) hL (fun k hk => by
    unfold B_256_5
    simp (disch := omega) only [lit_nI, ni_ofNat, ni_add, ni_lti, ni_lei, ni_eqi, ni_cl, inb_nI, if_pos, if_neg, if_true, if_false]
    rw [wr_s (Nat.zero_le _) rfl]) (by
    unfold B_256_5
    simp (disch := omega) only [lit_nI, ni_ofNat, ni_add, ni_lti, ni_lei, ni_eqi, ni_cl, inb_nI, if_pos, if_neg, if_true, if_false])
  rw [show ((0 : Int32), M) = (nI 0, wr M t 0 0 (fun _ => x)) by rw [wr_0]; rfl, h]
theorem fill2_ok (t : Nat) (lo hi : Nat) (x : Int32) (M : IM) (hl : lo ≤ hi) (hh : hi ≤ ln t) (hL : ln t < 100000) : F_257 t (nI lo) (nI hi) x M = some (wr M t lo hi (fun _ => x)) := by
  unfold F_257 L_257_10 F_255
  simp (disch := omega) only [lit_nI, ni_ofNat, ni_add, ni_lti, ni_lei, ni_eqi, ni_cl, inb_nI, if_pos, if_neg, if_true, if_false]
  have h := loopI (B := B_257_10 t (nI hi) x) (fun k => (nI (lo + k), wr M t lo (lo + k) (fun _ => x))) (r := (nI (lo + (hi - lo)), wr M t lo (lo + (hi - lo)) (fun _ => x))) (hi - lo) (by omega) (fun k hk => by
    unfold B_257_10
    simp (disch := omega) only [lit_nI, ni_ofNat, ni_add, ni_lti, ni_lei, ni_eqi, ni_cl, inb_nI, if_pos, if_neg, if_true, if_false]
    rw [wr_s (by omega) rfl]
    rfl) (by
    unfold B_257_10
    simp (disch := omega) only [lit_nI, ni_ofNat, ni_add, ni_lti, ni_lei, ni_eqi, ni_cl, inb_nI, if_pos, if_neg, if_true, if_false])
  simp only [Nat.add_zero, wr_0] at h
  rw [h, show lo + (hi - lo) = hi by omega]
/-! sums -/
def sumT : Nat → (Nat → Nat) → Nat
  | 0, _ => 0
  | n + 1, f => sumT n f + f n
theorem sumT_le {f : Nat → Nat} {b : Nat} : ∀ {n : Nat}, (∀ k, k < n → f k ≤ b) → sumT n f ≤ n * b
  | 0, _ => Nat.zero_le _
  | n + 1, h => by
    have := sumT_le (n := n) (fun k hk => h k (by omega))
    have := h n (by omega)
    simp only [sumT, Nat.succ_mul]
    omega
theorem sumT_cg {f g : Nat → Nat} : ∀ {n : Nat}, (∀ k, k < n → f k = g k) → sumT n f = sumT n g
  | 0, _ => rfl
  | n + 1, h => by
    simp only [sumT]
    rw [sumT_cg (n := n) (fun k hk => h k (by omega)), h n (by omega)]
/-! laws: what both sides read of them -/
theorem isOf_ok {n s l : Nat} {M : IM} {t : Nat} (hn : n ≤ 8) (hs : s < 256) (h : M t 2 = nI n) (hl : l < n) : F_83 t (nI s) (nI l) M = if s.testBit l = true then 1 else 0 := by
  unfold F_83
  rw [h]
  simp (disch := omega) only [if_pos, if_neg, if_true, if_false, ni_nn, ni_lei, bit0]
  cases s.testBit l <;> simp
theorem has_ok {s l : Nat} (hs : s < 2147483648) (hl : l < 32) : F_162 (nI s) (nI l) = if s.testBit l = true then 1 else 0 := by
  unfold F_162
  simp only [bit1 hs hl]
def priceS (n : Nat) (P : Nat → Nat) (s : Nat) : Nat := sumT n (fun l => if s.testBit l = true then P l else 0)
theorem priceS_le {n s : Nat} {P : Nat → Nat} (hn : n ≤ 8) (hP : ∀ l, l < n → P l < 100) : priceS n P s ≤ 800 := by
  have : priceS n P s ≤ n * 100 := sumT_le (fun k hk => by
    have := hP k hk
    split <;> omega)
  omega
theorem cost_c {t n s : Nat} {K P : Nat → Nat} {tb : Nat → Nat → Nat} {M : IM} (hW : LW n K P tb) (hs : s < 256) (h : LC t n K P tb M) : F_84 t (nI s) M = some (nI (priceS n P s)) := by
  have hn := hW.1
  unfold F_84 L_84_4
  have hle : ∀ k, k ≤ n → priceS k P s ≤ 800 := fun k hk => priceS_le (by omega) (fun l hl => (hW.2 l (by omega)).2.1)
  have g := loopI (B := B_84_4 t (nI s) M) (fun k => (nI (priceS k P s), nI k)) (r := (nI (priceS n P s), nI n)) n (by omega) (fun k hk => by
    obtain ⟨h1, h2, h3⟩ := h.2 k hk
    unfold B_84_4 J_84_33_4
    dsimp only
    have e : priceS (k + 1) P s = priceS k P s + (if s.testBit k = true then P k else 0) := rfl
    rw [h.1, isOf_ok hn hs h.1 hk, e]
    cases hb : s.testBit k
    · simp (disch := omega) only [lit_nI, ni_ofNat, ni_add, ni_lti, ni_lei, ni_eqi, ni_cl, inb_nI, if_pos, if_neg, if_true, if_false, Bool.false_eq_true, Nat.add_zero]
    · simp (disch := omega) only [lit_nI, ni_ofNat, ni_add, ni_lti, ni_lei, ni_eqi, ni_cl, inb_nI, if_pos, if_neg, if_true, if_false, h2]) (by
    unfold B_84_4
    rw [h.1]
    simp (disch := omega) only [lit_nI, ni_ofNat, ni_add, ni_lti, ni_lei, ni_eqi, ni_cl, inb_nI, if_pos, if_neg, if_true, if_false])
  rw [show ((0 : Int32), (0 : Int32)) = (nI (priceS 0 P s), nI 0) from rfl, g]
