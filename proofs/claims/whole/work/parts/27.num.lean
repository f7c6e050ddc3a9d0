/-! numbers: Int32 by their naturals -/
theorem lit_nI {n : Nat} : (no_index (OfNat.ofNat n) : Int32) = nI n := rfl
theorem ni_ofNat {n : Nat} : Int32.ofNat n = nI n := rfl
theorem ni_add (a b : Nat) : nI a + nI b = nI (a + b) := (Int32.ofNat_add a b).symm
theorem ni_add1 (a : Nat) : nI a + 1 = nI (a + 1) := ni_add a 1
theorem ni_lti {a b : Nat} (ha : a < 2147483648) (hb : b < 2147483648) : (nI a < nI b) = (a < b) := propext (Int32.ofNat_lt_iff_lt ha hb)
theorem ni_lei {a b : Nat} (ha : a < 2147483648) (hb : b < 2147483648) : (nI a ≤ nI b) = (a ≤ b) := propext (Int32.ofNat_le_iff_le ha hb)
theorem ni_inj {a b : Nat} (ha : a < 2147483648) (hb : b < 2147483648) (h : nI a = nI b) : a = b := by
  have := congrArg Int32.toNatClampNeg h
  rwa [nI_clamp ha, nI_clamp hb] at this
theorem ni_eqi {a b : Nat} (ha : a < 2147483648) (hb : b < 2147483648) : (nI a = nI b) = (a = b) := propext ⟨ni_inj ha hb, fun h => by rw [h]⟩
theorem ni_cl {a : Nat} (ha : a < 2147483648) : (nI a).toNatClampNeg = a := nI_clamp ha
theorem inb_nI {a n : Nat} (ha : a < 2147483648) : (inb (nI a) n = true) = (a < n) := by
  unfold inb
  have h0 : decide (nI a < 0) = false := decide_eq_false (nI_pos ha)
  rw [h0, nI_clamp ha]
  simp
theorem ni_and (a b : Nat) : nI a &&& nI b = nI (a &&& b) := by
  apply Int32.toBitVec_inj.1
  exact (BitVec.ofNat_and).symm
theorem ni_or (a b : Nat) : nI a ||| nI b = nI (a ||| b) := by
  apply Int32.toBitVec_inj.1
  exact (BitVec.ofNat_or).symm
theorem ni_xor (a b : Nat) : nI a ^^^ nI b = nI (a ^^^ b) := by
  apply Int32.toBitVec_inj.1
  exact (BitVec.ofNat_xor).symm
theorem sh_smod : ∀ k, k < 32 → ((nI k &&& 31).toBitVec.smod 32).toNat = k := by decide +kernel
theorem ni_shl {a k : Nat} (hk : k < 32) (h : a * 2 ^ k < 4294967296) : nI a <<< (nI k &&& 31) = nI (a <<< k) := by
  rw [Nat.shiftLeft_eq]
  exact pk_shlN _ k (sh_smod k hk) h
theorem ni_shr {a k : Nat} (hk : k < 32) (h : a < 2147483648) : nI a >>> (nI k &&& 31) = nI (a >>> k) := by
  rw [Nat.shiftRight_eq_div_pow]
  exact pk_shrN h _ k (sh_smod k hk)
theorem ni_sub {a b : Nat} (h : b ≤ a) : nI a - nI b = nI (a - b) := pk_sub h
theorem ni_mul (a b : Nat) : nI a * nI b = nI (a * b) := pk_mul a b
theorem ni_div {a d : Nat} (ha : a < 2147483648) (h0 : 0 < d) (hd : d < 2147483648) : nI a / nI d = nI (a / d) := pk_div ha h0 hd
theorem ni_rem {a d : Nat} (ha : a < 2147483648) (h0 : 0 < d) (hd : d < 2147483648) : nI a - nI a / nI d * nI d = nI (a % d) := pk_rem ha h0 hd
theorem ni_neg1 : (-1 : Int32) < 0 := by decide
theorem ni_nn {n : Nat} (h : n < 2147483648) : (nI n < 0) = False := eq_false (nI_pos h)
theorem ni_nn' {n : Nat} (h : n < 2147483648) : (0 ≤ nI n) = True := eq_true (nI_pos' h)
theorem ni_ne_neg {n : Nat} (h : n < 2147483648) {x : Int32} (hx : x < 0) : (nI n = x) = False := eq_false (fun e => nI_pos h (e ▸ hx))
theorem ni_of {x : Int32} (h : 0 ≤ x) : x = nI x.toNatClampNeg := (Int32.ofNat_toNatClampNeg x h).symm
theorem I_tri (x : Int32) {n : Nat} (hn : n < 2147483648) : x < 0 ∨ nI n ≤ x ∨ ∃ j : Nat, j < n ∧ x = nI j := pk_ix x hn
/-- a bit of a number, the number's bits beyond it gone -/
theorem and_one (a : Nat) : a &&& 1 = a % 2 := Nat.and_one_is_mod a
theorem tb_shr (a k : Nat) : (a >>> k &&& 1) = (if a.testBit k then 1 else 0) := by
  rw [Nat.testBit, and_one]
  by_cases h : (1 &&& a >>> k) != 0
  · rw [if_pos h]
    rw [Nat.and_comm, and_one] at h
    simp at h
    omega
  · rw [if_neg h]
    rw [Nat.and_comm, and_one] at h
    simp at h
    omega
theorem bit0 {a k : Nat} (ha : a < 2147483648) (hk : k < 32) : ((nI a >>> (nI k &&& 31)) &&& 1 = 0) = (a.testBit k = false) := by
  rw [ni_shr hk ha, show (1 : Int32) = nI 1 from rfl, ni_and, tb_shr, show (0 : Int32) = nI 0 from rfl]
  cases a.testBit k
  · rw [if_neg (by decide)]; exact propext ⟨fun _ => rfl, fun _ => rfl⟩
  · rw [if_pos rfl]; exact propext ⟨fun h => absurd h (by decide), fun h => absurd h (by decide)⟩
theorem bit1 {a k : Nat} (ha : a < 2147483648) (hk : k < 32) : ((nI a >>> (nI k &&& 31)) &&& 1 = 1) = (a.testBit k = true) := by
  rw [ni_shr hk ha, show (1 : Int32) = nI 1 from rfl, ni_and, tb_shr]
  cases a.testBit k
  · rw [if_neg (by decide)]; exact propext ⟨fun h => absurd h (by decide), fun h => absurd h (by decide)⟩
  · rw [if_pos rfl]; exact propext ⟨fun _ => rfl, fun _ => rfl⟩
/-! loops -/
theorem loopN_go {σ ρ : Type} {body : σ → Option (σ ⊕ ρ)} {n : Nat} {s s' : σ} (hn : 0 < n) (h : body s = some (.inl s')) : loopN body n s = loopN body (n - 1) s' := by
  obtain ⟨m, rfl⟩ : ∃ m, n = m + 1 := ⟨n - 1, by omega⟩
  show loopN body (m + 1) s = loopN body m s'
  conv => lhs; unfold loopN
  rw [h]
theorem loopN_out {σ ρ : Type} {body : σ → Option (σ ⊕ ρ)} {n : Nat} {s : σ} {r : ρ} (hn : 0 < n) (h : body s = some (.inr r)) : loopN body n s = some r := by
  obtain ⟨m, rfl⟩ : ∃ m, n = m + 1 := ⟨n - 1, by omega⟩
  unfold loopN
  rw [h]
theorem loopN_ex {σ ρ : Type} {body : σ → Option (σ ⊕ ρ)} (I : Nat → σ → Prop) (Q : ρ → Prop) (N : Nat)
    (step : ∀ k s, k ≤ N → I k s → (∃ r, body s = some (.inr r) ∧ Q r) ∨ (k < N ∧ ∃ s', body s = some (.inl s') ∧ I (k + 1) s')) :
    ∀ (n k : Nat) (s : σ), k ≤ N → N - k < n → I k s → ∃ r, loopN body n s = some r ∧ Q r := by
  intro n
  induction n with
  | zero => intro k s _ h; exact absurd h (Nat.not_lt_zero _)
  | succ n ih =>
    intro k s hk hn hI
    rcases step k s hk hI with ⟨r, h1, h2⟩ | ⟨h0, s', h1, h2⟩
    · exact ⟨r, loopN_out (Nat.succ_pos _) h1, h2⟩
    · rw [loopN_go (Nat.succ_pos _) h1]
      exact ih (k + 1) s' (by omega) (by omega) h2
theorem loopF {σ ρ : Type} {body : σ → Option (σ ⊕ ρ)} (I : Nat → σ → Prop) (Q : ρ → Prop) (N : Nat) (hN : N < 100000) {s : σ} (h0 : I 0 s)
    (step : ∀ k s, k ≤ N → I k s → (∃ r, body s = some (.inr r) ∧ Q r) ∨ (k < N ∧ ∃ s', body s = some (.inl s') ∧ I (k + 1) s')) :
    ∃ r, loopN body FU s = some r ∧ Q r :=
  loopN_ex I Q N step FU 0 s (Nat.zero_le _) (by show N - 0 < 100000; omega) h0
/-! memory -/
theorem iset_same (M : IM) (k j : Nat) (x : Int32) : iset M k j x k j = x := by unfold iset; simp
theorem iset_k {M : IM} {k j k' j' : Nat} {x : Int32} (h : k' ≠ k) : iset M k j x k' j' = M k' j' := by unfold iset; rw [beqf h]; rfl
theorem iset_j {M : IM} {k j k' j' : Nat} {x : Int32} (h : j' ≠ j) : iset M k j x k' j' = M k' j' := by unfold iset; rw [beqf h, Bool.and_false]; rfl
theorem iset_eq (M : IM) (k j k' j' : Nat) (x : Int32) : iset M k j x k' j' = if k' = k ∧ j' = j then x else M k' j' := by
  by_cases h : k' = k
  · subst h
    by_cases h2 : j' = j
    · subst h2; rw [iset_same, if_pos ⟨rfl, rfl⟩]
    · rw [iset_j h2, if_neg (fun z => h2 z.2)]
  · rw [iset_k h, if_neg (fun z => h z.1)]
theorem icpy_eq (M : IM) (sk sp dk dp m k j : Nat) : icpy M sk sp dk dp m k j = if k = dk ∧ dp ≤ j ∧ j < dp + m then M sk (sp + (j - dp)) else M k j := by
  unfold icpy
  by_cases h : k = dk ∧ dp ≤ j ∧ j < dp + m
  · rw [if_pos h, h.1, show Nat.beq dk dk = true from Nat.beq_refl dk, Nat.ble_eq.mpr h.2.1, Nat.blt_eq.mpr h.2.2]; rfl
  · rw [if_neg h]
    cases hg : (Nat.beq k dk && Nat.ble dp j && Nat.blt j (dp + m)) with
    | false => rfl
    | true =>
      simp only [Bool.and_eq_true] at hg
      exact absurd ⟨Nat.eq_of_beq_eq_true hg.1.1, Nat.ble_eq.mp hg.1.2, Nat.blt_eq.mp hg.2⟩ h
/-- nothing but cells of K has changed -/
def Off (K : Nat → Bool) (M M' : IM) : Prop := ∀ k j, K k = false → M' k j = M k j
theorem Off.rf (K : Nat → Bool) (M : IM) : Off K M M := fun _ _ _ => rfl
theorem Off.tr {K : Nat → Bool} {M M1 M2 : IM} (h : Off K M M1) (h2 : Off K M1 M2) : Off K M M2 := fun k j hk => (h2 k j hk).trans (h k j hk)
theorem Off.wk {K K' : Nat → Bool} {M M1 : IM} (h : Off K M M1) (hK : ∀ k, K k = true → K' k = true) : Off K' M M1 := fun k j hk => h k j (by
  cases e : K k with
  | false => rfl
  | true => rw [hK k e] at hk; cases hk)
theorem Off.set {K : Nat → Bool} {M M1 : IM} (h : Off K M M1) {a j : Nat} {x : Int32} (ha : K a = true) : Off K M (iset M1 a j x) := fun k j' hk => by
  rw [iset_k (fun e => by subst e; rw [ha] at hk; cases hk)]
  exact h k j' hk
