/-! few -/
theorem pc_g {x : Nat} (hx : x < 2147483648) : F_225 (nI x) = some (nI (pcN x)) := by
  unfold F_225 L_225_4 pcN
  have g := loopI (B := B_225_4 (nI x)) (fun k => (nI (sumT k (fun k => x / 2 ^ k % 2)), nI k)) (r := (nI (sumT 12 (fun k => x / 2 ^ k % 2)), nI 12)) 12 (by decide) (fun k hk => by
    unfold B_225_4
    dsimp only
    have e : (nI x >>> (nI k &&& 31)) &&& 1 = nI (x / 2 ^ k % 2) := by
      rw [ni_shr (by omega) hx, show (1 : Int32) = nI 1 from rfl, ni_and, and_one, Nat.shiftRight_eq_div_pow]
    rw [if_neg (show ¬ (12 : Int32) ≤ nI k from nI_ge (b := 12) hk (by decide)), e, ni_add, ni_add1]
    rfl) rfl
  rw [show ((0 : Int32), (0 : Int32)) = (nI (sumT 0 (fun k => x / 2 ^ k % 2)), nI 0) from rfl, g]
def pcF (x : Nat) : Nat := 0 + x / 1 % 2 + x / 2 % 2 + x / 4 % 2 + x / 8 % 2 + x / 16 % 2 + x / 32 % 2 + x / 64 % 2 + x / 128 % 2 + x / 256 % 2 + x / 512 % 2 + x / 1024 % 2 + x / 2048 % 2
theorem pcF_eq (x : Nat) : pcN x = pcF x := rfl
def nxN (H : Nat) : Nat := (H + (H &&& (8192 - H))) ||| ((H ^^^ (H + (H &&& (8192 - H)))) / (H &&& (8192 - H)) / 4)
def nxC (H : Nat) : Bool := (match F_32 (nI H) with | some x => decide (x = nI (nxN H)) | none => false) && Nat.blt H (nxN H) && Nat.blt (nxN H) 8192 && (Nat.ble 4096 (nxN H) || Nat.beq (pcF (nxN H)) (pcF H))
def scn : Nat → Nat → Nat → Bool
  | 0, _, _ => true
  | f + 1, y, t => !(Nat.beq (pcF y) t) && scn f (y + 1) t
def nxS (H : Nat) : Bool := scn (min (nxN H) 4096 - H - 1) (H + 1) (pcF H)
theorem scn_ok {t : Nat} : ∀ (f y : Nat), scn f y t = true → ∀ i, i < f → pcF (y + i) ≠ t
  | 0, _, _, i, hi => absurd hi (Nat.not_lt_zero _)
  | f + 1, y, h, i, hi => by
    simp only [scn, Bool.and_eq_true, Bool.not_eq_true'] at h
    by_cases e : i = 0
    · subst e
      intro z
      rw [Nat.add_zero] at z
      rw [z, Nat.beq_refl] at h
      cases h.1
    · have := scn_ok f (y + 1) h.2 (i - 1) (by omega)
      rw [show y + 1 + (i - 1) = y + i by omega] at this
      exact this
set_option maxRecDepth 100000 in
theorem nx_b0 : ∀ H, H < 256 → (Nat.beq (0 + H) 0 || (nxC (0 + H) && nxS (0 + H))) = true := by decide +kernel
set_option maxRecDepth 100000 in
theorem nx_b1 : ∀ H, H < 256 → (Nat.beq (256 + H) 0 || (nxC (256 + H) && nxS (256 + H))) = true := by decide +kernel
set_option maxRecDepth 100000 in
theorem nx_b2 : ∀ H, H < 256 → (Nat.beq (512 + H) 0 || (nxC (512 + H) && nxS (512 + H))) = true := by decide +kernel
set_option maxRecDepth 100000 in
theorem nx_b3 : ∀ H, H < 256 → (Nat.beq (768 + H) 0 || (nxC (768 + H) && nxS (768 + H))) = true := by decide +kernel
set_option maxRecDepth 100000 in
theorem nx_b4 : ∀ H, H < 256 → (Nat.beq (1024 + H) 0 || (nxC (1024 + H) && nxS (1024 + H))) = true := by decide +kernel
set_option maxRecDepth 100000 in
theorem nx_b5 : ∀ H, H < 256 → (Nat.beq (1280 + H) 0 || (nxC (1280 + H) && nxS (1280 + H))) = true := by decide +kernel
set_option maxRecDepth 100000 in
theorem nx_b6 : ∀ H, H < 256 → (Nat.beq (1536 + H) 0 || (nxC (1536 + H) && nxS (1536 + H))) = true := by decide +kernel
set_option maxRecDepth 100000 in
theorem nx_b7 : ∀ H, H < 256 → (Nat.beq (1792 + H) 0 || (nxC (1792 + H) && nxS (1792 + H))) = true := by decide +kernel
set_option maxRecDepth 100000 in
theorem nx_b8 : ∀ H, H < 256 → (Nat.beq (2048 + H) 0 || (nxC (2048 + H) && nxS (2048 + H))) = true := by decide +kernel
set_option maxRecDepth 100000 in
theorem nx_b9 : ∀ H, H < 256 → (Nat.beq (2304 + H) 0 || (nxC (2304 + H) && nxS (2304 + H))) = true := by decide +kernel
set_option maxRecDepth 100000 in
theorem nx_b10 : ∀ H, H < 256 → (Nat.beq (2560 + H) 0 || (nxC (2560 + H) && nxS (2560 + H))) = true := by decide +kernel
set_option maxRecDepth 100000 in
theorem nx_b11 : ∀ H, H < 256 → (Nat.beq (2816 + H) 0 || (nxC (2816 + H) && nxS (2816 + H))) = true := by decide +kernel
set_option maxRecDepth 100000 in
theorem nx_b12 : ∀ H, H < 256 → (Nat.beq (3072 + H) 0 || (nxC (3072 + H) && nxS (3072 + H))) = true := by decide +kernel
set_option maxRecDepth 100000 in
theorem nx_b13 : ∀ H, H < 256 → (Nat.beq (3328 + H) 0 || (nxC (3328 + H) && nxS (3328 + H))) = true := by decide +kernel
set_option maxRecDepth 100000 in
theorem nx_b14 : ∀ H, H < 256 → (Nat.beq (3584 + H) 0 || (nxC (3584 + H) && nxS (3584 + H))) = true := by decide +kernel
set_option maxRecDepth 100000 in
theorem nx_b15 : ∀ H, H < 256 → (Nat.beq (3840 + H) 0 || (nxC (3840 + H) && nxS (3840 + H))) = true := by decide +kernel
theorem nx_a {H : Nat} (hH : H < 4096) (h0 : H ≠ 0) : nxC H = true ∧ nxS H = true := by
  have key : ∀ j, j < 16 → ∀ H, H < 256 → (Nat.beq (256 * j + H) 0 || (nxC (256 * j + H) && nxS (256 * j + H))) = true
    | 0, _ => nx_b0
    | 1, _ => nx_b1
    | 2, _ => nx_b2
    | 3, _ => nx_b3
    | 4, _ => nx_b4
    | 5, _ => nx_b5
    | 6, _ => nx_b6
    | 7, _ => nx_b7
    | 8, _ => nx_b8
    | 9, _ => nx_b9
    | 10, _ => nx_b10
    | 11, _ => nx_b11
    | 12, _ => nx_b12
    | 13, _ => nx_b13
    | 14, _ => nx_b14
    | 15, _ => nx_b15
    | j + 16, h => absurd h (by omega)
  have := key (H / 256) (by omega) (H % 256) (by omega)
  rw [show 256 * (H / 256) + H % 256 = H by omega, beqf h0, Bool.false_or, Bool.and_eq_true] at this
  exact this
theorem nx_k (H : Nat) (hH : H < 4096) (h0 : H ≠ 0) : F_32 (nI H) = some (nI (nxN H)) ∧ H < nxN H ∧ nxN H < 8192 ∧ (nxN H < 4096 → pcN (nxN H) = pcN H) := by
  have h := (nx_a hH h0).1
  unfold nxC at h
  simp only [Bool.and_eq_true, Bool.or_eq_true] at h
  obtain ⟨⟨⟨h1, h2⟩, h3⟩, h4⟩ := h
  refine ⟨?_, Nat.blt_eq.mp h2, Nat.blt_eq.mp h3, fun z => ?_⟩
  · cases e : F_32 (nI H) with
    | none => rw [e] at h1; cases h1
    | some x => rw [e] at h1; rw [of_decide_eq_true h1]
  · rcases h4 with h4 | h4
    · have := Nat.ble_eq.mp h4; omega
    · exact Nat.eq_of_beq_eq_true h4
theorem nx_gap {H y : Nat} (hH : H < 4096) (h0 : H ≠ 0) (h1 : H < y) (h2 : y < nxN H) (h3 : y < 4096) : pcN y ≠ pcN H := by
  have h := (nx_a hH h0).2
  unfold nxS at h
  have := scn_ok _ _ h (y - H - 1) (by omega)
  rw [show H + 1 + (y - H - 1) = y by omega] at this
  exact this
set_option maxRecDepth 100000 in
theorem lo_k : ∀ z, z < 12 → 0 < z → (∀ y, y < 2 ^ z - 1 → pcN y ≠ z) ∧ pcN (2 ^ z - 1) = z ∧ (1 : Int32) <<< (nI z &&& 31) - 1 = nI (2 ^ z - 1) := by decide +kernel
theorem b1j : ∀ k, k < 12 → ∀ j, j < 12 → (1 <<< k).testBit j = decide (j = k) := by decide
theorem b1k : ∀ k, k < 12 → 1 <<< k < 4096 := by decide
theorem dif_sub {H e : Nat} (h : dif H e = 0) {k : Nat} (hk : k < 12) (hb : H.testBit k = true) : e.testBit k = true := by
  have h1 : (dif H e).testBit k = false := by rw [h, Nat.zero_testBit]
  unfold dif at h1
  rw [Nat.testBit_and, Nat.testBit_xor, hb, show (4294967295 : Nat) = 2 ^ 32 - 1 from rfl, Nat.testBit_two_pow_sub_one, decide_eq_true (show k < 32 by omega)] at h1
  cases e1 : e.testBit k
  · rw [e1] at h1; cases h1
  · rfl
theorem f144 : ∀ m, m < 8 → m ≠ 0 → ∃ c, c < 4 ∧ 1 ≤ c ∧ F_144 (nI m) = nI c ∧ m.testBit (c - 1) = true := by decide
