/-! more calls: kept, word, count, told, tell, trace -/
noncomputable def bP (p : Prop) : Bool := @decide p (Classical.propDecidable p)
theorem bP_t {p : Prop} (h : p) : bP p = true := by unfold bP; exact @decide_eq_true p (Classical.propDecidable p) h
theorem bP_f {p : Prop} (h : ¬ p) : bP p = false := by unfold bP; exact @decide_eq_false p (Classical.propDecidable p) h
theorem bP_iff {p : Prop} : bP p = true ↔ p := by
  by_cases h : p
  · exact ⟨fun _ => h, fun _ => bP_t h⟩
  · exact ⟨fun z => absurd ((bP_f h).symm.trans z) (by decide), fun z => absurd z h⟩
def orT : Nat → (Nat → Bool) → Nat
  | 0, _ => 0
  | n + 1, p => bif p n then orT n p ||| (1 <<< n) else orT n p
theorem orT_lt (p : Nat → Bool) : ∀ n, orT n p < 2 ^ n
  | 0 => Nat.one_pos
  | n + 1 => by
    have ih := orT_lt p n
    have h1 : orT n p < 2 ^ (n + 1) := Nat.lt_of_lt_of_le ih (Nat.pow_le_pow_right (by decide) (by omega))
    simp only [orT]
    cases p n
    · exact h1
    · exact Nat.or_lt_two_pow h1 (by rw [Nat.shiftLeft_eq, Nat.one_mul]; exact Nat.pow_lt_pow_right (by decide) (by omega))
theorem pw_8 {n : Nat} (h : n ≤ 8) : 2 ^ n ≤ 256 := (pw_n n h).2.2
theorem orT_256 {p : Nat → Bool} {n : Nat} (h : n ≤ 8) : orT n p < 256 := Nat.lt_of_lt_of_le (orT_lt p n) (pw_8 h)
theorem one_shl : ∀ k, k < 12 → (1 : Int32) <<< (nI k &&& 31) = nI (1 <<< k) := by decide +kernel
theorem kept_c {n : Nat} {K P : Nat → Nat} {tb : Nat → Nat → Nat} {q : Nat → Nat} {M : IM} (hC : C1 n K P tb M) (hq : RU 1 78 q M) : F_106 M = some (nI (orT n (fun l => bP (keeps K tb l q)))) := by
  have hn := hC.1.1
  unfold F_106 L_106_4
  have g := loopI (B := B_106_4 M) (fun k => (nI (orT k (fun l => bP (keeps K tb l q))), nI k)) (r := (nI (orT n (fun l => bP (keeps K tb l q))), nI n)) n (by omega) (fun k hk => by
    obtain ⟨x, hx, fx⟩ := brk_c (r := 2) hC.1 hC.2.1 hk ln2 (q := q) (fun h hh => ⟨(hq h hh).1, (hq h hh).2.1, (hq h hh).2.2.1⟩)
    rw [show 1 + 5 + 2 * k = 6 + 2 * k by omega] at hx
    have hkl := (hC.1.2 k hk).1
    have hm := mny_lt hkl
    unfold B_106_4 J_106_43_4
    dsimp only
    rw [hC.2.1.1]
    simp (disch := omega) only [ni_lei, inb_nI, ni_cl, if_pos, if_neg, if_true, if_false, hx, ni_add1]
    rw [one_shl k (by omega), ni_or]
    simp only [orT]
    rcases fx.sg (by omega) with ⟨s1, s2, s3⟩ | ⟨s1, s2, s3⟩
    · rw [if_neg s2, bP_t (p := keeps K tb k q) s3]; rfl
    · rw [if_pos s2, bP_f (p := keeps K tb k q) s3]; rfl) (by
    unfold B_106_4
    dsimp only
    rw [hC.2.1.1]
    simp (disch := omega) only [lit_nI, ni_ofNat, ni_add, ni_lti, ni_lei, ni_eqi, ni_cl, inb_nI, if_pos, if_neg, if_true, if_false])
  rw [show ((0 : Int32), (0 : Int32)) = (nI (orT 0 (fun l => bP (keeps K tb l q))), nI 0) from rfl, g]
theorem kept_r {n : Nat} {K P : Nat → Nat} {tb : Nat → Nat → Nat} {q : Nat → Nat} {M : IM} (hC : C1 n K P tb M) (hq : RU 1 78 q M) (hT : C11 M) : F_202 M = some (nI (orT n (fun l => bP (keeps K tb l q)))) := by
  have hn := hC.1.1
  unfold F_202 L_202_4
  have h0 : M 78 (0 : Int32).toNatClampNeg = nI n := hC.2.2.1
  have g := loopI (B := B_202_4 M) (fun k => (nI (orT k (fun l => bP (keeps K tb l q))), nI k)) (r := (nI (orT n (fun l => bP (keeps K tb l q))), nI n)) n (by omega) (fun k hk => by
    obtain ⟨x, hx, fx⟩ := brk_r (r := 78) (f := 10) hC.1 hC.2.2 hT hk (by rw [ln78]; decide) (by rw [ln78]; decide) (q := q) (fun h hh => ⟨(hq h hh).1, (hq h hh).2.1, (hq h hh).2.2.2⟩)
    have hkl := (hC.1.2 k hk).1
    have hm := mny_lt hkl
    unfold B_202_4 J_202_36_4
    dsimp only
    rw [h0, show F_200 (nI k) 78 10 M = some x from hx]
    simp (disch := omega) only [ni_lei, if_pos, if_neg, if_true, if_false, ni_add1]
    rw [one_shl k (by omega), ni_or]
    simp only [orT]
    rcases fx.sg (by omega) with ⟨s1, s2, s3⟩ | ⟨s1, s2, s3⟩
    · rw [if_neg s2, bP_t (p := keeps K tb k q) s3]; rfl
    · rw [if_pos s2, bP_f (p := keeps K tb k q) s3]
      show some (Sum.inl (nI _ ||| nI 0, nI (k + 1))) = _
      rw [ni_or, Nat.or_zero]; rfl) (by
    unfold B_202_4
    dsimp only
    rw [h0]
    simp (disch := omega) only [lit_nI, ni_ofNat, ni_add, ni_lti, ni_lei, ni_eqi, ni_cl, inb_nI, if_pos, if_neg, if_true, if_false])
  rw [show ((0 : Int32), (0 : Int32)) = (nI (orT 0 (fun l => bP (keeps K tb l q))), nI 0) from rfl, g]
/-- what a form chooses keeps the laws of a set -/
theorem fitsBy_c {n s r : Nat} {K P : Nat → Nat} {tb : Nat → Nat → Nat} {q : Nat → Nat} {M : IM} (hW : LW n K P tb) (hC : LC 1 n K P tb M) (hs : s < 256) (hr : ln r = 12) (hq : ∀ h, h < 12 → 1 ≤ q h ∧ q h ≤ 3 ∧ M r h = nI (q h)) : (F_86 1 (nI s) r M = some 1 ∧ fitsS n K tb s q) ∨ (F_86 1 (nI s) r M = some 0 ∧ ¬ fitsS n K tb s q) := by
  have hn := hW.1
  obtain ⟨res, h1, h2⟩ := loopF (body := B_86_2 1 (nI s) r M) (fun k x => x = nI k ∧ ∀ l, l < k → s.testBit l = true → keeps K tb l q) (fun res => match res with | .inl _ => fitsS n K tb s q | .inr x => x = 0 ∧ ¬ fitsS n K tb s q) n (by omega) (s := (0 : Int32)) ⟨rfl, fun j hj => absurd hj (Nat.not_lt_zero _)⟩ (by
    rintro k x hk2 ⟨rfl, hok⟩
    unfold B_86_2 J_86_34_2
    rw [hC.1]
    by_cases hk : k < n
    · have hkl := (hW.2 k hk).1
      have hm := mny_lt hkl
      obtain ⟨x, hx, fx⟩ := brk_c (r := r) hW hC hk hr hq
      rw [isOf_ok hn hs hC.1 hk]
      cases hb : s.testBit k
      · right
        refine ⟨hk, nI (k + 1), ?_, rfl, ?_⟩
        · simp (disch := omega) only [Bool.false_eq_true, Bool.true_eq_false, if_false, lit_nI, ni_ofNat, ni_add, ni_lti, ni_lei, ni_eqi, ni_cl, inb_nI, if_pos, if_neg, if_true, if_false]
        · intro l hl hb2
          by_cases e : l = k
          · rw [e, hb] at hb2; cases hb2
          · exact hok l (by omega) hb2
      · rcases fx.sg (by omega) with ⟨s1, s2, s3⟩ | ⟨s1, s2, s3⟩
        · right
          refine ⟨hk, nI (k + 1), ?_, rfl, ?_⟩
          · simp (disch := omega) only [if_true, one_ne, ni_lei, inb_nI, ni_cl, if_pos, if_neg, if_true, if_false, hx, s1, ni_add1]
          · intro l hl hb2
            by_cases e : l = k
            · rw [e]; exact s3
            · exact hok l (by omega) hb2
        · left
          refine ⟨.inr 0, ?_, rfl, fun z => s3 (z k hk hb)⟩
          simp (disch := omega) only [if_true, one_ne, ni_lei, inb_nI, ni_cl, if_pos, if_neg, if_true, if_false, hx, s1]
    · left
      refine ⟨.inl (nI k), ?_, fun l hl hb => hok l (by omega) hb⟩
      simp (disch := omega) only [lit_nI, ni_ofNat, ni_add, ni_lti, ni_lei, ni_eqi, ni_cl, inb_nI, if_pos, if_neg, if_true, if_false])
  unfold F_86 L_86_2
  rw [h1]
  cases res with
  | inl y => exact Or.inl ⟨rfl, h2⟩
  | inr x => obtain ⟨rfl, h2⟩ := h2; exact Or.inr ⟨rfl, h2⟩
theorem fitsBy_r {n s f : Nat} {K P : Nat → Nat} {tb : Nat → Nat → Nat} {q : Nat → Nat} {M : IM} (hW : LW n K P tb) (hC : LQ 78 n K P tb M) (hT : C11 M) (hs : s < 256) (hq : ∀ h, h < 12 → 1 ≤ q h ∧ q h ≤ 3 ∧ M 89 h = nI (q h)) : ∃ y, (L_216_57 (nI s) (nI f) M 1 0 = some (1, y) ∧ fitsS n K tb s q) ∨ (L_216_57 (nI s) (nI f) M 1 0 = some (0, y) ∧ ¬ fitsS n K tb s q) := by
  have hn := hW.1
  have h0 : M 78 (0 : Int32).toNatClampNeg = nI n := hC.1
  obtain ⟨res, h1, h2⟩ := loopF (body := B_216_57 (nI s) (nI f) M) (fun k x => x.2 = nI k ∧ ((x.1 = 1 ∧ ∀ l, l < k → s.testBit l = true → keeps K tb l q) ∨ (x.1 = 0 ∧ ¬ fitsS n K tb s q))) (fun res => (res.1 = 1 ∧ fitsS n K tb s q) ∨ (res.1 = 0 ∧ ¬ fitsS n K tb s q)) n (by omega) (s := ((1 : Int32), (0 : Int32))) ⟨rfl, Or.inl ⟨rfl, fun j hj => absurd hj (Nat.not_lt_zero _)⟩⟩ (by
    rintro k ⟨x, y⟩ hk2 ⟨rfl, hx⟩
    dsimp only at hx
    unfold B_216_57 J_216_95_57 J_216_100_57
    dsimp only
    rw [h0]
    by_cases hk : k < n
    · rcases hx with ⟨rfl, hok⟩ | ⟨rfl, hno⟩
      · have hkl := (hW.2 k hk).1
        have hm := mny_lt hkl
        obtain ⟨x, hx, fx⟩ := brk_r (r := 89) (f := 0) (q := q) hW hC hT hk (by rw [ln89]; decide) (by rw [ln89]; decide) (fun h hh => ⟨(hq h hh).1, (hq h hh).2.1, by rw [Nat.zero_add]; exact (hq h hh).2.2⟩)
        rw [has_ok (by omega) (by omega), show F_200 (nI k) 89 0 M = some x from hx]
        right
        cases hb : s.testBit k
        · refine ⟨hk, (1, nI (k + 1)), ?_, rfl, Or.inl ⟨rfl, ?_⟩⟩
          · simp (disch := omega) only [Bool.false_eq_true, Bool.true_eq_false, ni_lei, one_ne, if_false, if_true, if_neg, ni_add1]
          · intro l hl hb2
            by_cases e : l = k
            · rw [e, hb] at hb2; cases hb2
            · exact hok l (by omega) hb2
        · rcases fx.sg (by omega) with ⟨s1, s2, s3⟩ | ⟨s1, s2, s3⟩
          · refine ⟨hk, (1, nI (k + 1)), ?_, rfl, Or.inl ⟨rfl, ?_⟩⟩
            · simp (disch := omega) only [ni_lei, one_ne, if_false, if_true, if_neg, s2, ni_add1]
            · intro l hl hb2
              by_cases e : l = k
              · rw [e]; exact s3
              · exact hok l (by omega) hb2
          · refine ⟨hk, (0, nI (k + 1)), ?_, rfl, Or.inr ⟨rfl, fun z => s3 (z k hk hb)⟩⟩
            simp (disch := omega) only [ni_lei, one_ne, if_false, if_true, if_neg, s2, ni_add1]
      · left
        refine ⟨(0, nI k), ?_, Or.inr ⟨rfl, hno⟩⟩
        simp (disch := omega) only [ni_lei, if_true, if_neg]
    · left
      refine ⟨(x, nI k), ?_, ?_⟩
      · simp (disch := omega) only [ni_lei, if_pos]
      · rcases hx with ⟨rfl, hok⟩ | ⟨rfl, hno⟩
        · exact Or.inl ⟨rfl, fun l hl hb => hok l (by omega) hb⟩
        · exact Or.inr ⟨rfl, hno⟩)
  obtain ⟨a, b⟩ := res
  refine ⟨b, ?_⟩
  unfold L_216_57
  rw [h1]
  rcases h2 with ⟨h2, h3⟩ | ⟨h2, h3⟩
  · dsimp only at h2; rw [h2]; exact Or.inl ⟨rfl, h3⟩
  · dsimp only at h2; rw [h2]; exact Or.inr ⟨rfl, h3⟩
