/-! the reference counts -/
theorem orT_bit (p : Nat → Bool) : ∀ n j, (orT n p).testBit j = (decide (j < n) && p j)
  | 0, j => by show (0 : Nat).testBit j = _; rw [Nat.zero_testBit, decide_eq_false (Nat.not_lt_zero _)]; rfl
  | n + 1, j => by
    have ih := orT_bit p n j
    unfold orT
    by_cases e : j = n
    · subst e
      rw [decide_eq_false (Nat.lt_irrefl _), Bool.false_and] at ih
      rw [decide_eq_true (Nat.lt_succ_self _), Bool.true_and]
      cases hp : p j
      · rw [cond_false]; exact ih
      · rw [cond_true, Nat.testBit_or, ih, Bool.false_or, Nat.one_shiftLeft, Nat.testBit_two_pow_self]
    · have ed : decide (j < n + 1) = decide (j < n) := by
        by_cases z : j < n
        · rw [decide_eq_true z, decide_eq_true (by omega)]
        · rw [decide_eq_false z, decide_eq_false (by omega)]
      rw [ed]
      cases hp : p n
      · rw [cond_false]; exact ih
      · rw [cond_true, Nat.testBit_or, ih, Nat.one_shiftLeft, Nat.testBit_two_pow_of_ne (fun z => e z.symm), Bool.or_false]
def dg (x h : Nat) : Nat := x / 3 ^ h % 3 + 1
theorem dg_r (x h : Nat) : 1 ≤ dg x h ∧ dg x h ≤ 3 := by unfold dg; omega
def okD (U : Nat → Nat → Prop) (A : Nat → Nat → Nat → Nat → Prop) (m x h : Nat) : Prop := m.testBit (3 * h + dg x h - 1) = true ∧ U h (dg x h) ∧ ∀ j, j < h → A j h (dg x j) (dg x h)
noncomputable def WB (U : Nat → Nat → Prop) (A : Nat → Nat → Nat → Nat → Prop) (m : Nat) : Nat := sumT 81 (fun x => chi (∀ h, h < 4 → okD U A m x h))
def MB (U : Nat → Nat → Prop) (A : Nat → Nat → Nat → Nat → Prop) (M : IM) : Prop := ∀ m, m < 4096 → M 90 m = -1 ∨ M 90 m = nI (WB U A m)
theorem sumT_chi (p : Nat → Prop) : ∀ n, sumT n (fun x => chi (p x)) ≤ n
  | 0 => Nat.le_refl _
  | n + 1 => by have := sumT_chi p n; have := chi_le (p n); simp only [sumT]; omega
theorem pw3 (x h : Nat) : x / 3 ^ (h + 1) = x / 3 ^ h / 3 := by rw [Nat.pow_succ, Nat.div_div_eq_div_mul]
def Fr89 (M M' : IM) : Prop := ∀ k j, ¬ (k = 89 ∧ j < 4) → M' k j = M k j
section CNTR
variable {U : Nat → Nat → Prop} {A : Nat → Nat → Nat → Nat → Prop} {M : IM}
theorem l28_210 {m x : Nat} (hR : RR U A M) (hm : m < 4096) (hx : x < 81) (x2 x3 : Int32) : ∃ fl y z M', L_210_28 (nI m) x2 x3 1 (nI x) 0 M = some (fl, y, z, M') ∧ Fr89 M M' ∧ ((fl = 1 ∧ ∀ h, h < 4 → okD U A m x h) ∨ (fl = 0 ∧ ¬ ∀ h, h < 4 → okD U A m x h)) := by
  obtain ⟨⟨fl, y, z, M'⟩, g1, g2, g3⟩ := loopF (body := B_210_28 (nI m) x2 x3) (fun h s => s.2.1 = nI (x / 3 ^ h) ∧ s.2.2.1 = nI h ∧ Fr89 M s.2.2.2 ∧ (∀ j, j < h → s.2.2.2 89 j = nI (dg x j)) ∧ ((s.1 = 1 ∧ ∀ j, j < h → okD U A m x j) ∨ (s.1 = 0 ∧ ¬ ∀ j, j < 4 → okD U A m x j))) (fun s => Fr89 M s.2.2.2 ∧ ((s.1 = 1 ∧ ∀ j, j < 4 → okD U A m x j) ∨ (s.1 = 0 ∧ ¬ ∀ j, j < 4 → okD U A m x j))) 4 (by decide) (s := ((1 : Int32), nI x, (0 : Int32), M)) ⟨by rw [Nat.pow_zero, Nat.div_one], rfl, fun _ _ _ => rfl, fun j hj => absurd hj (Nat.not_lt_zero _), Or.inl ⟨rfl, fun j hj => absurd hj (Nat.not_lt_zero _)⟩⟩ (by
    rintro h ⟨fl, y, z, Q⟩ hh ⟨e1, e2, q1, q2, q3⟩
    dsimp only at e1 e2 q1 q2 q3
    subst e1 e2
    unfold B_210_28 J_210_101_28 J_210_102_28
    dsimp only
    by_cases hh2 : h < 4
    · right
      refine ⟨hh2, ?_⟩
      have xl : x / 3 ^ h ≤ x := Nat.div_le_self _ _
      have i12 : inb (nI h) 12 = true := (inb_nI (by omega)).mpr (by omega)
      have icl : (nI h).toNatClampNeg = h := ni_cl (by omega)
      have ed : nI (x / 3 ^ h) - nI (x / 3 ^ h) / 3 * 3 + 1 = nI (dg x h) := by
        rw [show (3 : Int32) = nI 3 from rfl, ni_rem (by omega) (by decide) (by decide), ni_add1]; rfl
      have eq : nI (x / 3 ^ h) / 3 = nI (x / 3 ^ (h + 1)) := by rw [show (3 : Int32) = nI 3 from rfl, ni_div (by omega) (by decide) (by decide), pw3]
      obtain ⟨d1, d3⟩ := dg_r x h
      have ib : (3 : Int32) * nI h + nI (dg x h) - 1 = nI (3 * h + dg x h - 1) := by
        rw [show (3 : Int32) * nI h = nI (3 * h) from ni_mul 3 h, ni_add, show (1 : Int32) = nI 1 from rfl, ni_sub (by omega)]
      rw [if_neg (show ¬ (4 : Int32) ≤ nI h from nI_ge (b := 4) hh2 (by decide)), ed, eq]
      simp only [i12, icl, if_true, iset_same, ib, ni_add1, has_ok (s := m) (l := 3 * h + dg x h - 1) (by omega) (by omega)]
      have fr : Fr89 M (iset Q 89 h (nI (dg x h))) := fun k j hk => by rw [iset_eq, if_neg (fun z => hk (by omega))]; exact q1 k j hk
      have rd : ∀ j, j < h + 1 → (iset Q 89 h (nI (dg x h))) 89 j = nI (dg x j) := fun j hj => by
        by_cases e : j = h
        · rw [e, iset_same]
        · rw [iset_j e]; exact q2 j (by omega)
      rcases q3 with ⟨rfl, q3⟩ | ⟨rfl, q3⟩
      · rw [if_neg one_ne]
        have hR2 : RR U A (iset Q 89 h (nI (dg x h))) := hR.cg (fun k j hk => fr k j (by omega))
        cases hb : m.testBit (3 * h + dg x h - 1)
        · simp only [Bool.false_eq_true, Bool.true_eq_false, if_false, if_true]
          exact ⟨_, rfl, rfl, rfl, fr, rd, Or.inr ⟨rfl, fun z => by have := (z h hh2).1; rw [hb] at this; cases this⟩⟩
        · simp only [if_true, one_ne, if_false]
          rcases ahead_r (c := dg x h) (r := dg x) (H := 15) hR2 (by decide) (show h < 12 by omega) d1 d3 (fun k hk _ => ⟨(dg_r x k).1, (dg_r x k).2, rd k (by omega)⟩) with ⟨a1, a2⟩ | ⟨a1, a2⟩
          · have a1 : F_205 (nI h) (nI (dg x h)) 15 (iset Q 89 h (nI (dg x h))) = some 1 := a1
            rw [a1]
            dsimp only
            rw [if_neg one_ne]
            refine ⟨_, rfl, rfl, rfl, fr, rd, Or.inl ⟨rfl, fun j hj => ?_⟩⟩
            by_cases e : j = h
            · rw [e]; exact ⟨hb, a2.1, fun i hi => a2.2 i hi (by rw [t15 i (by omega)]; exact decide_eq_true (by omega))⟩
            · exact q3 j (by omega)
          · have a1 : F_205 (nI h) (nI (dg x h)) 15 (iset Q 89 h (nI (dg x h))) = some 0 := a1
            rw [a1]
            dsimp only
            rw [if_pos rfl]
            exact ⟨_, rfl, rfl, rfl, fr, rd, Or.inr ⟨rfl, fun z => a2 ⟨(z h hh2).2.1, fun k hk _ => (z h hh2).2.2 k hk⟩⟩⟩
      · rw [if_pos rfl]
        exact ⟨_, rfl, rfl, rfl, fr, rd, Or.inr ⟨rfl, q3⟩⟩
    · left
      obtain rfl : h = 4 := by omega
      exact ⟨_, rfl, q1, q3⟩)
  exact ⟨fl, y, z, M', g1, g2, g3⟩
theorem f210 {m : Nat} (hR : RR U A M) (hm : m < 4096) (hB : MB U A M) : ∃ M', F_210 (nI m) M = some (nI (WB U A m), M') ∧ (∀ k j, ¬ ((k = 89 ∧ j < 4) ∨ k = 90) → M' k j = M k j) ∧ MB U A M' := by
  have i1 : inb (nI m) 4096 = true := (inb_nI (by omega)).mpr hm
  have i2 : (nI m).toNatClampNeg = m := ni_cl (by omega)
  have wl : WB U A m ≤ 81 := sumT_chi _ 81
  unfold F_210 J_210_136
  rw [if_pos i1, i2]
  by_cases h0 : (0 : Int32) ≤ M 90 m
  · rw [if_pos h0, if_pos i1]
    rcases hB m hm with e | e
    · rw [e] at h0; exact absurd h0 (by decide)
    · rw [e]; exact ⟨M, rfl, fun _ _ _ => rfl, hB⟩
  · rw [if_neg h0]
    obtain ⟨⟨y, z, M'⟩, g1, g2, g3⟩ := loopF (body := B_210_13 (nI m)) (fun x s => s.1 = nI (sumT x (fun x => chi (∀ h, h < 4 → okD U A m x h))) ∧ s.2.1 = nI x ∧ Fr89 M s.2.2) (fun s => s.1 = nI (WB U A m) ∧ Fr89 M s.2.2) 81 (by decide) (s := ((0 : Int32), (0 : Int32), M)) ⟨rfl, rfl, fun _ _ _ => rfl⟩ (by
      rintro x ⟨y, z, Q⟩ hx ⟨e1, e2, q1⟩
      dsimp only at e1 e2 q1
      subst e1 e2
      unfold B_210_13 J_210_110_13 J_210_121_13
      dsimp only
      by_cases hx2 : x < 81
      · right
        refine ⟨hx2, ?_⟩
        obtain ⟨fl, y', z', M1, a1, a2, a3⟩ := l28_210 (m := m) (x := x) (hR.cg (fun k j hk => q1 k j (by omega))) hm hx2 (nI (sumT x (fun x => chi (∀ h, h < 4 → okD U A m x h)))) (nI x)
        rw [if_neg (show ¬ (81 : Int32) ≤ nI x from nI_ge (b := 81) hx2 (by decide)), a1]
        dsimp only
        have fr : Fr89 M M1 := fun k j hk => by rw [a2 k j hk]; exact q1 k j hk
        rcases a3 with ⟨rfl, a3⟩ | ⟨rfl, a3⟩
        · rw [if_neg one_ne, ni_add1]
          refine ⟨_, rfl, ?_, ni_add1 x, fr⟩
          simp only [sumT]
          rw [chi_t a3]
        · rw [if_pos rfl]
          refine ⟨_, rfl, ?_, ni_add1 x, fr⟩
          simp only [sumT]
          rw [chi_f a3]
          exact ni_add _ 0
      · left
        obtain rfl : x = 81 := by omega
        exact ⟨_, rfl, rfl, q1⟩)
    dsimp only at g2 g3
    subst g2
    have g1 : L_210_13 (nI m) 0 0 M = some (nI (WB U A m), z, M') := g1
    rw [g1]
    dsimp only
    unfold J_210_129 J_210_136
    rw [if_pos i1, if_pos i1, i2, iset_same]
    refine ⟨_, rfl, fun k j hk => ?_, fun m' hm' => ?_⟩
    · rw [iset_k (by omega)]; exact g3 k j (by omega)
    · by_cases e : m' = m
      · rw [e, iset_same]; exact Or.inr rfl
      · rw [iset_j e, g3 90 m' (by omega)]; exact hB m' hm'
noncomputable def mBit (A : Nat → Nat → Nat → Nat → Prop) (r : Nat → Nat) (j : Nat) : Bool := bP (∀ k, 4 ≤ k → k < 12 → A (j / 3) k (j % 3 + 1) (r k))
theorem l30 {h c : Nat} {r : Nat → Nat} (hR : RR U A M) (hh : h < 4) (h1 : 1 ≤ c) (h3 : c ≤ 3) (hr : ∀ k, 4 ≤ k → k < 12 → 1 ≤ r k ∧ r k ≤ 3 ∧ M 89 k = nI (r k)) (rk : Int32 → IM → Option (Int64 × IM)) (x2 : Int32) : ∃ x y, L_211_30 rk x2 (nI h) (nI c) M 1 4 = some (x, y) ∧ ((x = 1 ∧ ∀ k, 4 ≤ k → k < 12 → A h k c (r k)) ∨ (x = 0 ∧ ¬ ∀ k, 4 ≤ k → k < 12 → A h k c (r k))) := by
  obtain ⟨⟨x, y⟩, g1, g2⟩ := loopF (body := B_211_30 rk x2 (nI h) (nI c) M) (fun i s => s.2 = nI (4 + i) ∧ ((s.1 = 1 ∧ ∀ k, 4 ≤ k → k < 4 + i → A h k c (r k)) ∨ (s.1 = 0 ∧ ¬ ∀ k, 4 ≤ k → k < 12 → A h k c (r k)))) (fun s => (s.1 = 1 ∧ ∀ k, 4 ≤ k → k < 12 → A h k c (r k)) ∨ (s.1 = 0 ∧ ¬ ∀ k, 4 ≤ k → k < 12 → A h k c (r k))) 8 (by decide) (s := ((1 : Int32), (4 : Int32))) ⟨rfl, Or.inl ⟨rfl, fun k a b => by omega⟩⟩ (by
    rintro i ⟨x, y⟩ hi ⟨e, q⟩
    dsimp only at e q
    subst e
    unfold B_211_30
    dsimp only
    by_cases hi2 : i < 8
    · rw [if_neg (show ¬ (12 : Int32) ≤ nI (4 + i) from nI_ge (b := 12) (by omega) (by decide))]
      rcases q with ⟨rfl, q⟩ | ⟨rfl, q⟩
      · right
        obtain ⟨b, b1, b2, b3⟩ := hR.2 h (4 + i) (by omega) (by omega)
        obtain ⟨r1, r2, r3⟩ := hr (4 + i) (by omega) (by omega)
        have ix : (12 : Int32) * nI h + nI (4 + i) = nI (12 * h + (4 + i)) := by rw [show (12 : Int32) * nI h = nI (12 * h) from ni_mul 12 h, ni_add]
        have iy : (3 : Int32) * nI c + nI (r (4 + i)) - 4 = nI (3 * c + r (4 + i) - 4) := by
          rw [show (3 : Int32) * nI c = nI (3 * c) from ni_mul 3 c, ni_add, show (4 : Int32) = nI 4 from rfl, ni_sub (by omega)]
        rw [if_neg one_ne, ix, if_pos ((inb_nI (by omega)).mpr (by omega)), if_pos ((inb_nI (by omega)).mpr (by omega)), ni_cl (show 4 + i < 2147483648 by omega), ni_cl (by omega), r3, iy, b2, has_ok (by omega) (by omega), ni_add1]
        cases hb : b.testBit (3 * c + r (4 + i) - 4)
        · refine ⟨hi2, _, rfl, rfl, Or.inr ⟨rfl, fun z => ?_⟩⟩
          have := (b3 c (r (4 + i)) h1 h3 r1 r2).mpr (z (4 + i) (by omega) (by omega))
          rw [hb] at this; cases this
        · refine ⟨hi2, _, rfl, rfl, Or.inl ⟨rfl, fun k k1 k2 => ?_⟩⟩
          by_cases e : k = 4 + i
          · rw [e]; exact (b3 c (r (4 + i)) h1 h3 r1 r2).mp hb
          · exact q k k1 (by omega)
      · left
        rw [if_pos rfl]
        exact ⟨_, rfl, Or.inr ⟨rfl, q⟩⟩
    · left
      obtain rfl : i = 8 := by omega
      refine ⟨_, if_pos (by decide), ?_⟩
      exact q)
  exact ⟨x, y, g1, g2⟩
theorem l18 {h : Nat} {r : Nat → Nat} (hR : RR U A M) (hh : h < 4) (hr : ∀ k, 4 ≤ k → k < 12 → 1 ≤ r k ∧ r k ≤ 3 ∧ M 89 k = nI (r k)) (rk : Int32 → IM → Option (Int64 × IM)) : ∃ y, L_211_18 rk (nI h) M (nI (orT (3 * h) (mBit A r))) 1 = some (nI (orT (3 * h + 3) (mBit A r)), y) := by
  obtain ⟨⟨x, y⟩, g1, g2⟩ := loopF (body := B_211_18 rk (nI h) M) (fun c s => s.2 = nI (c + 1) ∧ s.1 = nI (orT (3 * h + c) (mBit A r))) (fun s => s.1 = nI (orT (3 * h + 3) (mBit A r))) 3 (by decide) (s := (nI (orT (3 * h) (mBit A r)), (1 : Int32))) ⟨rfl, rfl⟩ (by
    rintro c ⟨x, y⟩ hc ⟨e1, e2⟩
    dsimp only at e1 e2
    subst e1 e2
    unfold B_211_18 J_211_79_18 J_211_99_18
    dsimp only
    by_cases hc2 : c < 3
    · right
      obtain ⟨x', y', a1, a2⟩ := l30 (c := c + 1) hR hh (by omega) (by omega) hr rk (nI (orT (3 * h + c) (mBit A r)))
      have is : (1 : Int32) <<< ((3 * nI h + nI (c + 1) - 1) &&& 31) = nI (1 <<< (3 * h + c)) := by
        rw [show (3 : Int32) * nI h = nI (3 * h) from ni_mul 3 h, ni_add, ← one_shl (3 * h + c) (by omega), show (1 : Int32) = nI 1 from rfl, ni_sub (by omega), show 3 * h + (c + 1) - 1 = 3 * h + c by omega]
      have hj : (3 * h + c) / 3 = h ∧ (3 * h + c) % 3 + 1 = c + 1 := by omega
      rw [if_neg (gt3 (show c + 1 ≤ 3 by omega)), a1]
      dsimp only
      rcases a2 with ⟨rfl, a2⟩ | ⟨rfl, a2⟩
      · rw [if_neg one_ne, is, ni_or]
        refine ⟨hc2, _, rfl, ni_add1 (c + 1), ?_⟩
        show _ = nI (bif mBit A r (3 * h + c) then orT (3 * h + c) (mBit A r) ||| (1 <<< (3 * h + c)) else orT (3 * h + c) (mBit A r))
        have : mBit A r (3 * h + c) = true := by unfold mBit; rw [hj.1, hj.2]; exact bP_t a2
        rw [this]; rfl
      · rw [if_pos rfl]
        refine ⟨hc2, _, rfl, ni_add1 (c + 1), ?_⟩
        show _ = nI (bif mBit A r (3 * h + c) then orT (3 * h + c) (mBit A r) ||| (1 <<< (3 * h + c)) else orT (3 * h + c) (mBit A r))
        have : mBit A r (3 * h + c) = false := by unfold mBit; rw [hj.1, hj.2]; exact bP_f a2
        rw [this, cond_false]
        show nI (orT (3 * h + c) (mBit A r)) ||| nI 0 = _
        rw [ni_or, Nat.or_zero]
    · left
      obtain rfl : c = 3 := by omega
      exact ⟨_, if_pos (by decide), rfl⟩)
  dsimp only at g2
  subst g2
  exact ⟨y, g1⟩
theorem l10 {r : Nat → Nat} (hR : RR U A M) (hr : ∀ k, 4 ≤ k → k < 12 → 1 ≤ r k ∧ r k ≤ 3 ∧ M 89 k = nI (r k)) (rk : Int32 → IM → Option (Int64 × IM)) : ∃ y, L_211_10 rk M 0 0 = some (nI (orT 12 (mBit A r)), y) := by
  obtain ⟨⟨x, y⟩, g1, g2⟩ := loopF (body := B_211_10 rk M) (fun h s => s.2 = nI h ∧ s.1 = nI (orT (3 * h) (mBit A r))) (fun s => s.1 = nI (orT 12 (mBit A r))) 4 (by decide) (s := ((0 : Int32), (0 : Int32))) ⟨rfl, rfl⟩ (by
    rintro h ⟨x, y⟩ hh ⟨e1, e2⟩
    dsimp only at e1 e2
    subst e1 e2
    unfold B_211_10 J_211_107_10
    dsimp only
    by_cases hh2 : h < 4
    · right
      obtain ⟨y', a1⟩ := l18 hR hh2 hr rk
      rw [if_neg (show ¬ (4 : Int32) ≤ nI h from nI_ge (b := 4) hh2 (by decide)), a1]
      exact ⟨hh2, _, rfl, ni_add1 h, rfl⟩
    · left
      obtain rfl : h = 4 := by omega
      exact ⟨_, rfl, rfl⟩)
  dsimp only at g2
  subst g2
  exact ⟨y, g1⟩
/-! the sum over numbers in threes -/
def E3 : List Nat → Nat → (Nat → Nat) → Nat → Nat
  | [], _, r => r
  | h :: t, x, r => E3 t (x / 3) (updN r h (x % 3 + 1))
theorem sumT_3 (f : Nat → Nat) : ∀ n, sumT (3 * n) f = sumT n (fun y => f (3 * y) + f (3 * y + 1) + f (3 * y + 2))
  | 0 => rfl
  | n + 1 => by
    rw [show 3 * (n + 1) = 3 * n + 1 + 1 + 1 by omega]
    simp only [sumT]
    rw [sumT_3 f n]
    omega
theorem sumT_a3 (f g h : Nat → Nat) : ∀ n, sumT n (fun y => f y + g y + h y) = sumT n f + sumT n g + sumT n h
  | 0 => rfl
  | n + 1 => by simp only [sumT]; rw [sumT_a3 f g h n]; omega
theorem sumE (f : (Nat → Nat) → Nat) : ∀ (L : List Nat) (r : Nat → Nat), sumT (3 ^ L.length) (fun x => f (E3 L x r)) = sumO L r f
  | [], r => by show 0 + f r = f r; rw [Nat.zero_add]
  | h :: t, r => by
    rw [List.length_cons, Nat.pow_succ, Nat.mul_comm, sumT_3, sumT_a3]
    simp only [sumO]
    rw [← sumE f t (updN r h 1), ← sumE f t (updN r h 2), ← sumE f t (updN r h 3)]
    have e0 : ∀ y, 3 * y / 3 = y ∧ 3 * y % 3 = 0 ∧ (3 * y + 1) / 3 = y ∧ (3 * y + 1) % 3 = 1 ∧ (3 * y + 2) / 3 = y ∧ (3 * y + 2) % 3 = 2 := fun y => by omega
    simp only [E3, e0]
theorem E3_4 (x : Nat) (r : Nat → Nat) : (∀ h, h < 4 → E3 [0, 1, 2, 3] x r h = dg x h) ∧ ∀ k, 4 ≤ k → E3 [0, 1, 2, 3] x r k = r k := by
  have p : ∀ h, x / 3 ^ (h + 1) = x / 3 ^ h / 3 := fun h => pw3 x h
  have p1 : x / 3 ^ 1 = x / 3 := by rw [Nat.pow_one]
  have p2 : x / 3 ^ 2 = x / 3 / 3 := by rw [p 1, p1]
  have p3 : x / 3 ^ 3 = x / 3 / 3 / 3 := by rw [p 2, p2]
  constructor
  · intro h hh
    have : h = 0 ∨ h = 1 ∨ h = 2 ∨ h = 3 := by omega
    simp only [E3]
    rcases this with rfl | rfl | rfl | rfl
    · rw [updN_n (by decide), updN_n (by decide), updN_n (by decide), updN_s]; unfold dg; rw [Nat.pow_zero, Nat.div_one]
    · rw [updN_n (by decide), updN_n (by decide), updN_s]; unfold dg; rw [p1]
    · rw [updN_n (by decide), updN_s]; unfold dg; rw [p2]
    · rw [updN_s]; unfold dg; rw [p3]
  · intro k hk
    simp only [E3]
    rw [updN_n (by omega), updN_n (by omega), updN_n (by omega), updN_n (by omega)]
theorem leaf_r {r : Nat → Nat} (hr : PCn U A 4080 12 r) : sumO [0, 1, 2, 3] r (fun q => chi (PCn U A 4095 12 q)) = WB U A (orT 12 (mBit A r)) := by
  rw [← sumE]
  unfold WB
  show sumT 81 _ = _
  apply sumT_cg
  intro x _
  obtain ⟨e1, e2⟩ := E3_4 x r
  have hi : ∀ k, 4 ≤ k → k < 12 → 1 ≤ r k ∧ r k ≤ 3 ∧ U k (r k) ∧ ∀ j, 4 ≤ j → j < k → A j k (r j) (r k) := fun k k1 k2 => by
    obtain ⟨z1, z2, z3, z4⟩ := hr k k2 (by rw [t4080 k k2]; exact decide_eq_true k1)
    exact ⟨z1, z2, z3, fun j j1 j2 => z4 j j2 (by rw [t4080 j (by omega)]; exact decide_eq_true j1)⟩
  have bit : ∀ j, j < 4 → ((orT 12 (mBit A r)).testBit (3 * j + dg x j - 1) = true ↔ ∀ k, 4 ≤ k → k < 12 → A j k (dg x j) (r k)) := fun j hj => by
    obtain ⟨d1, d3⟩ := dg_r x j
    rw [orT_bit, decide_eq_true (show 3 * j + dg x j - 1 < 12 by omega), Bool.true_and]
    unfold mBit
    rw [bP_iff, show (3 * j + dg x j - 1) / 3 = j by omega, show (3 * j + dg x j - 1) % 3 + 1 = dg x j by omega]
  have iff : PCn U A 4095 12 (E3 [0, 1, 2, 3] x r) ↔ ∀ h, h < 4 → okD U A (orT 12 (mBit A r)) x h := by
    constructor
    · intro z h hh
      obtain ⟨z1, z2, z3, z4⟩ := z h (by omega) (t4095 h (by omega))
      rw [e1 h hh] at z3 z4
      refine ⟨(bit h hh).mpr (fun k k1 k2 => ?_), z3, fun j hj => by have := z4 j hj (t4095 j (by omega)); rw [e1 j (by omega)] at this; exact this⟩
      have := (z k k2 (t4095 k k2)).2.2.2 h (by omega) (t4095 h (by omega))
      rw [e1 h hh, e2 k k1] at this
      exact this
    · intro z k hk _
      by_cases k4 : k < 4
      · rw [e1 k k4]
        obtain ⟨z1, z2, z3⟩ := z k k4
        exact ⟨(dg_r x k).1, (dg_r x k).2, z2, fun j hj _ => by rw [e1 j (by omega)]; exact z3 j hj⟩
      · rw [e2 k (by omega)]
        obtain ⟨y1, y2, y3, y4⟩ := hi k (by omega) hk
        refine ⟨y1, y2, y3, fun j hj _ => ?_⟩
        by_cases j4 : j < 4
        · rw [e1 j j4]; exact (bit j j4).mp (z j j4).1 k (by omega) hk
        · rw [e2 j (by omega)]; exact y4 j (by omega) hj
  by_cases h : PCn U A 4095 12 (E3 [0, 1, 2, 3] x r)
  · rw [chi_t h, chi_t (iff.mp h)]
  · rw [chi_f h, chi_f (fun z => h (iff.mpr z))]
end CNTR
