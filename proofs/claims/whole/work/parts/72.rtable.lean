/-! a law's numbers: the reference -/
theorem sz_1 : ∀ i, i < 32 → hsz (fb 1 i) ≤ hsz (fa 1 i) := by decide +kernel
theorem sz_4 : ∀ i, i < 8 → ¬ hsz (fb 4 i) ≤ hsz (fa 4 i) := by decide +kernel
theorem fc_lt {k i : Nat} (hk : k < 6) (hi : i < mny k) : fcs k + i < 90 := by
  have := fcs_add k hk
  have := fcs_le (k + 1) (by omega)
  omega
def CSR (k i c d : Nat) (M : IM) : Prop := M 77 15 = nI (fcs k + i) ∧ M 77 16 = nI c ∧ M 77 17 = nI d ∧ M 82 (fcs k + i) = nI (fa k i) ∧ M 83 (fcs k + i) = (if pr k = true then nI (fb k i) else -1) ∧ M 84 (fcs k + i) = nI (fwh k i)
theorem f185 {k i c d j : Nat} {M : IM} (hk : k = 0 ∨ k = 1 ∨ k = 4) (hi : i < mny k) (h : CSR k i c d M) (hj : j < nmOf k) : F_185 (nI j) M = some (valF k i c d j) := by
  obtain ⟨a1, a2, a3, a4, a5, a6⟩ := h
  have hk6 : k < 6 := by omega
  have hh := fa_lt k hk6 i hi
  have hb := fb_lt k hk6 i hi
  have hf := fc_lt hk6 hi
  have hj10 : j < 10 := by have := (nmOf_le k).2; omega
  have e0 : F_166 (nI (fa k i)) 0 = _ := E_166 _ hh 0 (by decide)
  have e1 : F_166 (nI (fa k i)) 1 = _ := E_166 _ hh 1 (by decide)
  unfold F_185
  rw [a1, a2, a3, ie_in (by omega), if_pos (by omega), ni_cl (by omega), a4, e0, e1, E_151 _ hh]
  rcases (show j = 0 ∨ j = 1 ∨ j = 2 ∨ j = 3 ∨ j = 4 ∨ j = 5 ∨ j = 6 ∨ j = 7 ∨ j = 8 ∨ j = 9 by omega) with z | z | z | z | z | z | z | z | z | z <;> subst z
  · rfl
  · rfl
  · rfl
  · rfl
  · show some (F_152 (nI (fa k i)) (nI 0)) = _
    rw [E_152 _ hh 0 (by decide)]; rfl
  · show some (F_152 (nI (fa k i)) (nI 1)) = _
    rw [E_152 _ hh 1 (by decide)]; rfl
  · show some (F_152 (nI (fa k i)) (nI 2)) = _
    rw [E_152 _ hh 2 (by decide)]; rfl
  · rfl
  · have hk14 : k = 1 ∨ k = 4 := by
      rcases hk with q | q | q
      · subst q; exact absurd hj (by decide)
      · exact Or.inl q
      · exact Or.inr q
    have hp : pr k = true := by rcases hk14 with q | q <;> subst q <;> rfl
    rw [hp, if_pos rfl] at a5
    rw [a5, a6, E_151 _ hb]
    have hin : inb (nI (fcs k + i)) 90 = true := by rw [inb_nI (by omega)]; exact hf
    show (if inb (nI (fcs k + i)) 90 = true then (if nI (hsz (fb k i)) ≤ nI (hsz (fa k i)) then (if inb (nI (fcs k + i)) 90 = true then some (F_152 (nI (fa k i)) (nI (fwh k i))) else none) else (if inb (nI (fcs k + i)) 90 = true then some (F_152 (nI (fb k i)) (nI 2)) else none)) else none) = some (if k = 1 then nI (hwt (fa k i) (fwh k i)) else nI (hwt (fb k i) 2))
    have hs1 : hsz (fb k i) ≤ 3 := by unfold hsz; by_cases q : fb k i < 4; · rw [if_pos q]; decide
                                      · rw [if_neg q]; decide
    have hs2 : hsz (fa k i) ≤ 3 := by unfold hsz; by_cases q : fa k i < 4; · rw [if_pos q]; decide
                                      · rw [if_neg q]; decide
    rw [if_pos hin, ie_le (by omega) (by omega)]
    rcases hk14 with q | q <;> subst q
    · rw [if_pos (sz_1 i hi), if_pos hin, E_152 _ hh _ (E_4 i hi).2]; rfl
    · rw [if_neg (sz_4 i hi), if_pos hin, E_152 _ hb 2 (by decide)]; rfl
  · rw [a6]
    show (if inb (nI (fcs k + i)) 90 = true then some (nI (fwh k i)) else none) = _
    rw [if_pos (by rw [inb_nI (by omega)]; exact hf)]; rfl
def CDR (e : List Nat) (k : Nat) (M : IM) : Prop := EV (nmOf k) e ∧ e.length ≤ 50 ∧ M 77 14 = nI e.length ∧ ∀ j, j < e.length → M 85 j = nI (e.getD j 0)
theorem CDR.cg {e : List Nat} {k : Nat} {M M' : IM} (h : CDR e k M) (f : ∀ a b, (a = 77 ∧ b = 14) ∨ a = 85 → M' a b = M a b) : CDR e k M' :=
  ⟨h.1, h.2.1, (f 77 14 (by omega)).trans h.2.2.1, fun j hj => (f 85 j (by omega)).trans (h.2.2.2 j hj)⟩
/-- what stands still while a law's numbers are made -/
def FrK (M M' : IM) : Prop := ∀ a b, a ≠ 86 → (a = 77 → b ≠ 16 ∧ b ≠ 17) → M' a b = M a b
def CC (k i : Nat) (M : IM) : Prop := M 77 15 = nI (fcs k + i) ∧ M 82 (fcs k + i) = nI (fa k i) ∧ M 83 (fcs k + i) = (if pr k = true then nI (fb k i) else -1) ∧ M 84 (fcs k + i) = nI (fwh k i)
theorem CC.cg {k i : Nat} {M M' : IM} (h : CC k i M) (f : FrK M M') : CC k i M' :=
  ⟨(f 77 15 (by decide) (fun _ => by decide)).trans h.1, (f 82 _ (by decide) (fun z => absurd z (by decide))).trans h.2.1, (f 83 _ (by decide) (fun z => absurd z (by decide))).trans h.2.2.1, (f 84 _ (by decide) (fun z => absurd z (by decide))).trans h.2.2.2⟩
theorem FrK.s1 (M : IM) (x y : Int32) : FrK M (iset (iset M 77 16 x) 77 17 y) := fun a b p q => by
  by_cases w : a = 77
  · subst w; rw [iset_j (q rfl).2, iset_j (q rfl).1]
  · rw [iset_k w, iset_k w]
theorem f188 {e : List Nat} {k i c d : Nat} {M : IM} (hk : k < 6) (hi : i < mny k) (hc : 1 ≤ c ∧ c ≤ 3) (hd : d ≤ 3) (h0 : k = 0 → d = 0) (h : CC k i M) (he : k = 0 ∨ k = 1 ∨ k = 4 → CDR e k M) : ∃ M', F_188 (nI k) (nI c) (nI d) M = some (if fK e k i c d = true then 1 else 0, M') ∧ FrK M M' := by
  unfold F_188
  rw [lit_nI (n := 2), lit_nI (n := 3), lit_nI (n := 5), ie_eq (by omega) (by omega), ie_eq (by omega) (by omega), ie_eq (by omega) (by omega), ie_eq (by omega) (by omega), ie_eq (by omega) (by omega), ie_eq (by omega) (by omega)]
  unfold fK
  by_cases z2 : k = 2
  · rw [if_pos z2, if_pos z2]
    refine ⟨_, ?_, FrK.s1 M (nI c) (nI d)⟩
    by_cases y : d = c
    · rw [if_pos y, decide_eq_true y]; rfl
    · rw [if_neg y, decide_eq_false y]; rfl
  · rw [if_neg z2, if_neg z2]
    by_cases z3 : k = 3
    · rw [if_pos z3, if_pos z3]
      refine ⟨_, ?_, FrK.s1 M (nI c) (nI d)⟩
      unfold J_188_75
      by_cases y : c = 3
      · rw [if_pos y, if_pos y, ie_eq (by omega) (by omega)]
        by_cases w : d = 3
        · rw [if_pos w, decide_eq_true w]; rfl
        · rw [if_neg w, decide_eq_false w]; rfl
      · rw [if_neg y, if_neg y, ni_sub (by omega), ie_eq (by omega) (by omega)]
        by_cases w : d = 3 - c
        · rw [if_pos w, decide_eq_true w]; rfl
        · rw [if_neg w, decide_eq_false w]; rfl
    · rw [if_neg z3, if_neg z3]
      by_cases z5 : k = 5
      · rw [if_pos z5, if_pos z5]
        refine ⟨_, ?_, FrK.s1 M (nI c) (nI d)⟩
        by_cases y : c = 3
        · rw [if_pos y, decide_eq_true y]; rfl
        · rw [if_neg y, decide_eq_false y]; rfl
      · rw [if_neg z5, if_neg z5]
        have hk3 : k = 0 ∨ k = 1 ∨ k = 4 := by omega
        have hed : (if k = 0 then 0 else d) = d := by
          by_cases q : k = 0
          · rw [if_pos q, h0 q]
          · rw [if_neg q]
        rw [hed]
        have hs : FrK M (iset (iset M 77 16 (nI c)) 77 17 (nI d)) := FrK.s1 M _ _
        have he' : CDR e k (iset (iset M 77 16 (nI c)) 77 17 (nI d)) := (he hk3).cg (fun a b q => hs a b (by omega) (fun w => by omega))
        have hcc := h.cg hs
        obtain ⟨M', a1, a2⟩ := f187 (val := valF k i c d) (nmOf_le k).2 he'.2.1 he'.1 he'.2.2.1 he'.2.2.2 (fun j hj M1 fr => f185 hk3 hi ⟨(fr _ _ (by decide)).trans hcc.1, by rw [fr _ _ (by decide), iset_j (by decide), iset_same], by rw [fr _ _ (by decide), iset_same], (fr _ _ (by decide)).trans hcc.2.1, (fr _ _ (by decide)).trans hcc.2.2.1, (fr _ _ (by decide)).trans hcc.2.2.2⟩ hj)
        rw [a1]
        exact ⟨M', rfl, fun a b p q => (a2 a b p).trans (hs a b p q)⟩
theorem FrK.tr {M M1 M2 : IM} (h : FrK M M1) (h2 : FrK M1 M2) : FrK M M2 := fun a b p q => (h2 a b p q).trans (h a b p q)
def rfN (g : Nat → Nat → Bool) (c a : Nat) : Nat → Nat
  | 0 => a
  | n + 1 => rfN g c a n ||| (if g c (n + 1) = true then 1 <<< (3 * c + (n + 1) - 4) else 0)
def rtN (g : Nat → Nat → Bool) : Nat → Nat
  | 0 => 0
  | n + 1 => rfN g (n + 1) (rtN g n) 3
def rsN (g : Nat → Nat → Bool) : Nat → Nat
  | 0 => 0
  | n + 1 => rsN g n ||| (if g (n + 1) 0 = true then 1 <<< n else 0)
theorem rtN_tbl (g : Nat → Nat → Bool) : rtN g 3 = tbl g := by
  simp only [rtN, rfN, tbl, tbC, rwN]
  generalize g (0 + 1) (0 + 1) = b1, g (0 + 1) (0 + 1 + 1) = b2, g (0 + 1) (0 + 1 + 1 + 1) = b3, g (0 + 1 + 1) (0 + 1) = b4, g (0 + 1 + 1) (0 + 1 + 1) = b5, g (0 + 1 + 1) (0 + 1 + 1 + 1) = b6, g (0 + 1 + 1 + 1) (0 + 1) = b7, g (0 + 1 + 1 + 1) (0 + 1 + 1) = b8, g (0 + 1 + 1 + 1) (0 + 1 + 1 + 1) = b9
  revert b1 b2 b3 b4 b5 b6 b7 b8 b9
  decide +kernel
theorem rtN_lt (g : Nat → Nat → Bool) (c a : Nat) (hc : 1 ≤ c) (hc3 : c ≤ 3) (ha : a < 512) : ∀ n, n ≤ 3 → rfN g c a n < 512
  | 0, _ => ha
  | n + 1, h => by
    have ih := rtN_lt g c a hc hc3 ha n (by omega)
    show (rfN g c a n ||| (if g c (n + 1) = true then 1 <<< (3 * c + (n + 1) - 4) else 0)) < 2 ^ 9
    refine Nat.or_lt_two_pow ih ?_
    by_cases z : g c (n + 1) = true
    · rw [if_pos z, Nat.one_shiftLeft]; exact Nat.pow_lt_pow_right (by decide) (by omega)
    · rw [if_neg z]; decide
theorem unif_b : ∀ b1 b2 b3 : Bool, ∀ c, c < 4 → ∀ d, d < 4 → 1 ≤ c → 1 ≤ d → (tbl (fun c _ => if c = 1 then b1 else if c = 2 then b2 else b3)).testBit (3 * c + d - 4) = (tbl (fun c _ => if c = 1 then b1 else if c = 2 then b2 else b3)).testBit (3 * c - 3) := by decide +kernel
theorem rs_b : ∀ b1 b2 b3 : Bool, rsN (fun c _ => if c = 1 then b1 else if c = 2 then b2 else b3) 3 = (tbl (fun c _ => if c = 1 then b1 else if c = 2 then b2 else b3)) % 2 + 2 * ((tbl (fun c _ => if c = 1 then b1 else if c = 2 then b2 else b3)) / 8 % 2) + 4 * ((tbl (fun c _ => if c = 1 then b1 else if c = 2 then b2 else b3)) / 64 % 2) := by decide +kernel
theorem rwN_cg {f g : Nat → Bool} : ∀ n, (∀ d, 1 ≤ d → d ≤ n → f d = g d) → rwN f n = rwN g n
  | 0, _ => rfl
  | n + 1, h => by
    show (rwN f n ||| (if f (n + 1) = true then 1 <<< n else 0)) = (rwN g n ||| (if g (n + 1) = true then 1 <<< n else 0))
    rw [rwN_cg n (fun d h1 h2 => h d h1 (by omega)), h (n + 1) (by omega) (by omega)]
theorem tbC_cg {f g : Nat → Nat → Bool} : ∀ n, (∀ c d, 1 ≤ c → c ≤ n → 1 ≤ d → d ≤ 3 → f c d = g c d) → tbC f n = tbC g n
  | 0, _ => rfl
  | n + 1, h => by
    show (tbC f n ||| (rwN (f (n + 1)) 3 <<< (3 * n))) = (tbC g n ||| (rwN (g (n + 1)) 3 <<< (3 * n)))
    rw [tbC_cg n (fun c d h1 h2 => h c d h1 (by omega)), rwN_cg 3 (fun d h1 h2 => h (n + 1) d (by omega) (by omega) h1 h2)]
theorem rsN_cg {f g : Nat → Nat → Bool} : ∀ n, (∀ c, 1 ≤ c → c ≤ n → f c 0 = g c 0) → rsN f n = rsN g n
  | 0, _ => rfl
  | n + 1, h => by
    show (rsN f n ||| (if f (n + 1) 0 = true then 1 <<< n else 0)) = (rsN g n ||| (if g (n + 1) 0 = true then 1 <<< n else 0))
    rw [rsN_cg n (fun c h1 h2 => h c h1 (by omega)), h (n + 1) (by omega) (by omega)]
theorem three {α : Type} {f : Nat → α} (c : Nat) (h1 : 1 ≤ c) (h2 : c ≤ 3) : f c = if c = 1 then f 1 else if c = 2 then f 2 else f 3 := by
  rcases (show c = 1 ∨ c = 2 ∨ c = 3 by omega) with z | z | z <;> subst z <;> rfl
theorem rsN_tbl {g : Nat → Nat → Bool} (hg : ∀ c d, g c d = g c 0) {k : Nat} (hk : pr k = false) : rsN g 3 = rtb k (tbl g) ∧ unif (tbl g) := by
  have e : tbl g = tbl (fun c _ => if c = 1 then g 1 0 else if c = 2 then g 2 0 else g 3 0) := tbC_cg 3 (fun c d h1 h2 _ _ => (hg c d).trans (three (f := fun c => g c 0) c h1 h2))
  have e2 : rsN g 3 = rsN (fun c _ => if c = 1 then g 1 0 else if c = 2 then g 2 0 else g 3 0) 3 := rsN_cg 3 (fun c h1 h2 => three (f := fun c => g c 0) c h1 h2)
  rw [e, e2]
  refine ⟨?_, fun c c1 c2 d d1 d2 => unif_b _ _ _ c (by omega) d (by omega) c1 d1⟩
  unfold rtb
  rw [hk, if_neg (by decide)]
  exact rs_b _ _ _
theorem f189i {e : List Nat} {k i c a : Nat} {x2 : Int32} {M : IM} (hk : k < 6) (hp : pr k = true) (hi : i < mny k) (hc : 1 ≤ c ∧ c ≤ 3) (ha : a < 512) (h : CC k i M) (he : k = 0 ∨ k = 1 ∨ k = 4 → CDR e k M) : ∃ y M', L_189_55 (nI k) x2 (nI c) (nI a) 1 M = some (nI (rfN (fK e k i) c a 3), y, M') ∧ FrK M M' := by
  obtain ⟨r, h1, h2⟩ := loopF (body := B_189_55 (nI k) x2 (nI c)) (fun n st => ∃ M', st = (nI (rfN (fK e k i) c a n), nI (n + 1), M') ∧ FrK M M') (fun r => r.1 = nI (rfN (fK e k i) c a 3) ∧ FrK M r.2.2) 3 (by decide) (s := (nI a, nI 1, M)) ⟨M, rfl, fun _ _ _ _ => rfl⟩ (fun n st hn3 hI => by
    obtain ⟨M1, rfl, fr⟩ := hI
    unfold B_189_55
    dsimp only
    rw [lit_nI (n := 3), ie_lt (by omega) (by omega)]
    by_cases y : 3 < n + 1
    · obtain rfl : n = 3 := by omega
      exact Or.inl ⟨_, by rw [if_pos y], rfl, fr⟩
    · have hlt := rtN_lt (fK e k i) c a hc.1 hc.2 ha n (by omega)
      obtain ⟨M', b1, b2⟩ := f188 (e := e) (d := n + 1) hk hi hc (by omega) (fun q => by subst q; exact absurd hp (by decide)) (h.cg fr) (fun q => (he q).cg (fun a b w => fr a b (by omega) (fun w => by omega)))
      rw [if_neg y, b1]
      dsimp only
      unfold J_189_89_55
      have er : rfN (fK e k i) c a (n + 1) = rfN (fK e k i) c a n ||| (if fK e k i c (n + 1) = true then 1 <<< (3 * c + (n + 1) - 4) else 0) := rfl
      have hsh : (1 : Int32) <<< ((nI 3 * nI c + nI (n + 1) - 4) &&& 31) = nI (1 <<< (3 * c + (n + 1) - 4)) := by
        rw [lit_nI (n := 4), ni_mul, ni_add, ni_sub (by omega)]
        exact ni_shl (a := 1) (by omega) (by
          rw [Nat.one_mul]
          exact Nat.lt_of_le_of_lt (Nat.pow_le_pow_right (by decide) (show 3 * c + (n + 1) - 4 ≤ 8 by omega)) (by decide))
      rw [hsh, ni_add1, ni_or]
      cases q : fK e k i c (n + 1)
      · rw [if_neg (show ¬ false = true by decide), if_pos rfl]
        refine Or.inr ⟨by omega, _, rfl, M', ?_, fr.tr b2⟩
        rw [er, q, if_neg (show ¬ false = true by decide), Nat.or_zero, show nI (rfN (fK e k i) c a n) ||| 0 = nI (rfN (fK e k i) c a n) from (ni_or _ 0).trans (by rw [Nat.or_zero])]
      · rw [if_pos rfl, if_neg one_ne]
        refine Or.inr ⟨by omega, _, rfl, M', ?_, fr.tr b2⟩
        rw [er, q, if_pos rfl])
  exact ⟨r.2.1, r.2.2, by unfold L_189_55; rw [show loopN (B_189_55 (nI k) x2 (nI c)) FU (nI a, 1, M) = some r from h1, ← h2.1], h2.2⟩
theorem rt_lt (g : Nat → Nat → Bool) : ∀ n, n ≤ 3 → rtN g n < 512
  | 0, _ => by show 0 < 512; decide
  | n + 1, h => rtN_lt g (n + 1) (rtN g n) (by omega) h (rt_lt g n (by omega)) 3 (by decide)
theorem rs_lt (g : Nat → Nat → Bool) : ∀ n, n ≤ 3 → rsN g n < 8
  | 0, _ => by show 0 < 8; decide
  | n + 1, h => by
    have ih := rs_lt g n (by omega)
    show (rsN g n ||| (if g (n + 1) 0 = true then 1 <<< n else 0)) < 2 ^ 3
    refine Nat.or_lt_two_pow ih ?_
    by_cases z : g (n + 1) 0 = true
    · rw [if_pos z, Nat.one_shiftLeft]; exact Nat.pow_lt_pow_right (by decide) (by omega)
    · rw [if_neg z]; decide
theorem fK_np {e : List Nat} {k i : Nat} (hk : k < 6) (hp : pr k = false) (c d : Nat) : fK e k i c d = fK e k i c 0 := by
  unfold fK
  by_cases z : k = 0
  · have n2 : ¬ k = 2 := by omega
    have n3 : ¬ k = 3 := by omega
    have n5 : ¬ k = 5 := by omega
    rw [if_neg n2, if_neg n3, if_neg n5, if_pos z, if_neg n2, if_neg n3, if_neg n5, if_pos z]
  · by_cases y : k = 5
    · have n2 : ¬ k = 2 := by omega
      have n3 : ¬ k = 3 := by omega
      rw [if_neg n2, if_neg n3, if_pos y, if_neg n2, if_neg n3, if_pos y]
    · exfalso
      rcases (show k = 1 ∨ k = 2 ∨ k = 3 ∨ k = 4 by omega) with w | w | w | w
      · subst w; exact absurd hp (by decide)
      · subst w; exact absurd hp (by decide)
      · subst w; exact absurd hp (by decide)
      · subst w; exact absurd hp (by decide)
theorem f189n {e : List Nat} {k i : Nat} {M0 : IM} (hk : k < 6) (hi : i < mny k) (h0 : CC k i M0) (he0 : k = 0 ∨ k = 1 ∨ k = 4 → CDR e k M0) (hp : pr k = false) : ∃ r, L_189_10 (nI k) (nI (fcs k + i)) 0 1 M0 = some r ∧ r.1 = nI (rtb k (tbl (fK e k i))) ∧ FrK M0 r.2.2 ∧ unif (tbl (fK e k i)) := by
  have hf := fc_lt hk hi
  obtain ⟨r1, r2⟩ := rsN_tbl (fun c d => fK_np (e := e) (i := i) hk hp c d) hp
  obtain ⟨r, h1, h2⟩ := loopF (body := B_189_10 (nI k) (nI (fcs k + i))) (fun n st => ∃ M', st = (nI (rsN (fK e k i) n), nI (n + 1), M') ∧ FrK M0 M') (fun r => r.1 = nI (rsN (fK e k i) 3) ∧ FrK M0 r.2.2) 3 (by decide) (s := (nI 0, nI 1, M0)) ⟨M0, rfl, fun _ _ _ _ => rfl⟩ (fun n st hn3 hI => by
    obtain ⟨M1, rfl, fr⟩ := hI
    unfold B_189_10
    dsimp only
    rw [lit_nI (n := 3), ie_lt (by omega) (by omega)]
    by_cases y : 3 < n + 1
    · obtain rfl : n = 3 := by omega
      exact Or.inl ⟨_, by rw [if_pos y], rfl, fr⟩
    · have hlt := rs_lt (fK e k i) n (by omega)
      have e83 : M1 83 (fcs k + i) = -1 := by rw [(h0.cg fr).2.2.1, hp, if_neg (by decide)]
      obtain ⟨M', b1, b2⟩ := f188 (e := e) (c := n + 1) (d := 0) hk hi (by omega) (by omega) (fun _ => rfl) (h0.cg fr) (fun q => (he0 q).cg (fun a b w => fr a b (by omega) (fun w => by omega)))
      have b1 : F_188 (nI k) (nI (n + 1)) 0 M1 = _ := b1
      rw [if_neg y, ie_in (by omega), if_pos hf, ni_cl (by omega), e83, if_neg (by decide), b1]
      dsimp only
      unfold J_189_47_10 J_189_97_10
      have er : rsN (fK e k i) (n + 1) = rsN (fK e k i) n ||| (if fK e k i (n + 1) 0 = true then 1 <<< n else 0) := rfl
      have hsh : (1 : Int32) <<< ((nI (n + 1) - 1) &&& 31) = nI (1 <<< n) := by
        rw [show nI (n + 1) - 1 = nI n from ni_sub (b := 1) (by omega)]
        exact ni_shl (a := 1) (by omega) (by
          rw [Nat.one_mul]
          exact Nat.lt_of_le_of_lt (Nat.pow_le_pow_right (by decide) (show n ≤ 8 by omega)) (by decide))
      rw [hsh, ni_add1, ni_or]
      cases q : fK e k i (n + 1) 0
      · rw [if_neg (show ¬ false = true by decide), if_pos rfl]
        refine Or.inr ⟨by omega, _, rfl, M', ?_, fr.tr b2⟩
        rw [er, q, if_neg (show ¬ false = true by decide), Nat.or_zero, show nI (rsN (fK e k i) n) ||| 0 = nI (rsN (fK e k i) n) from (ni_or _ 0).trans (by rw [Nat.or_zero])]
      · rw [if_pos rfl, if_neg one_ne]
        refine Or.inr ⟨by omega, _, rfl, M', ?_, fr.tr b2⟩
        rw [er, q, if_pos rfl])
  exact ⟨r, h1, by rw [← r1]; exact h2.1, h2.2, r2⟩
theorem f189p {e : List Nat} {k i : Nat} {M0 : IM} (hk : k < 6) (hi : i < mny k) (h0 : CC k i M0) (he0 : k = 0 ∨ k = 1 ∨ k = 4 → CDR e k M0) (hp : pr k = true) : ∃ r, L_189_10 (nI k) (nI (fcs k + i)) 0 1 M0 = some r ∧ r.1 = nI (rtb k (tbl (fK e k i))) ∧ FrK M0 r.2.2 := by
  have hf := fc_lt hk hi
  obtain ⟨r, h1, h2⟩ := loopF (body := B_189_10 (nI k) (nI (fcs k + i))) (fun n st => ∃ M', st = (nI (rtN (fK e k i) n), nI (n + 1), M') ∧ FrK M0 M') (fun r => r.1 = nI (rtN (fK e k i) 3) ∧ FrK M0 r.2.2) 3 (by decide) (s := (nI 0, nI 1, M0)) ⟨M0, rfl, fun _ _ _ _ => rfl⟩ (fun n st hn3 hI => by
    obtain ⟨M1, rfl, fr⟩ := hI
    unfold B_189_10
    dsimp only
    rw [lit_nI (n := 3), ie_lt (by omega) (by omega)]
    by_cases y : 3 < n + 1
    · obtain rfl : n = 3 := by omega
      exact Or.inl ⟨_, by rw [if_pos y], rfl, fr⟩
    · have hlt := rt_lt (fK e k i) n (by omega)
      have hb := fb_lt k hk i hi
      have e83 : M1 83 (fcs k + i) = nI (fb k i) := by rw [(h0.cg fr).2.2.1, hp, if_pos rfl]
      obtain ⟨y2, M', b1, b2⟩ := f189i (e := e) (c := n + 1) (a := rtN (fK e k i) n) (x2 := nI (fcs k + i)) hk hp hi (by omega) hlt (h0.cg fr) (fun q => (he0 q).cg (fun a b w => fr a b (by omega) (fun w => by omega)))
      rw [if_neg y, ie_in (by omega), if_pos hf, ni_cl (by omega), e83, if_pos (nI_pos' (by omega)), b1]
      dsimp only
      unfold J_189_97_10
      rw [ni_add1]
      exact Or.inr ⟨by omega, _, rfl, M', rfl, fr.tr b2⟩)
  exact ⟨r, h1, by unfold rtb; rw [hp, if_pos rfl, ← rtN_tbl]; exact h2.1, h2.2⟩
theorem f189 {e : List Nat} {k i : Nat} {M : IM} (hk : k < 6) (hi : i < mny k) (h : M 82 (fcs k + i) = nI (fa k i) ∧ M 83 (fcs k + i) = (if pr k = true then nI (fb k i) else -1) ∧ M 84 (fcs k + i) = nI (fwh k i)) (he : k = 0 ∨ k = 1 ∨ k = 4 → CDR e k M) : ∃ M', F_189 (nI k) (nI (fcs k + i)) M = some (nI (rtb k (tbl (fK e k i))), M') ∧ (∀ a b, a ≠ 86 → (a = 77 → b ≠ 15 ∧ b ≠ 16 ∧ b ≠ 17) → M' a b = M a b) ∧ (pr k = false → unif (tbl (fK e k i))) := by
  have hf := fc_lt hk hi
  have h0 : CC k i (iset M 77 15 (nI (fcs k + i))) := ⟨iset_same _ _ _ _, by rw [iset_k (by decide)]; exact h.1, by rw [iset_k (by decide)]; exact h.2.1, by rw [iset_k (by decide)]; exact h.2.2⟩
  have he0 : k = 0 ∨ k = 1 ∨ k = 4 → CDR e k (iset M 77 15 (nI (fcs k + i))) := fun q => (he q).cg (fun a b w => by
    by_cases v : a = 77
    · rw [iset_j (by omega)]
    · rw [iset_k v])
  have hfin : ∀ M', FrK (iset M 77 15 (nI (fcs k + i))) M' → ∀ a b, a ≠ 86 → (a = 77 → b ≠ 15 ∧ b ≠ 16 ∧ b ≠ 17) → M' a b = M a b := fun M' fr a b p q => by
    rw [fr a b p (fun w => (q w).2)]
    by_cases v : a = 77
    · rw [iset_j (by have := q v; omega)]
    · rw [iset_k v]
  cases hp : pr k
  · obtain ⟨r, r1, r2, r3, r4⟩ := f189n hk hi h0 he0 hp
    refine ⟨r.2.2, ?_, hfin _ r3, fun _ => r4⟩
    unfold F_189
    rw [r1, ← r2]
  · obtain ⟨r, r1, r2, r3⟩ := f189p hk hi h0 he0 hp
    refine ⟨r.2.2, ?_, hfin _ r3, fun q => Bool.noConfusion q⟩
    unfold F_189
    rw [r1, ← r2]
