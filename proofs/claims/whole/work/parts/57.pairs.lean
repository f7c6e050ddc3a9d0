/-! the tally's tables of pairs -/
theorem bt3.bP {m : Nat} {p : Nat → Prop} {c : Nat} (h : bt3 m p) (h1 : 1 ≤ c) (h3 : c ≤ 3) : bP (p c) = m.testBit (c - 1) := by
  cases hb : m.testBit (c - 1)
  · exact bP_f (fun z => by rw [(h.2 c h1 h3).mpr z] at hb; cases hb)
  · exact bP_t ((h.2 c h1 h3).mp hb)
noncomputable def eL (A : Nat → Nat → Nat → Nat → Prop) (w : Nat → Nat) (h k b c d : Nat) : VV := bif bP (b.testBit (d - 1) = true ∧ A h k c d) then (1, offN w h c + offN w k d) else ve
noncomputable def rowE (A : Nat → Nat → Nat → Nat → Prop) (w : Nat → Nat) (h k b c : Nat) : VV := vop (vop (eL A w h k b c 1) (eL A w h k b c 2)) (eL A w h k b c 3)
def t3x (a : Nat) (X Y Z : VV) : VV := vop (vop (bif a.testBit 0 then X else ve) (bif a.testBit 1 then Y else ve)) (bif a.testBit 2 then Z else ve)
noncomputable def TT (A : Nat → Nat → Nat → Nat → Prop) (w : Nat → Nat) (h k a b : Nat) : VV := t3x a (rowE A w h k b 1) (rowE A w h k b 2) (rowE A w h k b 3)
def loN (w : Nat → Nat) (k m : Nat) : Nat := if m = 0 then 99 else bif m.testBit (w k - 1) then 0 else 1
theorem loN_le (w : Nat → Nat) (k m : Nat) : loN w k m ≤ 99 := by
  unfold loN
  by_cases z : m = 0
  · rw [if_pos z]; exact Nat.le_refl _
  · rw [if_neg z]; cases m.testBit (w k - 1) <;> decide
def loX (x m : Nat) : Nat := if m = 0 then 99 else bif m.testBit (x - 1) then 0 else 1
theorem row_k : ∀ m, m < 8 → ∀ o, o < 2 → ∀ x, x < 4 → 1 ≤ x → vop (vop (bif m.testBit 0 then (1, o + bif Nat.beq x 1 then 0 else 1) else ve) (bif m.testBit 1 then (1, o + bif Nat.beq x 2 then 0 else 1) else ve)) (bif m.testBit 2 then (1, o + bif Nat.beq x 3 then 0 else 1) else ve) = (pcN m, min 99 (o + loX x m)) := by decide
theorem row_ok {A : Nat → Nat → Nat → Nat → Prop} {w : Nat → Nat} {h k b c g : Nat} (hb : b < 8) (hg : bt3 g (A h k c)) (hw : 1 ≤ w k ∧ w k ≤ 3) : rowE A w h k b c = (pcN (b &&& g), min 99 (offN w h c + loN w k (b &&& g))) ∧ b &&& g < 8 := by
  have hm : bt3 (b &&& g) (fun d => b.testBit (d - 1) = true ∧ A h k c d) := bt3.and ⟨hb, fun d _ _ => Iff.rfl⟩ hg
  refine ⟨?_, hm.1⟩
  unfold rowE eL
  rw [hm.bP (c := 1) (by decide) (by decide), hm.bP (c := 2) (by decide) (by decide), hm.bP (c := 3) (by decide) (by decide)]
  exact row_k _ hm.1 (offN w h c) (by have := offN_le w h c; omega) (w k) (by omega) hw.1
theorem t3x_le {a : Nat} {X Y Z : VV} (h : X.2 ≤ 99) : (t3x a X Y Z).2 ≤ 99 := by
  unfold t3x
  apply vop_le; apply vop_le
  cases a.testBit 0
  · exact Nat.le_refl _
  · exact h
theorem row_le (A : Nat → Nat → Nat → Nat → Prop) (w : Nat → Nat) (h k b c : Nat) : (rowE A w h k b c).2 ≤ 99 := by
  unfold rowE
  apply vop_le; apply vop_le
  unfold eL
  cases bP (b.testBit (1 - 1) = true ∧ A h k c 1)
  · exact Nat.le_refl _
  · show offN w h c + offN w k 1 ≤ 99
    have := offN_le w h c; have := offN_le w k 1; omega
theorem TT_le (A : Nat → Nat → Nat → Nat → Prop) (w : Nat → Nat) (h k a b : Nat) : (TT A w h k a b).2 ≤ 99 := t3x_le (row_le A w h k b 1)
def loA (a : Nat) : Nat := [0, 1, 2, 1, 3, 1, 2, 1].getD a 0
def reA (a : Nat) : Nat := [0, 0, 0, 2, 0, 4, 4, 6].getD a 0
theorem lo_a : ∀ a, a < 8 → a ≠ 0 → F_144 (nI a) = nI (loA a) ∧ 1 ≤ loA a ∧ loA a ≤ 3 ∧ nI a &&& (nI a - 1) = nI (reA a) ∧ reA a < a := by decide
theorem t3x_st {X Y Z : VV} (hX : X.2 ≤ 99) (hY : Y.2 ≤ 99) (hZ : Z.2 ≤ 99) : ∀ a, a < 8 → a ≠ 0 → t3x a X Y Z = vop (t3x (reA a) X Y Z) (if loA a = 1 then X else if loA a = 2 then Y else Z)
  | 0, _, h => absurd rfl h
  | 1, _, _ => by show vop (vop X ve) ve = vop (vop (vop ve ve) ve) X; rw [vop_ve hX, vop_ve hX, vop_comm, show vop (vop ve ve) ve = ve from rfl, vop_ve hX]
  | 2, _, _ => by show vop (vop ve Y) ve = vop (vop (vop ve ve) ve) Y; rw [vop_ve' hY, vop_ve hY, vop_comm, show vop (vop ve ve) ve = ve from rfl, vop_ve hY]
  | 3, _, _ => by show vop (vop X Y) ve = vop (vop (vop ve Y) ve) X; rw [vop_ve' hY, vop_ve hY, vop_ve (vop_le hX), vop_comm]
  | 4, _, _ => by show vop (vop ve ve) Z = vop (vop (vop ve ve) ve) Z; rfl
  | 5, _, _ => by show vop (vop X ve) Z = vop (vop (vop ve ve) Z) X; rw [vop_ve hX, show vop ve ve = ve from rfl, vop_ve' hZ, vop_comm]
  | 6, _, _ => by show vop (vop ve Y) Z = vop (vop (vop ve ve) Z) Y; rw [vop_ve' hY, show vop ve ve = ve from rfl, vop_ve' hZ, vop_comm]
  | 7, _, _ => by show vop (vop X Y) Z = vop (vop (vop ve Y) Z) X; rw [vop_ve' hY, vop_assoc, vop_comm X]
  | a + 8, h, _ => by omega
theorem TT_st {A : Nat → Nat → Nat → Nat → Prop} {w : Nat → Nat} {h k a b : Nat} (ha : a < 8) (h0 : a ≠ 0) : TT A w h k a b = vop (TT A w h k (reA a) b) (rowE A w h k b (loA a)) := by
  obtain ⟨-, l1, l3, -, -⟩ := lo_a a ha h0
  unfold TT
  rw [t3x_st (row_le A w h k b 1) (row_le A w h k b 2) (row_le A w h k b 3) a ha h0]
  have : loA a = 1 ∨ loA a = 2 ∨ loA a = 3 := by omega
  rcases this with e | e | e
  · rw [e]; rfl
  · rw [e]; rfl
  · rw [e]; rfl
def TW (w : Nat → Nat) (M : IM) : Prop := ∀ h, h < 12 → 1 ≤ w h ∧ w h ≤ 3 ∧ M 57 h = nI (w h)
section PAIRS
variable {A : Nat → Nat → Nat → Nat → Prop} {w : Nat → Nat} {M : IM} {h k c t3 t4 : Nat}
theorem f52 (hw : TW w M) (hh : h < 12) (h3 : c ≤ 3) : F_52 (nI h) (nI c) M = some (nI (offN w h c)) := by
  obtain ⟨w1, w2, w3⟩ := hw h hh
  unfold F_52 offN
  have e : (nI (w h) = nI c) = (w h = c) := ni_eqi (by omega) (by omega)
  rw [if_pos ((inb_nI (by omega)).mpr hh), ni_cl (by omega), w3]
  simp only [e]
  by_cases z : w h = c
  · rw [if_pos z, z, Nat.beq_refl]; rfl
  · rw [if_neg z, beqf z]; rfl
theorem f53 {m : Nat} (hw : TW w M) (hh : h < 12) (hm : m < 8) : F_53 (nI h) (nI m) M = some (nI (loN w h m)) := by
  obtain ⟨w1, w2, w3⟩ := hw h hh
  unfold F_53 loN
  by_cases z : m = 0
  · rw [z, if_pos (show nI 0 = 0 from rfl), if_pos rfl]; rfl
  · rw [if_neg (nI_ne0 (by omega) (by omega)), if_neg z, if_pos ((inb_nI (by omega)).mpr hh), ni_cl (by omega), w3, holds_ok (by omega) w1 (by omega)]
    cases m.testBit (w h - 1)
    · simp only [Bool.false_eq_true, Bool.true_eq_false, if_false, if_true, cond_false]; rfl
    · simp only [if_true, one_ne, if_false, cond_true]; rfl
def TabP (A : Nat → Nat → Nat → Nat → Prop) (w : Nat → Nat) (h k t3 t4 n : Nat) (M : IM) : Prop := ∀ a b, a < 8 → b < 8 → 8 * a + b < n → M t3 (8 * a + b) = nI (TT A w h k a b).1 ∧ M t4 (8 * a + b) = nI (TT A w h k a b).2
def Fr2 (t3 t4 : Nat) (M M' : IM) : Prop := ∀ x j, x ≠ t3 → x ≠ t4 → M' x j = M x j
theorem Fr2.rf : Fr2 t3 t4 M M := fun _ _ _ _ => rfl
theorem Fr2.tr {M1 M2 : IM} (h1 : Fr2 t3 t4 M M1) (h2 : Fr2 t3 t4 M1 M2) : Fr2 t3 t4 M M2 := fun x j a b => (h2 x j a b).trans (h1 x j a b)
theorem TabP.st {a b : Nat} {x y : Int32} (hne : t3 ≠ t4) (hT : TabP A w h k t3 t4 (8 * a + b) M) (hb : b < 8) (hx : x = nI (TT A w h k a b).1) (hy : y = nI (TT A w h k a b).2) : TabP A w h k t3 t4 (8 * a + (b + 1)) (iset (iset M t3 (8 * a + b) x) t4 (8 * a + b) y) := by
  intro a' b' ha' hb' hl
  by_cases e : 8 * a' + b' = 8 * a + b
  · obtain ⟨rfl, rfl⟩ : a' = a ∧ b' = b := by omega
    rw [iset_same, iset_k hne, iset_same]
    exact ⟨hx, hy⟩
  · rw [iset_j e, iset_j e, iset_j e, iset_j e]
    exact hT a' b' ha' hb' (by omega)
theorem min_nI {x y : Nat} (hx : x < 2147483648) (hy : y < 2147483648) : (bif decide (nI x < nI y) then nI x else nI y) = nI (min x y) := by
  by_cases z : x < y
  · rw [decide_eq_true (show nI x < nI y by rw [ni_lti hx hy]; exact z), Nat.min_eq_left (by omega)]; rfl
  · rw [decide_eq_false (show ¬ nI x < nI y by rw [ni_lti hx hy]; exact z), Nat.min_eq_right (by omega)]; rfl
theorem l29 {a : Nat} (hG : RCgo A M) (hw : TW w M) (hh : h < 12) (hk : k < 12) (ha : a < 8) (hne : t3 ≠ t4) (h3 : 58 ≤ t3) (h4 : 58 ≤ t4) (e3 : ln t3 = 64) (e4 : ln t4 = 64) (hT : TabP A w h k t3 t4 (8 * a) M) (x6 x7 : Int32) (hx : a ≠ 0 → x6 = nI (loA a) ∧ x7 = nI (reA a)) : ∃ y M', L_51_29 (nI h) (nI k) t3 t4 (nI a) x6 x7 0 M = some (y, M') ∧ Fr2 t3 t4 M M' ∧ TabP A w h k t3 t4 (8 * a + 8) M' := by
  obtain ⟨⟨y, M'⟩, g1, g2, g3⟩ := loopF (body := B_51_29 (nI h) (nI k) t3 t4 (nI a) x6 x7) (fun b z => z.1 = nI b ∧ Fr2 t3 t4 M z.2 ∧ TabP A w h k t3 t4 (8 * a + b) z.2) (fun z => Fr2 t3 t4 M z.2 ∧ TabP A w h k t3 t4 (8 * a + 8) z.2) 8 (by decide) (s := ((0 : Int32), M)) ⟨rfl, Fr2.rf, hT⟩ (by
    rintro b ⟨x, Q⟩ hb8 ⟨rfl, q1, q2⟩
    dsimp only at q1 q2
    unfold B_51_29 J_51_141_29
    dsimp only
    by_cases hb : b < 8
    · right
      refine ⟨hb, ?_⟩
      have i8 : (8 : Int32) * nI a + nI b = nI (8 * a + b) := by rw [show (8 : Int32) * nI a = nI (8 * a) from ni_mul 8 a, ni_add]
      have i8a : inb (nI (8 * a + b)) 64 = true := (inb_nI (by omega)).mpr (by omega)
      have i8b : (nI (8 * a + b)).toNatClampNeg = 8 * a + b := ni_cl (by omega)
      rw [if_neg (show ¬ (8 : Int32) ≤ nI b from nI_ge (b := 8) hb (by decide))]
      simp only [e3, e4, i8, i8a, i8b, if_true, ni_add1]
      by_cases h0 : a = 0
      · subst h0
        rw [if_pos (show nI 0 = 0 from rfl)]
        refine ⟨_, rfl, rfl, fun x j a1 a2 => ?_, ?_⟩
        · show (iset (iset Q t3 (8 * 0 + b) 0) t4 (8 * 0 + b) 99) x j = _
          rw [iset_k a2, iset_k a1]; exact q1 x j a1 a2
        · exact q2.st hne hb rfl rfl
      · obtain ⟨rfl, rfl⟩ := hx h0
        obtain ⟨-, l1, l3, -, r1⟩ := lo_a a ha h0
        obtain ⟨g, g1, g2⟩ := hG h k (loA a) hh hk l1 l3
        obtain ⟨rw1, rw2⟩ := row_ok (w := w) (b := b) hb g2 ⟨(hw k hk).1, (hw k hk).2.1⟩
        have x1 : inb (((nI h * 12) + nI k) * 4 + nI (loA a)) 576 = true := by rw [go_ix, inb_nI (by omega)]; omega
        have x2 : (((nI h * 12) + nI k) * 4 + nI (loA a)).toNatClampNeg = (h * 12 + k) * 4 + loA a := by rw [go_ix, ni_cl (by omega)]
        have x3 : Q 52 ((h * 12 + k) * 4 + loA a) = nI g := by rw [q1 52 _ (by omega) (by omega)]; exact g1
        have i9 : (8 : Int32) * nI (reA a) + nI b = nI (8 * reA a + b) := by rw [show (8 : Int32) * nI (reA a) = nI (8 * reA a) from ni_mul 8 _, ni_add]
        have i9a : inb (nI (8 * reA a + b)) 64 = true := (inb_nI (by omega)).mpr (by omega)
        have i9b : (nI (8 * reA a + b)).toNatClampNeg = 8 * reA a + b := ni_cl (by omega)
        obtain ⟨o1, o2⟩ := q2 (reA a) b (by omega) hb (by omega)
        have p252 : F_252 (nI (b &&& g)) = nI (pcN (b &&& g)) := (pc_c (b &&& g) (by omega)).1
        rw [if_neg (nI_ne0 (by omega) (by omega))]
        simp only [x1, x2, x3, i9, i9a, i9b, if_true, ni_and, p252, o1, ni_add]
        have hwQ : ∀ v, TW w (iset Q t3 (8 * a + b) v) := fun v h' hh' => by
          rw [iset_k (by omega), q1 57 h' (by omega) (by omega)]; exact hw h' hh'
        rw [f52 (hwQ _) hh l3]
        dsimp only
        rw [f53 (hwQ _) hk rw2]
        dsimp only
        have u1 := offN_le w h (loA a)
        have u2 := loN_le w k (b &&& g)
        have u3 := TT_le A w h k (reA a) b
        rw [iset_k (fun z => hne z.symm), o2, ni_add, min_nI (by omega) (by omega)]
        refine ⟨_, rfl, rfl, fun x j a1 a2 => ?_, q2.st hne hb ?_ ?_⟩
        · dsimp only
          rw [iset_k a2, iset_k a1]; exact q1 x j a1 a2
        · rw [TT_st ha h0, rw1]; rfl
        · rw [TT_st ha h0, rw1]
          have := TT_le A w h k (reA a) b
          show nI (min (offN w h (loA a) + loN w k (b &&& g)) (TT A w h k (reA a) b).2) = nI (min (TT A w h k (reA a) b).2 (min 99 (offN w h (loA a) + loN w k (b &&& g))))
          congr 1
          omega
    · left
      obtain rfl : b = 8 := by omega
      exact ⟨_, rfl, q1, q2⟩)
  exact ⟨y, M', g1, g2, g3⟩
theorem f51 (hG : RCgo A M) (hw : TW w M) (hh : h < 12) (hk : k < 12) (hne : t3 ≠ t4) (h3 : 58 ≤ t3) (h4 : 58 ≤ t4) (e3 : ln t3 = 64) (e4 : ln t4 = 64) : ∃ M', F_51 (nI h) (nI k) t3 t4 M = some M' ∧ Fr2 t3 t4 M M' ∧ TabP A w h k t3 t4 64 M' := by
  obtain ⟨⟨y, M'⟩, g1, g2, g3⟩ := loopF (body := B_51_3 (nI h) (nI k) t3 t4) (fun a z => z.1 = nI a ∧ Fr2 t3 t4 M z.2 ∧ TabP A w h k t3 t4 (8 * a) z.2) (fun z => Fr2 t3 t4 M z.2 ∧ TabP A w h k t3 t4 64 z.2) 8 (by decide) (s := ((0 : Int32), M)) ⟨rfl, Fr2.rf, fun a b _ _ z => by omega⟩ (by
    rintro a ⟨x, Q⟩ ha8 ⟨rfl, q1, q2⟩
    dsimp only at q1 q2
    unfold B_51_3 J_51_147_3
    dsimp only
    by_cases ha : a < 8
    · right
      refine ⟨ha, ?_⟩
      have hGQ : RCgo A Q := hG.cg (fun j => q1 52 j (by omega) (by omega))
      have hwQ : TW w Q := fun h' hh' => by rw [q1 57 h' (by omega) (by omega)]; exact hw h' hh'
      obtain ⟨y', M1, b1, b2, b3⟩ := l29 hGQ hwQ hh hk ha hne h3 h4 e3 e4 q2 (F_144 (nI a)) (nI a &&& (nI a - 1)) (fun h0 => by
        obtain ⟨p1, -, -, p4, -⟩ := lo_a a ha h0
        exact ⟨p1, p4⟩)
      rw [if_neg (show ¬ (8 : Int32) ≤ nI a from nI_ge (b := 8) ha (by decide)), b1]
      dsimp only
      exact ⟨_, rfl, ni_add1 a, q1.tr b2, b3⟩
    · left
      obtain rfl : a = 8 := by omega
      exact ⟨_, rfl, q1, q2⟩)
  unfold F_51 L_51_3
  rw [g1]
  exact ⟨M', rfl, g2, g3⟩
/-! narrow -/
def RowT (d : Nat) (p : Nat → Nat → Prop) (M : IM) : Prop := ∀ k, k < 12 → ∃ m, M 56 (d * 12 + k) = nI m ∧ bt3 m (p k)
theorem RowT.cg {d : Nat} {p : Nat → Nat → Prop} {M' : IM} (hr : RowT d p M) (e : ∀ k, k < 12 → M' 56 (d * 12 + k) = M 56 (d * 12 + k)) : RowT d p M' := fun k hk => by rw [e k hk]; exact hr k hk
theorem RowT.im {d : Nat} {p q : Nat → Nat → Prop} (hr : RowT d p M) (e : ∀ k c, k < 12 → 1 ≤ c → c ≤ 3 → (p k c ↔ q k c)) : RowT d q M := fun k hk => by
  obtain ⟨m, m1, m2⟩ := hr k hk
  exact ⟨m, m1, m2.im (fun c c1 c3 => e k c hk c1 c3)⟩
theorem f55 {d : Nat} {p : Nat → Nat → Prop} (hG : RCgo A M) (hd : d < 6) (hh : h < 12) (h1 : 1 ≤ c) (h3 : c ≤ 3) (hr : RowT d p M) : ∃ x M', F_55 (nI d) (nI h) (nI c) M = some (x, M') ∧ (∀ x j, ¬ (x = 56 ∧ d * 12 + 12 ≤ j) → M' x j = M x j) ∧ ((x = 1 ∧ RowT (d + 1) (fun k c' => p k c' ∧ A h k c c') M') ∨ (x = 0 ∧ ∃ k, k < 12 ∧ ∀ c', 1 ≤ c' → c' ≤ 3 → ¬ (p k c' ∧ A h k c c'))) := by
  obtain ⟨res, g1, g2⟩ := loopF (body := B_55_9 (nI h) (nI c) (nI (d * 12))) (fun k z => z.1 = nI k ∧ (∀ x j, ¬ (x = 56 ∧ d * 12 + 12 ≤ j) → z.2 x j = M x j) ∧ ∀ k', k' < k → ∃ m, z.2 56 ((d + 1) * 12 + k') = nI m ∧ bt3 m (fun c' => p k' c' ∧ A h k' c c')) (fun res => match res with | .inl z => (∀ x j, ¬ (x = 56 ∧ d * 12 + 12 ≤ j) → z.2 x j = M x j) ∧ RowT (d + 1) (fun k c' => p k c' ∧ A h k c c') z.2 | .inr z => z.1 = 0 ∧ (∀ x j, ¬ (x = 56 ∧ d * 12 + 12 ≤ j) → z.2 x j = M x j) ∧ ∃ k, k < 12 ∧ ∀ c', 1 ≤ c' → c' ≤ 3 → ¬ (p k c' ∧ A h k c c')) 12 (by decide) (s := ((0 : Int32), M)) ⟨rfl, fun _ _ _ => rfl, fun k' hk' => absurd hk' (Nat.not_lt_zero _)⟩ (by
    rintro k ⟨x, Q⟩ hk ⟨rfl, q1, q2⟩
    dsimp only at q1 q2
    unfold B_55_9
    dsimp only
    by_cases hk2 : k < 12
    · obtain ⟨m, m1, m2⟩ := hr k hk2
      obtain ⟨g, g1, g2⟩ := hG h k c hh hk2 h1 h3
      have hm := m2.and g2
      have x1 : inb (((nI h * 12) + nI k) * 4 + nI c) 576 = true := by rw [go_ix, inb_nI (by omega)]; omega
      have x2 : (((nI h * 12) + nI k) * 4 + nI c).toNatClampNeg = (h * 12 + k) * 4 + c := by rw [go_ix, ni_cl (by omega)]
      have x3 : Q 52 ((h * 12 + k) * 4 + c) = nI g := by rw [q1 52 _ (by omega)]; exact g1
      have x4 : Q 56 (d * 12 + k) = nI m := by rw [q1 56 _ (by omega)]; exact m1
      have y1 : nI (d * 12) + nI k = nI (d * 12 + k) := ni_add _ _
      have y2 : nI (d * 12) + 12 + nI k = nI ((d + 1) * 12 + k) := by
        rw [show nI (d * 12) + 12 = nI (d * 12 + 12) from ni_add _ 12, ni_add, show d * 12 + 12 + k = (d + 1) * 12 + k by omega]
      rw [if_neg (show ¬ (12 : Int32) ≤ nI k from nI_ge (b := 12) hk2 (by decide)), y1, y2]
      simp only [(inb_nI (show d * 12 + k < 2147483648 by omega)).mpr (show d * 12 + k < 84 by omega), ni_cl (show d * 12 + k < 2147483648 by omega), (inb_nI (show (d + 1) * 12 + k < 2147483648 by omega)).mpr (show (d + 1) * 12 + k < 84 by omega), ni_cl (show (d + 1) * 12 + k < 2147483648 by omega), if_true, x1, x2, x3, x4, ni_and, ni_add1]
      by_cases hz : m &&& g = 0
      · left
        rw [hz, if_pos (show nI 0 = 0 from rfl)]
        exact ⟨_, rfl, rfl, q1, k, hk2, fun c' c1 c3 => hm.zero.mp hz c' c1 c3⟩
      · right
        rw [if_neg (nI_ne0 (by omega) (by have := hm.1; omega))]
        refine ⟨hk2, _, rfl, rfl, fun x j hx => ?_, fun k' hk' => ?_⟩
        · dsimp only
          rw [iset_eq, if_neg (fun z => hx (by omega))]; exact q1 x j hx
        · dsimp only
          by_cases e : k' = k
          · rw [e, iset_same]; exact ⟨_, rfl, hm⟩
          · rw [iset_j (by omega)]; exact q2 k' (by omega)
    · left
      obtain rfl : k = 12 := by omega
      exact ⟨_, rfl, q1, q2⟩)
  unfold F_55 L_55_9
  rw [show nI d * 12 = nI (d * 12) from ni_mul d 12, g1]
  cases res with
  | inl z => obtain ⟨y, Q⟩ := z; exact ⟨1, Q, rfl, g2.1, Or.inl ⟨rfl, g2.2⟩⟩
  | inr z => obtain ⟨y, Q⟩ := z; obtain ⟨rfl, g2, g3⟩ := g2; exact ⟨0, Q, rfl, g2, Or.inr ⟨rfl, g3⟩⟩
end PAIRS
