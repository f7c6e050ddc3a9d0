/-! the tally's free halls, and the whole reckoning -/
theorem er_f : ∀ h, h < 12 → all12.Perm (h :: all12.erase h) ∧ h ∉ all12.erase h := by decide
theorem m1_a : ∀ x, x < 4 → 1 ≤ x → pcN (1 <<< (x - 1)) = 1 ∧ (1 <<< (x - 1)) < 8 ∧ F_142 (nI x) = nI (1 <<< (x - 1)) := by decide
theorem m1_b : ∀ m, m < 8 → ∀ x, x < 4 → 1 ≤ x → m.testBit (x - 1) = true → loX x (1 <<< (x - 1)) = loX x m := by decide
theorem m1_c : ∀ m, m < 8 → m ≠ 0 → nI m &&& (-(nI m)) = nI (1 <<< (loA m - 1)) ∧ pcN (1 <<< (loA m - 1)) = 1 ∧ (1 <<< (loA m - 1)) < 8 := by decide
theorem m1_d : ∀ m, m < 8 → m ≠ 0 → ∀ x, x < 4 → 1 ≤ x → m.testBit (x - 1) = false → loX x (1 <<< (loA m - 1)) = loX x m := by decide
theorem loX_le : ∀ m, m < 8 → m ≠ 0 → ∀ x, x < 4 → loX x m ≤ 1 ∧ 1 ≤ pcN m ∧ pcN m ≤ 3 := by decide
theorem TV_le (U : Nat → Nat → Prop) (A : Nat → Nat → Nat → Nat → Prop) (w : Nat → Nat) : (TV U A w).2 ≤ 99 := fdO_le (fun q => lfW_le U A w q) _ _
section SETTLE
variable {U V : Nat → Nat → Prop} {A : Nat → Nat → Nat → Nat → Prop} {w : Nat → Nat} {M : IM}
noncomputable def gR (U : Nat → Nat → Prop) (A : Nat → Nat → Nat → Nat → Prop) (w : Nat → Nat) (R : List Nat) (q : Nat → Nat) : VV := bif bP (Dok U A R q) then (1, dsL w q R) else ve
theorem gR_cg {R : List Nat} {q q' : Nat → Nat} (e : ∀ k, k ∈ R → q k = q' k) : gR U A w R q = gR U A w R q' := by
  unfold gR
  rw [dsL_cg e]
  by_cases h : Dok U A R q
  · rw [bP_t h, bP_t ((Dok.cg e).mp h)]
  · rw [bP_f h, bP_f (fun z => h ((Dok.cg e).mpr z))]
theorem free_V {h m : Nat} (hsym : ∀ h k c d, A h k c d → A k h d c) (hrf : ∀ h c d, A h h c d) (hh : h < 12) (hw : 1 ≤ w h ∧ w h ≤ 3) (hfr : ∀ k c d, k < 12 → 1 ≤ c → c ≤ 3 → 1 ≤ d → d ≤ 3 → A h k c d) (hm : bt3 m (U h)) : TV U A w = vmul (pcN m, min 99 (0 + loX (w h) m)) (fdO (all12.erase h) (fun _ => 1) (gR U A w (all12.erase h))) := by
  obtain ⟨pm, hn⟩ := er_f h hh
  have mem : ∀ k, k ∈ all12.erase h → k < 12 := fun k hk => (mem12 k).mp (pm.mem_iff.mpr (List.mem_cons_of_mem _ hk))
  have br : ∀ c, 1 ≤ c → c ≤ 3 → fdO (all12.erase h) (updN (fun _ => 1) h c) (lfW U A w) = vmul (bif m.testBit (c - 1) then (1, 0 + bif Nat.beq (w h) c then 0 else 1) else ve) (fdO (all12.erase h) (fun _ => 1) (gR U A w (all12.erase h))) := by
    intro c c1 c3
    rw [← fdO_base (h := h) (c := c) (fun q => gR_cg (fun k hk => updN_n (fun z => hn (by subst z; exact hk)))) (all12.erase h) (fun _ => 1) hn]
    apply fdO_mul
    intro q hq
    have eh : q h = c := hq.at hn
    have pm2 : all12.Perm (all12.erase h ++ [h]) := pm.trans (List.perm_append_singleton h _).symm
    have iff : Dok U A all12 q ↔ Dok U A (all12.erase h) q ∧ U h c := by
      rw [Dok.pm (fun k => pm2.mem_iff), Dok.sn hsym hrf, eh]
      refine ⟨fun z => ⟨z.1, z.2.1⟩, fun z => ⟨z.1, z.2, fun j hj => hsym _ _ _ _ (hfr j c (q j) (mem j hj) c1 c3 (hq.2 j hj).1 (hq.2 j hj).2)⟩⟩
    have ds : dsL w q all12 = offN w h c + dsL w q (all12.erase h) := by
      rw [dsL_perm pm]
      simp only [dsL, eh]
    have dl : dsL w q all12 ≤ 12 := dsL_le w q all12
    cases hb : m.testBit (c - 1)
    · rw [lfW_f (fun z => by have := (hm.2 c c1 c3).mpr (iff.mp z).2; rw [hb] at this; cases this), cond_false, vmul_comm, vmul_ve]
    · have hU := (hm.2 c c1 c3).mp hb
      rw [cond_true]
      unfold gR
      by_cases hD : Dok U A (all12.erase h) q
      · rw [lfW_t (iff.mpr ⟨hD, hU⟩), bP_t hD, cond_true]
        refine VV.ext rfl ?_
        have : (bif Nat.beq (w h) c then 0 else 1) = offN w h c := rfl
        show dsL w q all12 = min 99 (0 + (bif Nat.beq (w h) c then 0 else 1) + dsL w q (all12.erase h))
        rw [this]
        omega
      · rw [lfW_f (fun z => hD (iff.mp z).1), bP_f hD, cond_false, vmul_ve]
  unfold TV
  rw [fdO_perm pm]
  simp only [fdO]
  rw [br 1 (by decide) (by decide), br 2 (by decide) (by decide), br 3 (by decide) (by decide), vmul_comm, vmul_comm (bif m.testBit (2 - 1) then _ else _), vmul_comm (bif m.testBit (3 - 1) then _ else _), ← vmul_vop, ← vmul_vop, row_k m hm.1 0 (by decide) (w h) (by omega) hw.1, vmul_comm]
theorem free_st {h m m1 : Nat} (hsym : ∀ h k c d, A h k c d → A k h d c) (hrf : ∀ h c d, A h h c d) (hh : h < 12) (hw : 1 ≤ w h ∧ w h ≤ 3) (hfr : ∀ k c d, k < 12 → 1 ≤ c → c ≤ 3 → 1 ≤ d → d ≤ 3 → A h k c d) (hm : bt3 m (U h)) (hm1 : bt3 m1 (V h)) (hUV : ∀ k, k ≠ h → V k = U k) (h1 : pcN m1 = 1) (h2 : loX (w h) m1 = loX (w h) m) : (TV U A w).1 = pcN m * (TV V A w).1 ∧ (TV U A w).2 = (TV V A w).2 := by
  obtain ⟨pm, hn⟩ := er_f h hh
  have e : gR V A w (all12.erase h) = gR U A w (all12.erase h) := by
    funext q
    unfold gR
    have iff : Dok V A (all12.erase h) q ↔ Dok U A (all12.erase h) q := by
      constructor
      · intro z k hk
        have : k ≠ h := fun y => hn (by subst y; exact hk)
        exact ⟨by rw [← hUV k this]; exact (z k hk).1, (z k hk).2⟩
      · intro z k hk
        have : k ≠ h := fun y => hn (by subst y; exact hk)
        exact ⟨by rw [hUV k this]; exact (z k hk).1, (z k hk).2⟩
    by_cases z : Dok U A (all12.erase h) q
    · rw [bP_t z, bP_t (iff.mpr z)]
    · rw [bP_f z, bP_f (fun y => z (iff.mp y))]
  rw [free_V hsym hrf hh hw hfr hm, free_V hsym hrf hh hw hfr hm1, e, h1, h2]
  refine ⟨?_, rfl⟩
  show pcN m * _ = pcN m * (1 * _)
  rw [Nat.one_mul]
theorem TV_0 {h : Nat} (hh : h < 12) (hno : ∀ c, 1 ≤ c → c ≤ 3 → ¬ U h c) : TV U A w = ve := by
  unfold TV
  apply fdO_z
  intro q hq
  apply lfW_f
  intro z
  have := xt12 hq h hh
  exact hno _ this.1 this.2 (z h ((mem12 h).mpr hh)).1
theorem f50 {h : Nat} (hG : RCgo A M) (hh : h < 12) : F_50 (nI h) M = some 0 ∨ (F_50 (nI h) M = some 1 ∧ ∀ k c d, k < 12 → 1 ≤ c → c ≤ 3 → 1 ≤ d → d ≤ 3 → A h k c d) := by
  obtain ⟨res, g1, g2⟩ := loopF (body := B_50_2 (nI h) M) (fun k z => z = nI k ∧ ∀ k', k' < k → ∀ c d, 1 ≤ c → c ≤ 3 → 1 ≤ d → d ≤ 3 → A h k' c d) (fun res => match res with | .inl _ => ∀ k', k' < 12 → ∀ c d, 1 ≤ c → c ≤ 3 → 1 ≤ d → d ≤ 3 → A h k' c d | .inr x => x = 0) 12 (by decide) (s := (0 : Int32)) ⟨rfl, fun k' hk' => absurd hk' (Nat.not_lt_zero _)⟩ (by
    rintro k z hk ⟨rfl, q⟩
    unfold B_50_2 J_50_43_2
    by_cases hk2 : k < 12
    · rw [if_neg (show ¬ (12 : Int32) ≤ nI k from nI_ge (b := 12) hk2 (by decide))]
      obtain ⟨r2, l1, l2⟩ := loopF (body := B_50_10 (nI h) (nI k) M) (fun c z => z = nI (c + 1) ∧ ∀ c', 1 ≤ c' → c' ≤ c → ∀ d, 1 ≤ d → d ≤ 3 → A h k c' d) (fun res => match res with | .inl _ => ∀ c', 1 ≤ c' → c' ≤ 3 → ∀ d, 1 ≤ d → d ≤ 3 → A h k c' d | .inr x => x = 0) 3 (by decide) (s := (1 : Int32)) ⟨rfl, fun c' a b => by omega⟩ (by
        rintro c z hc ⟨rfl, q'⟩
        unfold B_50_10
        by_cases hc2 : c < 3
        · obtain ⟨g, g1, g2⟩ := hG h k (c + 1) hh hk2 (by omega) (by omega)
          rw [if_neg (gt3 (show c + 1 ≤ 3 by omega)), go_ix, if_pos ((inb_nI (by omega)).mpr (by omega)), ni_cl (by omega), g1]
          have e7 : (nI g = 7) = (g = 7) := ni_eqi (b := 7) (by have := g2.1; omega) (by decide)
          simp only [e7]
          by_cases h7 : g = 7
          · right
            rw [if_pos h7]
            refine ⟨hc2, _, rfl, ni_add1 (c + 1), fun c' a b d d1 d3 => ?_⟩
            by_cases e : c' = c + 1
            · rw [e]
              apply (g2.2 d d1 d3).mp
              rw [h7]
              exact (show ∀ j, j < 3 → (7 : Nat).testBit j = true by decide) (d - 1) (by omega)
            · exact q' c' a (by omega) d d1 d3
          · left
            rw [if_neg h7]
            exact ⟨_, rfl, rfl⟩
        · left
          obtain rfl : c = 3 := by omega
          exact ⟨_, if_pos (by decide), q'⟩)
      have l1 : L_50_10 (nI h) (nI k) M 1 = some r2 := l1
      rw [l1]
      cases r2 with
      | inl y =>
        right
        refine ⟨hk2, _, rfl, ni_add1 k, fun k' hk' c d c1 c3 d1 d3 => ?_⟩
        by_cases e : k' = k
        · rw [e]; exact l2 c c1 c3 d d1 d3
        · exact q k' (by omega) c d c1 c3 d1 d3
      | inr x =>
        left
        exact ⟨_, rfl, l2⟩
    · left
      obtain rfl : k = 12 := by omega
      exact ⟨_, if_pos (by decide), q⟩)
  unfold F_50 L_50_2
  rw [g1]
  cases res with
  | inl y => exact Or.inr ⟨rfl, fun k c d hk => g2 k hk c d⟩
  | inr x =>
    have g2 : x = 0 := g2
    rw [g2]; exact Or.inl rfl
theorem pow3_le : ∀ k, k ≤ 12 → 3 ^ k ≤ 531441 := by decide
theorem f49 (hsym : ∀ h k c d, A h k c d → A k h d c) (hrf : ∀ h c d, A h h c d) (hG : RCgo A M) (hw : TW w M) (hR : RowT 0 U M) : ∃ t M', F_49 M = some (nI t, M') ∧ (∀ x j, x ≠ 56 → M' x j = M x j) ∧ ((t = 0 ∧ TV U A w = ve) ∨ (1 ≤ t ∧ t ≤ 531441 ∧ ∃ V, RowT 0 V M' ∧ (TV U A w).1 = t * (TV V A w).1 ∧ (TV U A w).2 = (TV V A w).2)) := by
  obtain ⟨res, g1, g2⟩ := loopF (body := B_49_4) (fun k z => z.2.1 = nI k ∧ (∀ x j, x ≠ 56 → z.2.2 x j = M x j) ∧ ∃ t, z.1 = nI t ∧ 1 ≤ t ∧ t ≤ 3 ^ k ∧ ∃ V, RowT 0 V z.2.2 ∧ (TV U A w).1 = t * (TV V A w).1 ∧ (TV U A w).2 = (TV V A w).2) (fun res => match res with | .inl z => (∀ x j, x ≠ 56 → z.2.2 x j = M x j) ∧ ∃ t, z.1 = nI t ∧ 1 ≤ t ∧ t ≤ 3 ^ 12 ∧ ∃ V, RowT 0 V z.2.2 ∧ (TV U A w).1 = t * (TV V A w).1 ∧ (TV U A w).2 = (TV V A w).2 | .inr z => z.1 = 0 ∧ (∀ x j, x ≠ 56 → z.2 x j = M x j) ∧ TV U A w = ve) 12 (by decide) (s := ((1 : Int32), (0 : Int32), M)) ⟨rfl, fun _ _ _ => rfl, 1, rfl, Nat.le_refl _, Nat.le_refl _, U, hR, (Nat.one_mul _).symm, rfl⟩ (by
    rintro k ⟨x, y, Q⟩ hk ⟨rfl, q1, t, ht, t1, t2, V, v1, v2, v3⟩
    dsimp only at ht q1 v1
    subst ht
    unfold B_49_4 J_49_73_4 J_49_72_4
    dsimp only
    by_cases hk2 : k < 12
    · obtain ⟨m, m1, m2⟩ := v1 k hk2
      rw [Nat.zero_mul, Nat.zero_add] at m1
      obtain ⟨w1, w2, w3⟩ := hw k hk2
      have w3 : Q 57 k = nI (w k) := by rw [q1 57 k (by decide)]; exact w3
      have hGQ : RCgo A Q := hG.cg (fun j => q1 52 j (by decide))
      rw [if_neg (show ¬ (12 : Int32) ≤ nI k from nI_ge (b := 12) hk2 (by decide)), if_pos ((inb_nI (by omega)).mpr (by omega)), ni_cl (show k < 2147483648 by omega), m1]
      by_cases h0 : m = 0
      · left
        rw [h0, if_pos (show nI 0 = 0 from rfl)]
        have hz : TV V A w = ve := TV_0 hk2 (fun c c1 c3 => m2.zero.mp h0 c c1 c3)
        refine ⟨_, rfl, rfl, q1, ?_⟩
        rw [hz] at v2 v3
        exact VV.ext (by rw [v2]; rfl) v3
      · right
        rw [if_neg (nI_ne0 (by omega) (by have := m2.1; omega))]
        refine ⟨hk2, ?_⟩
        have hp := Nat.pow_le_pow_right (show 0 < 3 by decide) (show k ≤ k + 1 by omega)
        rcases f50 hGQ hk2 with e | ⟨e, hfr⟩
        · rw [e]
          dsimp only
          rw [if_pos rfl]
          exact ⟨_, rfl, ni_add1 k, q1, t, rfl, t1, by omega, V, v1, v2, v3⟩
        · rw [e]
          dsimp only
          obtain ⟨-, pc1, pc3⟩ := loX_le m m2.1 h0 (w k) (by omega)
          have i12 : inb (nI k) 12 = true := (inb_nI (by omega)).mpr hk2
          have i84 : inb (nI k) 84 = true := (inb_nI (by omega)).mpr (by omega)
          have p252 : F_252 (nI m) = nI (pcN m) := (pc_c m (by have := m2.1; omega)).1
          simp only [one_ne, if_false, i12, i84, if_true, w3, holds_ok (m := m) (d := w k) (by have := m2.1; omega) w1 (by omega), p252, ni_mul, ni_add1]
          obtain ⟨a1, a2, a3⟩ := m1_a (w k) (by omega) w1
          obtain ⟨c1, c2, c3⟩ := m1_c m m2.1 h0
          have fin : ∀ m1, m1 < 8 → pcN m1 = 1 → loX (w k) m1 = loX (w k) m → ∃ V', RowT 0 V' (iset Q 56 k (nI m1)) ∧ (TV U A w).1 = t * pcN m * (TV V' A w).1 ∧ (TV U A w).2 = (TV V' A w).2 := by
            intro m1 b1 b2 b3
            have hV' : ∀ k', k' ≠ k → (fun k' c => if k' = k then m1.testBit (c - 1) = true else V k' c) k' = V k' := fun k' hk' => by funext c; exact if_neg hk'
            have hm1 : bt3 m1 ((fun k' c => if k' = k then m1.testBit (c - 1) = true else V k' c) k) := ⟨b1, fun c c1 c3 => by dsimp only; rw [if_pos rfl]⟩
            generalize (fun k' c => if k' = k then m1.testBit (c - 1) = true else V k' c) = V' at hV' hm1
            obtain ⟨e1, e2⟩ := free_st (V := V') hsym hrf hk2 ⟨w1, w2⟩ hfr m2 hm1 hV' b2 b3
            refine ⟨V', fun k' hk' => ?_, by rw [v2, e1, Nat.mul_assoc], by rw [v3, e2]⟩
            rw [Nat.zero_mul, Nat.zero_add]
            by_cases z : k' = k
            · rw [z, iset_same]; exact ⟨m1, rfl, hm1⟩
            · rw [iset_j z, hV' k' z]
              have := v1 k' hk'
              rw [Nat.zero_mul, Nat.zero_add] at this
              exact this
          have tb : t * pcN m ≤ 3 ^ (k + 1) := by
            rw [Nat.pow_succ]
            exact Nat.mul_le_mul t2 pc3
          have tb1 : 1 ≤ t * pcN m := Nat.mul_pos t1 pc1
          have fr : ∀ m1 x j, x ≠ 56 → (iset Q 56 k (nI m1)) x j = M x j := fun m1 x j hx => by rw [iset_k hx]; exact q1 x j hx
          cases hb : m.testBit (w k - 1)
          · have c4 := m1_d m m2.1 h0 (w k) (by omega) w1 hb
            obtain ⟨V', d1, d2, d3⟩ := fin _ c3 c2 c4
            simp only [Bool.false_eq_true, Bool.true_eq_false, if_false, if_true, c1]
            exact ⟨_, rfl, ni_add1 k, fr _, t * pcN m, rfl, tb1, tb, V', d1, d2, d3⟩
          · obtain ⟨V', d1, d2, d3⟩ := fin _ a2 a1 (m1_b m m2.1 (w k) (by omega) w1 hb)
            simp only [if_true, one_ne, if_false, a3]
            exact ⟨_, rfl, ni_add1 k, fr _, t * pcN m, rfl, tb1, tb, V', d1, d2, d3⟩
    · left
      obtain rfl : k = 12 := by omega
      exact ⟨_, rfl, q1, t, rfl, t1, t2, V, v1, v2, v3⟩)
  unfold F_49 L_49_4
  rw [g1]
  cases res with
  | inl z =>
    obtain ⟨x, y, Q⟩ := z
    obtain ⟨q1, t, ht, t1, t2, h⟩ := g2
    dsimp only at ht
    subst ht
    exact ⟨t, Q, rfl, q1, Or.inr ⟨t1, t2, h⟩⟩
  | inr z =>
    obtain ⟨x, Q⟩ := z
    obtain ⟨hx, q1, h⟩ := g2
    dsimp only at hx
    subst hx
    exact ⟨0, Q, rfl, q1, Or.inl ⟨rfl, h⟩⟩
theorem ln58 : ln 58 = 64 ∧ ln 59 = 64 ∧ ln 60 = 64 ∧ ln 61 = 64 ∧ ln 2 = 12 := by decide
theorem reck (hsym : ∀ h k c d, A h k c d → A k h d c) (hrf : ∀ h c d, A h h c d) (hTr : TrivE A) (hG : RCgo A M) (hU : RowC 0 0 4095 U M) (hw : ∀ h, h < 12 → 1 ≤ w h ∧ w h ≤ 3 ∧ M 2 h = nI (w h)) : ∃ M', F_48 2 M = some M' ∧ (∀ x j, ¬ (x = 50 ∨ (56 ≤ x ∧ x ≤ 61)) → M' x j = M x j) ∧ M' 50 8 = nI (TV U A w).1 ∧ M' 50 9 = nI (TV U A w).2 := by
  unfold F_48
  rw [ln58.2.2.2.2, if_pos (show cpok 12 0 12 0 12 = true by decide)]
  rw [show (0 : Int32).toNatClampNeg = 0 from rfl, show (12 : Int32).toNatClampNeg = 12 from rfl]
  generalize hB : iset (iset (icpy (icpy M 2 0 57 0 12) 53 0 56 0 12) 50 8 0) 50 9 99 = B
  have fB : ∀ x j, ¬ (x = 50 ∨ (56 ≤ x ∧ x ≤ 57)) → B x j = M x j := fun x j hx => by
    rw [← hB, iset_k (by omega), iset_k (by omega), icpy_eq, if_neg (by omega), icpy_eq, if_neg (by omega)]
  have b57 : ∀ h, h < 12 → B 57 h = M 2 h := fun h hh => by
    rw [← hB, iset_k (by decide), iset_k (by decide), icpy_eq, if_neg (by omega), icpy_eq, if_pos (by omega)]
    rw [Nat.sub_zero, Nat.zero_add]
  have b56 : ∀ h, h < 12 → B 56 h = M 53 h := fun h hh => by
    rw [← hB, iset_k (by decide), iset_k (by decide), icpy_eq, if_pos (by omega), icpy_eq, if_neg (by omega)]
    rw [Nat.sub_zero, Nat.zero_add]
  have b8 : B 50 8 = nI 0 := by rw [← hB, iset_j (by decide), iset_same]; rfl
  have b9 : B 50 9 = nI 99 := by rw [← hB, iset_same]; rfl
  have gB : RCgo A B := hG.cg (fun j => fB 52 j (by omega))
  have wB : TW w B := fun h hh => by rw [b57 h hh]; exact hw h hh
  have rB : RowT 0 U B := fun k hk => by
    obtain ⟨m, m1, m2⟩ := hU k (Nat.zero_le _) hk (t4095 k hk)
    refine ⟨m, ?_, m2⟩
    rw [Nat.zero_mul, Nat.zero_add] at m1 ⊢
    rw [b56 k hk]; exact m1
  obtain ⟨t, M1, e1, e2, e3⟩ := f49 (w := w) hsym hrf gB wB rB
  rw [e1]
  dsimp only
  have f1 : ∀ x j, ¬ (x = 50 ∨ (56 ≤ x ∧ x ≤ 57)) → M1 x j = M x j := fun x j hx => by rw [e2 x j (by omega)]; exact fB x j hx
  rcases e3 with ⟨rfl, hz⟩ | ⟨t1, t2, V, v1, v2, v3⟩
  · rw [if_pos (show nI 0 = 0 from rfl)]
    refine ⟨M1, rfl, fun x j hx => f1 x j (by omega), ?_, ?_⟩
    · rw [hz, e2 50 8 (by decide)]; exact b8
    · rw [hz, e2 50 9 (by decide)]; exact b9
  · rw [if_neg (nI_ne0 (by omega) (by omega))]
    have g1 : RCgo A M1 := gB.cg (fun j => e2 52 j (by decide))
    have w1 : TW w M1 := fun h hh => by rw [e2 57 h (by decide)]; exact wB h hh
    obtain ⟨M2, a1, a2, a3⟩ := f51 (h := 1) (k := 2) (t3 := 58) (t4 := 59) g1 w1 (by decide) (by decide) (by decide) (by decide) (by decide) ln58.1 ln58.2.1
    have g2 : RCgo A M2 := g1.cg (fun j => a2 52 j (by decide) (by decide))
    have w2 : TW w M2 := fun h hh => by rw [a2 57 h (by decide) (by decide)]; exact w1 h hh
    obtain ⟨M3, c1, c2, c3⟩ := f51 (h := 4) (k := 11) (t3 := 60) (t4 := 61) g2 w2 (by decide) (by decide) (by decide) (by decide) (by decide) ln58.2.2.1 ln58.2.2.2.1
    have g3 : RCgo A M3 := g2.cg (fun j => c2 52 j (by decide) (by decide))
    have w3 : TW w M3 := fun h hh => by rw [c2 57 h (by decide) (by decide)]; exact w2 h hh
    have k3 : TabK A w M3 := ⟨fun a b h1 h2 h3 => by rw [c2 58 _ (by decide) (by decide), c2 59 _ (by decide) (by decide)]; exact a3 a b h1 h2 h3, c3⟩
    have r3 : RowT 0 (mkP V A (dn 0) (fun _ => 1)) M3 := (v1.cg (fun k hk => by rw [c2 56 _ (by decide) (by decide), a2 56 _ (by decide) (by decide)])).im (fun k c _ _ _ => ⟨fun z => ⟨z, fun j hj => by cases hj⟩, fun z => z.1⟩)
    have t3 : Tot ve M3 := by
      refine ⟨?_, ?_, Nat.le_refl _⟩
      · rw [c2 50 _ (by decide) (by decide), a2 50 _ (by decide) (by decide), e2 50 8 (by decide)]; exact b8
      · rw [c2 50 _ (by decide) (by decide), a2 50 _ (by decide) (by decide), e2 50 9 (by decide)]; exact b9
    obtain ⟨M4, d1, d2, d3⟩ := walk_c (w := w) (U := V) hsym hrf hTr 64 0 M3 (fun _ => 1) ve (by decide) (by decide) g3 w3 k3 r3 t3 (fun k hk => by cases hk) (fun j hj => by cases hj)
    have d1 : K_54 (0 : Int32) (0 : Int32) M3 = some M4 := d1
    have a1 : F_51 (1 : Int32) (2 : Int32) 58 59 M1 = some M2 := a1
    have c1 : F_51 (4 : Int32) (11 : Int32) 60 61 M2 = some M3 := c1
    rw [a1]
    dsimp only
    rw [c1]
    dsimp only
    rw [d1]
    dsimp only
    have hfold : fdO (rst 0) (fun _ => 1) (lfW V A w) = TV V A w := by
      unfold TV
      exact fdO_perm (show (rst 0).Perm all12 by decide) _
    rw [hfold, vop_ve' (TV_le V A w)] at d3
    refine ⟨_, rfl, fun x j hx => ?_, ?_, ?_⟩
    · rw [iset_k (by omega), d2 x j (by omega), c2 x j (by omega) (by omega), a2 x j (by omega) (by omega)]
      exact f1 x j (by omega)
    · rw [iset_same, d3.1, ni_mul, v2, Nat.mul_comm]
    · rw [iset_j (by decide), d3.2.1, v3]
end SETTLE
def noE (a b : Nat) : Bool := (Nat.beq a 1 && Nat.beq b 4) || (Nat.beq a 1 && Nat.beq b 11) || (Nat.beq a 2 && Nat.beq b 4) || (Nat.beq a 2 && Nat.beq b 11) || (Nat.beq a 3 && Nat.beq b 4) || (Nat.beq a 0 && Nat.beq b 11)
theorem noE_k : ∀ k, k < 6 → pr k = true → ∀ i, i < mny k → noE (fa k i) (fb k i) = false ∧ noE (fb k i) (fa k i) = false := by decide
theorem AD_tr {n s : Nat} {K P : Nat → Nat} {tb : Nat → Nat → Nat} (hW : LW n K P tb) {a b : Nat} (hab : noE a b = true) (c d : Nat) : AD n K tb s tt2 a b c d := fun l i _ hl _ hp hi => by
  obtain ⟨z1, z2⟩ := noE_k _ (hW.2 l hl).1 hp i hi
  refine ⟨fun e1 e2 => ?_, fun e1 e2 => ?_⟩
  · rw [e1, e2, hab] at z1; cases z1
  · rw [e1, e2, hab] at z2; cases z2
theorem AD_triv {n s : Nat} {K P : Nat → Nat} {tb : Nat → Nat → Nat} (hW : LW n K P tb) : TrivE (AD n K tb s tt2) := fun c d => ⟨AD_tr hW (by decide) c d, AD_tr hW (by decide) c d, AD_tr hW (by decide) c d, AD_tr hW (by decide) c d, AD_tr hW (by decide) c d, AD_tr hW (by decide) c d⟩
section WAYS
variable {n s : Nat} {K P : Nat → Nat} {tb : Nat → Nat → Nat} {q : Nat → Nat} {M : IM}
theorem fr_c (hV : Iv n K P tb q M) (hs : s < 256) : ∃ M1 M2, F_22 1 (nI s) M = some M1 ∧ F_48 2 M1 = some M2 ∧ KF M M2 ∧ (∀ j, M2 68 j = M 68 j) ∧ M2 50 8 = nI (cntS n K tb s) ∧ M2 50 9 = nI (TV (UD n K tb s tt2) (AD n K tb s tt2) q).2 := by
  have hW := hV.1.1
  obtain ⟨M1, a1, a2, a3, a4, -⟩ := take_c (s := s) hW hV.1.2.1 hs
  obtain ⟨M2, b1, b2, b3, b4⟩ := reck (w := q) (fun h k c d => AD_sym h k c d) (fun h c d => AD_rf hW h c d) (AD_triv hW) a3 a4 (fun h hh => by
    obtain ⟨r1, r2, r3, -⟩ := hV.2.1 h hh
    rw [a2 2 h (by omega)]
    exact ⟨r1, r2, r3⟩)
  refine ⟨M1, M2, a1, b1, fun k j hk => by rw [b2 k j (by omega), a2 k j (by omega)], fun j => by rw [b2 68 j (by omega), a2 68 j (by omega)], ?_, b4⟩
  rw [b3, TV_cnt hW]
theorem C10.set (hK : C10 n K tb M) (hs : s < 2 ^ n) : C10 n K tb (iset M 68 s (nI (cntS n K tb s))) := fun s' hs' => by
  by_cases e : s' = s
  · rw [e, iset_same]; exact Or.inr ⟨hs, Or.inr rfl⟩
  · rw [iset_j e]; exact hK s' hs'
theorem f147 (hV : Iv n K P tb q M) (hs : s < 2 ^ n) : ∃ M', F_147 (nI s) M = some (nI (cntS n K tb s), M') ∧ KF M M' ∧ Iv n K P tb q M' := by
  have hW := hV.1.1
  have hs2 : s < 256 := Nat.lt_of_lt_of_le hs (pw_8 hW.1)
  have i1 : inb (nI s) 256 = true := (inb_nI (by omega)).mpr hs2
  have i2 : (nI s).toNatClampNeg = s := ni_cl (by omega)
  have h10 := hV.2.2.2.2.2.2.2.2.1
  have hc := cnt_lt n K tb s
  unfold F_147 J_147_48
  rw [if_pos i1, i2]
  by_cases h0 : (0 : Int32) ≤ M 68 s
  · rw [if_pos h0, if_pos i1]
    refine ⟨M, ?_, KF.rf M, hV⟩
    rcases h10 s hs2 with e | ⟨-, ⟨e, -⟩ | e⟩
    · rw [e] at h0; exact absurd h0 (by decide)
    · rw [e] at h0; exact absurd h0 (by decide)
    · rw [e]
  · rw [if_neg h0]
    obtain ⟨M1, M2, a1, a2, a3, a4, a5, -⟩ := fr_c (s := s) hV hs2
    rw [a1]
    dsimp only
    rw [a2]
    dsimp only
    rw [if_pos i1, if_pos i1, a5, iset_same]
    have k2 : KF M (iset M2 68 s (nI (cntS n K tb s))) := fun k j hk => by rw [iset_k (by omega)]; exact a3 k j hk
    have hK2 : C10 n K tb M2 := fun s' hs' => by rw [a4]; exact h10 s' hs'
    exact ⟨_, rfl, k2, hV.kf k2 (hK2.set hs)⟩
end WAYS
