/-! rules and near -/
def upl (h : Nat) : List Nat := [4, 5, 6, 7, 8, 9, 10, 11].drop (h - 4) ++ [0, 1, 2, 3]
theorem upl_1 : ∀ h, h < 12 → 4 ≤ h → upl h = h :: upl (h + 1) := by decide
theorem upl_2 : ∀ h, h < 12 → 4 ≤ h → h ∉ upl (h + 1) := by decide
theorem upl_4 : ∀ h, h < 12 → ∀ j, j < 12 → (decide (j < h) && decide (4 ≤ j) && decide (j ∈ upl (h + 1))) = false := by decide
theorem upl_3 (h : Nat) (hh : h < 12) (j : Nat) (h1 : j < h) (h4 : 4 ≤ j) : j ∉ upl (h + 1) := fun z => by
  have := upl_4 h hh j (by omega)
  rw [decide_eq_true h1, decide_eq_true h4, decide_eq_true z] at this
  cases this
def upf (h : Nat) : List Nat := all12.drop h
theorem upf_f : ∀ h, h < 12 → upf h = h :: upf (h + 1) := by decide
theorem sumO_z {f : (Nat → Nat) → Nat} {L : List Nat} {r : Nat → Nat} (h : ∀ q, xt L r q → f q = 0) : sumO L r f = 0 := by
  rw [sumO_cg (g := fun _ => 0) L r h]
  have : ∀ (L : List Nat) (r : Nat → Nat), sumO L r (fun _ => 0) = 0 := by
    intro L
    induction L with
    | nil => intro r; rfl
    | cons a t ih => intro r; simp only [sumO]; rw [ih, ih, ih]
  exact this L r
theorem sumO_perm {f : (Nat → Nat) → Nat} {L L' : List Nat} (h : L.Perm L') (r : Nat → Nat) : sumO L r f = sumO L' r f := by
  rw [sumO_fd, sumO_fd, fdO_perm h]
section RUL
variable {U : Nat → Nat → Prop} {A : Nat → Nat → Nat → Nat → Prop}
theorem cnt_r : ∀ (f h : Nat) (M : IM) (r : Nat → Nat), 4 ≤ h → h ≤ 12 → 12 - h < f → RR U A M → MB U A M → PCn U A 4080 h r → (∀ k, 4 ≤ k → k < h → M 89 k = nI (r k)) → ∃ M', KK_211 f (nI h) M = some (lN (sumO (upl h) r (fun q => chi (PCn U A 4095 12 q))), M') ∧ (∀ k j, ¬ ((k = 89 ∧ (j < 4 ∨ h ≤ j)) ∨ k = 90) → M' k j = M k j) ∧ MB U A M' := by
  intro f
  induction f with
  | zero => intro h M r _ _ z; exact absurd z (Nat.not_lt_zero _)
  | succ f ih =>
    intro h M r h4 h12 hf hR hB hp hr
    have rng : ∀ k, 4 ≤ k → k < h → 1 ≤ r k ∧ r k ≤ 3 := fun k k1 k2 => by
      obtain ⟨z1, z2, -⟩ := hp k k2 (by rw [t4080 k (by omega)]; exact decide_eq_true k1)
      exact ⟨z1, z2⟩
    show ∃ M', F_211 (KK_211 f) (nI h) M = some (_, M') ∧ _
    unfold F_211
    by_cases hh : h = 12
    · subst hh
      obtain ⟨y, a1⟩ := l10 hR (fun k k1 k2 => ⟨(rng k k1 k2).1, (rng k k1 k2).2, hr k k1 k2⟩) (KK_211 f)
      have ml : orT 12 (mBit A r) < 4096 := orT_lt _ 12
      obtain ⟨M', b1, b2, b3⟩ := f210 hR ml hB
      have wl : WB U A (orT 12 (mBit A r)) ≤ 81 := sumT_chi _ 81
      rw [if_pos (show nI 12 = 12 from rfl), a1]
      dsimp only
      unfold J_211_113
      rw [b1]
      dsimp only
      refine ⟨M', ?_, fun k j hk => b2 k j (by omega), b3⟩
      rw [nI_l64 (by omega), ← leaf_r hp]
      rfl
    · have hlt : h < 12 := by omega
      have u1 := upl_1 h hlt h4
      have u2 := upl_2 h hlt h4
      have u3 : ∀ j, j < h → 4 ≤ j → j ∉ upl (h + 1) := fun j hj => upl_3 h hlt j hj
      rw [if_neg (show ¬ nI h = 12 from fun z => hh (ni_inj (a := h) (b := 12) (by omega) (by decide) z))]
      obtain ⟨⟨v, y, M'⟩, g1, g2, g3, g4⟩ := loopF (body := B_211_125 (KK_211 f) (nI h)) (fun c s => s.1 = lN (sumT c (fun c => sumO (upl (h + 1)) (updN r h (c + 1)) (fun q => chi (PCn U A 4095 12 q)))) ∧ s.2.1 = nI (c + 1) ∧ (∀ k j, ¬ ((k = 89 ∧ (j < 4 ∨ h ≤ j)) ∨ k = 90) → s.2.2 k j = M k j) ∧ MB U A s.2.2) (fun s => s.1 = lN (sumT 3 (fun c => sumO (upl (h + 1)) (updN r h (c + 1)) (fun q => chi (PCn U A 4095 12 q)))) ∧ (∀ k j, ¬ ((k = 89 ∧ (j < 4 ∨ h ≤ j)) ∨ k = 90) → s.2.2 k j = M k j) ∧ MB U A s.2.2) 3 (by decide) (s := ((0 : Int64), (1 : Int32), M)) ⟨rfl, rfl, fun _ _ _ => rfl, hB⟩ (by
        rintro c ⟨v, y, Q⟩ hc ⟨e1, e2, q1, q2⟩
        dsimp only at e1 e2 q1 q2
        subst e1 e2
        unfold B_211_125 J_211_162_125
        dsimp only
        by_cases hc2 : c < 3
        · right
          refine ⟨hc2, ?_⟩
          have hRQ : RR U A Q := hR.cg (fun k j hk => q1 k j (by omega))
          rw [if_neg (gt3 (show c + 1 ≤ 3 by omega))]
          rcases ahead_r (c := c + 1) (r := r) (H := 4080) hRQ (by decide) hlt (by omega) (by omega) (fun k hk hb => by
            have k4 := t4080b (by omega) hb
            rw [q1 89 k (by omega)]
            exact ⟨(rng k k4 hk).1, (rng k k4 hk).2, hr k k4 hk⟩) with ⟨a1, a2⟩ | ⟨a1, a2⟩
          · have a1 : F_205 (nI h) (nI (c + 1)) 4080 Q = some 1 := a1
            rw [a1]
            dsimp only
            rw [if_neg one_ne, if_pos ((inb_nI (by omega)).mpr hlt), ni_cl (show h < 2147483648 by omega)]
            have hR2 : RR U A (iset Q 89 h (nI (c + 1))) := hRQ.cg (fun k j hk => iset_k (by omega))
            have hB2 : MB U A (iset Q 89 h (nI (c + 1))) := fun m hm => by rw [iset_k (by decide)]; exact q2 m hm
            obtain ⟨M1, b1, b2, b3⟩ := ih (h + 1) (iset Q 89 h (nI (c + 1))) (updN r h (c + 1)) (by omega) (by omega) (by omega) hR2 hB2 (hp.step (by omega) (by omega) a2.1 a2.2) (fun k k1 k2 => by
              by_cases e : k = h
              · rw [e, iset_same, updN_s]
              · rw [iset_j e, updN_n e, q1 89 k (by omega)]; exact hr k k1 (by omega))
            rw [show nI h + 1 = nI (h + 1) from ni_add1 h, b1]
            dsimp only
            refine ⟨_, rfl, ?_, ni_add1 (c + 1), fun k j hk => ?_, b3⟩
            · simp only [sumT]
              exact lN_add _ _
            · dsimp only
              rw [b2 k j (by omega), iset_eq, if_neg (by omega)]; exact q1 k j hk
          · have a1 : F_205 (nI h) (nI (c + 1)) 4080 Q = some 0 := a1
            rw [a1]
            dsimp only
            rw [if_pos rfl]
            refine ⟨_, rfl, ?_, ni_add1 (c + 1), q1, q2⟩
            simp only [sumT]
            rw [sumO_z (fun q hq => ?_)]
            · rfl
            · apply chi_f
              intro z
              apply a2
              obtain ⟨z1, z2, z3, z4⟩ := z h hlt (t4095 h hlt)
              have eh : q h = c + 1 := hq.at u2
              rw [eh] at z3 z4
              refine ⟨z3, fun k hk hb => ?_⟩
              have k4 := t4080b (by omega) hb
              have := z4 k hk (t4095 k (by omega))
              rw [hq.1 k (u3 k hk k4), updN_n (by omega)] at this
              exact this
        · left
          obtain rfl : c = 3 := by omega
          exact ⟨_, if_pos (by decide), rfl, q1, q2⟩)
      dsimp only at g2 g3 g4
      subst g2
      unfold L_211_125
      rw [g1]
      dsimp only
      refine ⟨M', ?_, g3, g4⟩
      rw [u1]
      simp only [sumO, sumT]
      rw [Nat.zero_add]
theorem fill90 (M : IM) : ∃ y, L_212_23 0 M = some (y, wr M 90 0 4096 (fun _ => -1)) := by
  have g := loopI (B := B_212_23) (fun k => (nI k, wr M 90 0 k (fun _ => -1))) (r := (nI 4096, wr M 90 0 4096 (fun _ => -1))) 4096 (by decide) (fun k hk => by
    unfold B_212_23
    dsimp only
    rw [if_neg (show ¬ (4096 : Int32) ≤ nI k from nI_ge (b := 4096) hk (by decide)), if_pos ((inb_nI (by omega)).mpr hk), ni_cl (by omega), ni_add1, wr_s (Nat.zero_le _) rfl]) rfl
  rw [wr_0] at g
  exact ⟨_, g⟩
end RUL
theorem pm4 : all12.Perm (upl 4) := by decide
theorem cnt_PC {n s : Nat} {K P : Nat → Nat} {tb : Nat → Nat → Nat} (hW : LW n K P tb) : sumO (upl 4) (fun _ => 1) (fun q => chi (PCn (UD n K tb s tt2) (AD n K tb s tt2) 4095 12 q)) = cntS n K tb s := by
  unfold cntS
  rw [← sumO_perm pm4]
  apply sumO_cg
  intro q hq
  have hr := xt12 hq
  by_cases h : fitsS n K tb s q
  · rw [chi_t h, chi_t ((sol_iff hW).mpr ⟨hr, h⟩)]
  · rw [chi_f h, chi_f (fun z => h ((sol_iff hW).mp z).2)]
theorem B_rules (a : Int32) : ∀ M, Inv M → ∃ r M1 M2, F_109 a M = some (r, M1) ∧ F_212 a M1 = some (r, M2) ∧ Inv M2 := by
  intro M hI
  obtain ⟨n, K, P, tb, q, hV⟩ := id hI
  have hW := hV.1.1
  rcases ckS hV.1 a with ⟨s, hs, hs2, rfl, e1, e2⟩ | ⟨e1, e2⟩
  · obtain ⟨M1, a1, a2, a3⟩ := f147 hV hs
    obtain ⟨M2, b1, b2, b3⟩ := gather_r (s := s) hW a3.1.2.2 a3.2.2.2.2.2.2.2.2.2 hs2
    obtain ⟨y, c1⟩ := fill90 M2
    have hR : RR (UD n K tb s tt2) (AD n K tb s tt2) (wr M2 90 0 4096 (fun _ => -1)) := b3.cg (fun k j hk => wr_k (by omega))
    have hB : MB (UD n K tb s tt2) (AD n K tb s tt2) (wr M2 90 0 4096 (fun _ => -1)) := fun m hm => Or.inl (wr_in (Nat.zero_le _) hm)
    obtain ⟨M3, d1, d2, d3⟩ := cnt_r 64 4 (wr M2 90 0 4096 (fun _ => -1)) (fun _ => 1) (by decide) (by decide) (by decide) hR hB (fun k hk hb => by have := t4080b (by omega) hb; omega) (fun k k1 k2 => by omega)
    rw [cnt_PC hW] at d1
    have d1 : K_211 4 (wr M2 90 0 4096 (fun _ => -1)) = some (lN (cntS n K tb s), M3) := d1
    have hc := cnt_lt n K tb s
    have ch : Chg 85 92 M1 M3 := fun k j hk => by
      rw [d2 k j (by omega), wr_k (by omega)]; exact b2 k j (by omega)
    refine ⟨lN (cntS n K tb s), M1, M3, ?_, ?_, n, K, P, tb, q, a3.a0 ch.r⟩
    · simp only [F_109, e1, one_ne, if_false, a1, nI_l64 (show cntS n K tb s < 2147483648 by omega)]
    · simp only [F_212, e2 M1 a2.hi, one_ne, if_false, b1, c1, J_212_43, d1]
  · refine ⟨(-1000001 : Int32).toInt64, iset M 43 1 (M 43 1 + 1), _, ?_, ?_, hI.rf0 (e := 1) (by decide)⟩
    · simp only [F_109, e1, if_true, Rf1]
    · simp only [F_212, e2 _ (hi43 (fun _ _ _ => rfl) 1 (M 43 1 + 1)), if_true, Rg1]
/-! near -/
theorem fdO_min {f : (Nat → Nat) → VV} : ∀ (L : List Nat) (r q : Nat → Nat), xt L r q → (fdO L r f).2 ≤ (f q).2
  | [], r, q, h => by
    have : q = r := funext (fun k => h.1 k (by intro z; cases z))
    rw [this]; exact Nat.le_refl _
  | a :: t, r, q, h => by
    have key : ∃ c, 1 ≤ c ∧ c ≤ 3 ∧ xt t (updN r a c) q := by
      by_cases e : a ∈ t
      · refine ⟨1, by decide, by decide, fun k hk => ?_, fun k hk => h.2 k (List.mem_cons_of_mem _ hk)⟩
        have ne : k ≠ a := fun z => hk (by rw [z]; exact e)
        rw [updN_n ne]
        exact h.1 k (fun z => by rcases List.mem_cons.mp z with y | y; · exact ne y
                                 · exact hk y)
      · refine ⟨q a, (h.2 a List.mem_cons_self).1, (h.2 a List.mem_cons_self).2, fun k hk => ?_, fun k hk => h.2 k (List.mem_cons_of_mem _ hk)⟩
        by_cases ne : k = a
        · rw [ne, updN_s]
        · rw [updN_n ne]
          exact h.1 k (fun z => by rcases List.mem_cons.mp z with y | y; · exact ne y
                                   · exact hk y)
    obtain ⟨c, c1, c3, hx⟩ := key
    have ih := fdO_min (f := f) t (updN r a c) q hx
    show min (min (fdO t (updN r a 1) f).2 (fdO t (updN r a 2) f).2) (fdO t (updN r a 3) f).2 ≤ _
    have : c = 1 ∨ c = 2 ∨ c = 3 := by omega
    rcases this with rfl | rfl | rfl <;> omega
theorem fdO_att {f : (Nat → Nat) → VV} : ∀ (L : List Nat) (r : Nat → Nat), ∃ q, xt L r q ∧ (fdO L r f).2 = (f q).2
  | [], r => ⟨r, ⟨fun _ _ => rfl, fun k hk => by cases hk⟩, rfl⟩
  | a :: t, r => by
    obtain ⟨q1, x1, y1⟩ := fdO_att (f := f) t (updN r a 1)
    obtain ⟨q2, x2, y2⟩ := fdO_att (f := f) t (updN r a 2)
    obtain ⟨q3, x3, y3⟩ := fdO_att (f := f) t (updN r a 3)
    have e : (fdO (a :: t) r f).2 = min (min (fdO t (updN r a 1) f).2 (fdO t (updN r a 2) f).2) (fdO t (updN r a 3) f).2 := rfl
    rw [y1, y2, y3] at e
    have : (fdO (a :: t) r f).2 = (f q1).2 ∨ (fdO (a :: t) r f).2 = (f q2).2 ∨ (fdO (a :: t) r f).2 = (f q3).2 := by rw [e]; omega
    rcases this with z | z | z
    · exact ⟨q1, x1.up (by decide) (by decide), z⟩
    · exact ⟨q2, x2.up (by decide) (by decide), z⟩
    · exact ⟨q3, x3.up (by decide) (by decide), z⟩
section NEAR
variable {U : Nat → Nat → Prop} {A : Nat → Nat → Nat → Nat → Prop} {w : Nat → Nat}
theorem TV_near (hsym : ∀ h k c d, A h k c d → A k h d c) (hrf : ∀ h c d, A h h c d) (hs : ∃ q, PCn U A 4095 12 q) : (∃ q, PCn U A 4095 12 q ∧ dsL w q all12 = (TV U A w).2) ∧ ∀ q, PCn U A 4095 12 q → (TV U A w).2 ≤ dsL w q all12 := by
  have lower : ∀ q, PCn U A 4095 12 q → (TV U A w).2 ≤ dsL w q all12 := by
    intro q hq
    obtain ⟨R, e4, e5⟩ : ∃ R : Nat → Nat, (∀ k, k < 12 → R k = q k) ∧ ∀ k, ¬ k < 12 → R k = 1 := ⟨fun k => if k < 12 then q k else 1, fun k hk => if_pos hk, fun k hk => if_neg hk⟩
    have hx : xt all12 (fun _ => 1) R := ⟨fun k hk => e5 k (fun z => hk ((mem12 k).mpr z)), fun k hk => by
      have hk := (mem12 k).mp hk
      rw [e4 k hk]
      exact ⟨(hq k hk (t4095 k hk)).1, (hq k hk (t4095 k hk)).2.1⟩⟩
    have hm := fdO_min (f := lfW U A w) all12 (fun _ => 1) R hx
    have hD : Dok U A all12 R := by
      rw [Dok.pc hsym hrf (xt12 hx)]
      intro k hk hb
      obtain ⟨z1, z2, z3, z4⟩ := hq k hk hb
      rw [e4 k hk]
      exact ⟨z1, z2, z3, fun j hj hjb => by rw [e4 j (by omega)]; exact z4 j hj hjb⟩
    rw [lfW_t hD] at hm
    have : dsL w R all12 = dsL w q all12 := dsL_cg (fun k hk => e4 k ((mem12 k).mp hk))
    have hm : (TV U A w).2 ≤ dsL w R all12 := hm
    omega
  refine ⟨?_, lower⟩
  obtain ⟨q, hx, hq⟩ := fdO_att (f := lfW U A w) all12 (fun _ => 1)
  have hq : (TV U A w).2 = (lfW U A w q).2 := hq
  by_cases hD : Dok U A all12 q
  · rw [lfW_t hD] at hq
    exact ⟨q, (Dok.pc hsym hrf (xt12 hx)).mp hD, hq.symm⟩
  · rw [lfW_f hD] at hq
    obtain ⟨q', hq'⟩ := hs
    have h1 := lower q' hq'
    have h2 : dsL w q' all12 ≤ 12 := dsL_le w q' all12
    have hq : (TV U A w).2 = 99 := hq
    omega
theorem near_r : ∀ (f h b : Nat) (M : IM) (r : Nat → Nat), h ≤ 12 → 12 - h < f → b < 1000 → RR U A M → PCn U A 4095 h r → (∀ k, k < h → M 89 k = nI (r k)) → (∀ k, k < 12 → 1 ≤ w k ∧ w k ≤ 3 ∧ M 78 (10 + k) = nI (w k)) → ∃ x M', KK_214 f (nI h) (nI b) M = some (x, M') ∧ (∀ k j, ¬ (k = 89 ∧ h ≤ j) → M' k j = M k j) ∧ ((x = 1 ∧ ∃ q, (∀ k, k < h → q k = r k) ∧ PCn U A 4095 12 q ∧ dsL w q (upf h) ≤ b) ∨ (x = 0 ∧ ∀ q, (∀ k, k < h → q k = r k) → PCn U A 4095 12 q → b < dsL w q (upf h))) := by
  intro f
  induction f with
  | zero => intro h b M r _ z; exact absurd z (Nat.not_lt_zero _)
  | succ f ih =>
    intro h b M r h12 hf hb hR hp hr hw
    show ∃ x M', F_214 (KK_214 f) (nI h) (nI b) M = some (x, M') ∧ _
    unfold F_214
    by_cases hh : h = 12
    · subst hh
      rw [if_pos (show nI 12 = 12 from rfl)]
      exact ⟨1, M, rfl, fun _ _ _ => rfl, Or.inl ⟨rfl, r, fun _ _ => rfl, hp, Nat.zero_le _⟩⟩
    · have hlt : h < 12 := by omega
      have u1 := upf_f h hlt
      obtain ⟨w1, w2, w3⟩ := hw h hlt
      rw [if_neg (show ¬ nI h = 12 from fun z => hh (ni_inj (a := h) (b := 12) (by omega) (by decide) z))]
      obtain ⟨res, g1, g2⟩ := loopF (body := B_214_10 (KK_214 f) (nI h) (nI b)) (fun c s => s.1 = nI (c + 1) ∧ (∀ k j, ¬ (k = 89 ∧ h ≤ j) → s.2 k j = M k j) ∧ ∀ q, (∀ k, k < h → q k = r k) → PCn U A 4095 12 q → q h ≤ c → b < dsL w q (upf h)) (fun res => match res with | .inl s => (∀ k j, ¬ (k = 89 ∧ h ≤ j) → s.2 k j = M k j) ∧ ∀ q, (∀ k, k < h → q k = r k) → PCn U A 4095 12 q → b < dsL w q (upf h) | .inr s => s.1 = 1 ∧ (∀ k j, ¬ (k = 89 ∧ h ≤ j) → s.2 k j = M k j) ∧ ∃ q, (∀ k, k < h → q k = r k) ∧ PCn U A 4095 12 q ∧ dsL w q (upf h) ≤ b) 3 (by decide) (s := ((1 : Int32), M)) ⟨rfl, fun _ _ _ => rfl, fun q _ hq hz => by have := (hq h hlt (t4095 h hlt)).1; omega⟩ (by
        rintro c ⟨y, Q⟩ hc ⟨e1, q1, q2⟩
        dsimp only at e1 q1 q2
        subst e1
        unfold B_214_10
        dsimp only
        by_cases hc2 : c < 3
        · have ix : (10 : Int32) + nI h = nI (10 + h) := ni_add 10 h
          rw [if_neg (gt3 (show c + 1 ≤ 3 by omega)), ix, if_pos ((inb_nI (by omega)).mpr (by omega)), ni_cl (show 10 + h < 2147483648 by omega), q1 78 (10 + h) (by omega), w3]
          have skip : ∀ Q' : IM, (∀ k j, ¬ (k = 89 ∧ h ≤ j) → Q' k j = M k j) → (∀ q, (∀ k, k < h → q k = r k) → PCn U A 4095 12 q → q h = c + 1 → b < dsL w q (upf h)) → J_214_75_10 (KK_214 f) (nI h) (nI b) (nI (c + 1)) Q' = some (Sum.inl (nI (c + 1 + 1), Q')) ∧ ∀ q, (∀ k, k < h → q k = r k) → PCn U A 4095 12 q → q h ≤ c + 1 → b < dsL w q (upf h) := fun Q' hQ' hno => by
            refine ⟨by unfold J_214_75_10; rw [ni_add1], fun q hq1 hq2 hq3 => ?_⟩
            by_cases e : q h = c + 1
            · exact hno q hq1 hq2 e
            · exact q2 q hq1 hq2 (by omega)
          have main : ∀ s0 : Int32, ((s0 < 0 ∧ b < offN w h (c + 1)) ∨ (offN w h (c + 1) ≤ b ∧ s0 = nI (b - offN w h (c + 1)))) → (∃ rr, J_214_35_10 (KK_214 f) (nI h) (nI b) (nI (c + 1)) s0 Q = some (.inr rr) ∧ (match rr with | .inl s => (∀ k j, ¬ (k = 89 ∧ h ≤ j) → s.2 k j = M k j) ∧ ∀ q, (∀ k, k < h → q k = r k) → PCn U A 4095 12 q → b < dsL w q (upf h) | .inr s => s.1 = 1 ∧ (∀ k j, ¬ (k = 89 ∧ h ≤ j) → s.2 k j = M k j) ∧ ∃ q, (∀ k, k < h → q k = r k) ∧ PCn U A 4095 12 q ∧ dsL w q (upf h) ≤ b)) ∨ (c < 3 ∧ ∃ s', J_214_35_10 (KK_214 f) (nI h) (nI b) (nI (c + 1)) s0 Q = some (.inl s') ∧ s'.1 = nI (c + 1 + 1) ∧ (∀ k j, ¬ (k = 89 ∧ h ≤ j) → s'.2 k j = M k j) ∧ ∀ q, (∀ k, k < h → q k = r k) → PCn U A 4095 12 q → q h ≤ c + 1 → b < dsL w q (upf h)) := by
            intro s0 hs0
            unfold J_214_35_10
            rcases hs0 with ⟨s1, s2⟩ | ⟨s1, rfl⟩
            · right
              rw [if_pos s1]
              obtain ⟨k1, k2⟩ := skip Q q1 (fun q _ _ e => by rw [u1]; simp only [dsL]; rw [e]; omega)
              exact ⟨hc2, _, k1, rfl, q1, k2⟩
            · rw [if_neg (nI_pos (by omega))]
              have hRQ : RR U A Q := hR.cg (fun k j hk => q1 k j (by omega))
              have rg : ∀ k, k < h → 1 ≤ r k ∧ r k ≤ 3 := fun k hk => ⟨(hp k hk (t4095 k (by omega))).1, (hp k hk (t4095 k (by omega))).2.1⟩
              rcases ahead_r (c := c + 1) (r := r) (H := 4095) hRQ (by decide) hlt (by omega) (by omega) (fun k hk _ => by
                rw [q1 89 k (by omega)]
                exact ⟨(rg k hk).1, (rg k hk).2, hr k hk⟩) with ⟨a1, a2⟩ | ⟨a1, a2⟩
              · have a1 : F_205 (nI h) (nI (c + 1)) 4095 Q = some 1 := a1
                rw [a1]
                dsimp only
                rw [if_neg one_ne, if_pos ((inb_nI (by omega)).mpr hlt), ni_cl (show h < 2147483648 by omega)]
                have hR2 : RR U A (iset Q 89 h (nI (c + 1))) := hRQ.cg (fun k j hk => iset_k (by omega))
                obtain ⟨x, M1, b1, b2, b3⟩ := ih (h + 1) (b - offN w h (c + 1)) (iset Q 89 h (nI (c + 1))) (updN r h (c + 1)) (by omega) (by omega) (by omega) hR2 (hp.step (by omega) (by omega) a2.1 a2.2) (fun k k2 => by
                  by_cases e : k = h
                  · rw [e, iset_same, updN_s]
                  · rw [iset_j e, updN_n e, q1 89 k (by omega)]; exact hr k (by omega)) (fun k hk => by
                  rw [iset_k (by decide), q1 78 _ (by omega)]; exact hw k hk)
                rw [show nI h + 1 = nI (h + 1) from ni_add1 h, b1]
                dsimp only
                have fr : ∀ k j, ¬ (k = 89 ∧ h ≤ j) → M1 k j = M k j := fun k j hk => by
                  rw [b2 k j (by omega), iset_eq, if_neg (by omega)]; exact q1 k j hk
                rcases b3 with ⟨rfl, q, z1, z2, z3⟩ | ⟨rfl, z⟩
                · left
                  rw [if_neg one_ne]
                  refine ⟨_, rfl, rfl, fr, q, fun k hk => ?_, z2, ?_⟩
                  · rw [z1 k (by omega), updN_n (by omega)]
                  · rw [u1]; simp only [dsL]; rw [z1 h (by omega), updN_s]; omega
                · right
                  rw [if_pos rfl]
                  obtain ⟨k1, k2⟩ := skip M1 fr (fun q hq1 hq2 e => by
                    have := z q (fun k hk => by
                      by_cases e2 : k = h
                      · rw [e2, e, updN_s]
                      · rw [updN_n e2]; exact hq1 k (by omega)) hq2
                    rw [u1]; simp only [dsL]; rw [e]; omega)
                  exact ⟨hc2, _, k1, rfl, fr, k2⟩
              · right
                have a1 : F_205 (nI h) (nI (c + 1)) 4095 Q = some 0 := a1
                rw [a1]
                dsimp only
                rw [if_pos rfl]
                obtain ⟨k1, k2⟩ := skip Q q1 (fun q hq1 hq2 e => by
                  exfalso
                  apply a2
                  obtain ⟨z1, z2, z3, z4⟩ := hq2 h hlt (t4095 h hlt)
                  rw [e] at z3 z4
                  exact ⟨z3, fun k hk hb => by rw [← hq1 k hk]; exact z4 k hk hb⟩)
                exact ⟨hc2, _, k1, rfl, q1, k2⟩
          by_cases hcw : nI (c + 1) = nI (w h)
          · have e : c + 1 = w h := ni_inj (by omega) (by omega) hcw
            have o : offN w h (c + 1) = 0 := by unfold offN; rw [e, Nat.beq_refl]; rfl
            rw [if_pos hcw]
            exact main (nI b) (Or.inr ⟨by omega, by rw [o, Nat.sub_zero]⟩)
          · have e : w h ≠ c + 1 := fun z => hcw (by rw [z])
            have o : offN w h (c + 1) = 1 := by unfold offN; rw [beqf e]; rfl
            rw [if_neg hcw]
            by_cases b0 : b = 0
            · exact main (nI b - 1) (Or.inl ⟨by rw [b0]; decide, by omega⟩)
            · exact main (nI b - 1) (Or.inr ⟨by omega, by rw [o]; exact ni_sub (b := 1) (by omega)⟩)
        · left
          obtain rfl : c = 3 := by omega
          exact ⟨_, if_pos (by decide), q1, fun q hq1 hq2 => q2 q hq1 hq2 (hq2 h hlt (t4095 h hlt)).2.1⟩)
      unfold L_214_10
      rw [g1]
      cases res with
      | inl s => obtain ⟨y, Q⟩ := s; exact ⟨0, Q, rfl, g2.1, Or.inr ⟨rfl, g2.2⟩⟩
      | inr s => obtain ⟨y, Q⟩ := s; obtain ⟨rfl, g2, g3⟩ := g2; exact ⟨1, Q, rfl, g2, Or.inl ⟨rfl, g3⟩⟩
theorem l32 {M : IM} (hR : RR U A M) (hw : ∀ k, k < 12 → 1 ≤ w k ∧ w k ≤ 3 ∧ M 78 (10 + k) = nI (w k)) (hs : ∃ q, PCn U A 4095 12 q) : ∃ d M', L_215_32 0 M = some (nI d, M') ∧ Chg 89 89 M M' ∧ (∃ q, PCn U A 4095 12 q ∧ dsL w q all12 ≤ d) ∧ ∀ q, PCn U A 4095 12 q → d ≤ dsL w q all12 := by
  obtain ⟨⟨y, M'⟩, g1, d, g2, g3, g4, g5⟩ := loopF (body := B_215_32) (fun k s => s.1 = nI k ∧ Chg 89 89 M s.2 ∧ ∀ q, PCn U A 4095 12 q → k ≤ dsL w q all12) (fun s => ∃ d, s.1 = nI d ∧ Chg 89 89 M s.2 ∧ (∃ q, PCn U A 4095 12 q ∧ dsL w q all12 ≤ d) ∧ ∀ q, PCn U A 4095 12 q → d ≤ dsL w q all12) 12 (by decide) (s := ((0 : Int32), M)) ⟨rfl, Chg.rf 89 89 M, fun _ _ => Nat.zero_le _⟩ (by
    rintro k ⟨y, Q⟩ hk ⟨e1, q1, q2⟩
    dsimp only at e1 q1 q2
    subst e1
    unfold B_215_32
    dsimp only
    obtain ⟨x, M1, b1, b2, b3⟩ := near_r (U := U) (A := A) (w := w) 64 0 k Q (fun _ => 1) (by decide) (by decide) (by omega) (hR.cg (fun a j hk => q1 a j (by omega))) (fun k hk => absurd hk (Nat.not_lt_zero _)) (fun k hk => absurd hk (Nat.not_lt_zero _)) (fun k hk => by rw [q1 78 _ (by omega)]; exact hw k hk)
    have b1 : K_214 0 (nI k) Q = some (x, M1) := b1
    have fr : Chg 89 89 M M1 := fun a j ha => by rw [b2 a j (by omega)]; exact q1 a j ha
    rw [b1]
    dsimp only
    rcases b3 with ⟨rfl, q, -, z2, z3⟩ | ⟨rfl, z⟩
    · left
      rw [if_neg one_ne]
      exact ⟨_, rfl, k, rfl, fr, ⟨q, z2, z3⟩, q2⟩
    · right
      rw [if_pos rfl, ni_add1]
      refine ⟨?_, _, rfl, rfl, fr, fun q hq => z q (fun k hk => absurd hk (Nat.not_lt_zero _)) hq⟩
      obtain ⟨q, hq⟩ := hs
      have := z q (fun k hk => absurd hk (Nat.not_lt_zero _)) hq
      have h2 : dsL w q (upf 0) ≤ 12 := dsL_le w q (upf 0)
      omega)
  dsimp only at g2 g3
  subst g2
  exact ⟨d, M', g1, g3, g4, g5⟩
end NEAR
theorem B_near (a : Int32) : Both (F_111 a) (F_215 a) := by
  intro M hI
  obtain ⟨n, K, P, tb, q, hV⟩ := id hI
  have hW := hV.1.1
  rcases ckS hV.1 a with ⟨s, hs, hs2, rfl, e1, e2⟩ | ⟨e1, e2⟩
  · obtain ⟨x, M1, a1, a2, a3, a4⟩ := out_c hW hV.1.2.1 hV.2.2.2.2.2.2.2.2.1 hs
    have hV1 : Iv n K P tb q M1 := hV.kf a2 a3
    have i1 : inb (nI s) 256 = true := (inb_nI (by omega)).mpr hs2
    have i2 : (nI s).toNatClampNeg = s := ni_cl (by omega)
    rcases a4 with ⟨rfl, h0⟩ | ⟨rfl, hpos⟩
    · have dc : F_111 (nI s) M = some (-1000002, iset M1 43 2 (M1 43 2 + 1)) := by
        simp only [F_111, e1, one_ne, if_false, a1, Rf2]
      have hq := hV1.1.2.2.cg hW.1 (M' := iset M1 43 2 (M1 43 2 + 1)) (fun j _ => iset_k (by decide))
      have hq11 := hV1.2.2.2.2.2.2.2.2.2.cg (M' := iset M1 43 2 (M1 43 2 + 1)) (fun k j h1 h2 => iset_k (by omega))
      obtain ⟨y, M2, b1, b2, b3⟩ := out_r (s := s) hW hq hq11 hs2
      rcases b3 with ⟨rfl, -⟩ | ⟨rfl, hp⟩
      · refine ⟨-1000002, _, _, dc, ?_, hV1.rfs (e := 2) (agx.rf 0 M1) ((b2.wk (by decide) (by decide)).r) (by decide)⟩
        simp only [F_215, e2 _ (hi43 a2.hi 2 (M1 43 2 + 1)), one_ne, if_false, b1, if_true, Rg2]
      · omega
    · obtain ⟨M2, M3, b1, b2, b3, b4, b5, b6⟩ := fr_c (s := s) hV1 hs2
      have hsol := (cnt_pos hW).mp hpos
      obtain ⟨⟨q1, t1, t2⟩, t3⟩ := TV_near (U := UD n K tb s tt2) (A := AD n K tb s tt2) (w := q) (fun h k c d => AD_sym h k c d) (fun h c d => AD_rf hW h c d) hsol
      have k4 : KF M1 (iset M3 68 s (nI (cntS n K tb s))) := fun k j hk => by rw [iset_k (by omega)]; exact b3 k j hk
      have hK3 : C10 n K tb M3 := fun s' hs' => by rw [b4]; exact a3 s' hs'
      have hV4 : Iv n K P tb q (iset M3 68 s (nI (cntS n K tb s))) := hV1.kf k4 (hK3.set hs)
      have dc : F_111 (nI s) M = some (nI (TV (UD n K tb s tt2) (AD n K tb s tt2) q).2, iset M3 68 s (nI (cntS n K tb s))) := by
        have r59 : (iset M3 68 s (nI (cntS n K tb s))) 50 9 = nI (TV (UD n K tb s tt2) (AD n K tb s tt2) q).2 := by rw [iset_k (by decide)]; exact b6
        simp only [F_111, e1, one_ne, if_false, a1, if_true, b1, b2, i1, i2, b5, r59]
      generalize iset M3 68 s (nI (cntS n K tb s)) = M4 at k4 hV4 dc
      obtain ⟨M5, c1, c2, c3⟩ := gather_r (s := s) hW hV4.1.2.2 hV4.2.2.2.2.2.2.2.2.2 hs2
      obtain ⟨y, M6, d1, d2, d3⟩ := sk0 (H := 4095) (by decide) c3
      have hF : F_207 (nI s) M4 = some (y, M6) := by
        unfold F_207
        rw [c1]
        dsimp only
        rw [show K_206 0 4095 M5 = _ from d1]
      rcases d3 with ⟨rfl, -⟩ | ⟨rfl, hno⟩
      · have hw : ∀ k, k < 12 → 1 ≤ q k ∧ q k ≤ 3 ∧ M6 78 (10 + k) = nI (q k) := fun k hk => by
          obtain ⟨z1, z2, -, z4⟩ := hV4.2.1 k hk
          rw [d2 78 _ (by omega), c2 78 _ (by omega)]
          exact ⟨z1, z2, z4⟩
        obtain ⟨d, M7, f1, f2, ⟨q2, f3, f4⟩, f5⟩ := l32 (U := UD n K tb s tt2) (A := AD n K tb s tt2) (w := q) (c3.cg (fun a b hab => d2 a b (by omega))) hw hsol
        have hd : (TV (UD n K tb s tt2) (AD n K tb s tt2) q).2 = d := by
          have g1 := f5 q1 t1
          have g2 := t3 q2 f3
          omega
        rw [hd] at dc
        have hhi : ∀ k j, 77 ≤ k → M4 k j = M k j := fun k j hk => (k4.hi k j hk).trans (a2.hi k j hk)
        refine ⟨_, M4, M7, dc, ?_, n, K, P, tb, q, hV4.a0 (((c2.wk (show 85 ≤ 87 by decide) (show 88 ≤ 92 by decide)).tr ((d2.tr f2).wk (by decide) (by decide))).r)⟩
        simp only [F_215, e2 M4 hhi, one_ne, if_false, hF, f1]
      · obtain ⟨q', hq'⟩ := hsol
        exact absurd hq' (hno q')
  · refine rfu1 hI ?_ (fun M1 hM1 => ?_)
    · simp only [F_111, e1, if_true, Rf1]
    · simp only [F_215, e2 M1 hM1, if_true, Rg1]
