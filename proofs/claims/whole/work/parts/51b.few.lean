/-! few, the rest -/
section FEW
variable {U : Nat → Nat → Prop} {A : Nat → Nat → Nat → Nat → Prop} {M0 : IM}
def sat (U : Nat → Nat → Prop) (A : Nat → Nat → Nat → Nat → Prop) (H : Nat) : Prop := ∃ q, PCn U A H 12 q
def SB (U : Nat → Nat → Prop) (A : Nat → Nat → Nat → Nat → Prop) (M0 Q : IM) : Prop := (∀ k j, ¬ ((k = 53 ∧ 12 ≤ j) ∨ k = 54 ∨ k = 55 ∨ (k = 51 ∧ j = 5)) → Q k j = M0 k j) ∧ ∃ c, c ≤ 64 ∧ Q 51 5 = nI c ∧ ∀ i, i < c → ∃ e, e < 4096 ∧ Q 55 i = nI e ∧ sat U A e
theorem seen_c {H : Nat} {Q : IM} (hS : SB U A M0 Q) (hH : H < 4096) : F_29 (nI H) Q = some 0 ∨ (F_29 (nI H) Q = some 1 ∧ sat U A H) := by
  obtain ⟨-, c, c1, c2, c3⟩ := hS
  obtain ⟨res, g1, g2⟩ := loopF (body := B_29_2 (nI H) Q) (fun k s => s = nI k) (fun res => match res with | .inl _ => True | .inr x => x = 1 ∧ sat U A H) c (by omega) (s := (0 : Int32)) rfl (by
    rintro k s hk rfl
    unfold B_29_2
    rw [c2]
    by_cases hkc : k < c
    · obtain ⟨e, e1, e2, e3⟩ := c3 k hkc
      rw [if_neg (nI_ge hkc (by omega)), if_pos ((inb_nI (by omega)).mpr (by omega)), ni_cl (by omega), e2, dif_nI]
      by_cases hd : dif H e = 0
      · left
        refine ⟨.inr 1, by rw [hd]; rfl, rfl, ?_⟩
        obtain ⟨q, hq⟩ := e3
        exact ⟨q, hq.sub (fun k hk hb => dif_sub hd hk hb)⟩
      · right
        refine ⟨hkc, nI (k + 1), ?_, rfl⟩
        rw [if_neg (nI_ne0 (by omega) (by have := dif_le H e; omega)), ni_add1]
    · left
      refine ⟨.inl (nI k), ?_, trivial⟩
      rw [if_pos (nI_le (by omega) (by omega))])
  unfold F_29 L_29_2
  rw [g1]
  cases res with
  | inl y => exact Or.inl rfl
  | inr x => obtain ⟨rfl, g2⟩ := g2; exact Or.inr ⟨rfl, g2⟩
theorem beside_c {k E : Nat} {r : Nat → Nat} {Q : IM} (hG : RCgo A Q) (hrow : RowC 0 0 4095 U Q) (hk : k < 12) (hE : E < 4096) (hr : ∀ j, j < 12 → E.testBit j = true → 1 ≤ r j ∧ r j ≤ 3 ∧ Q 54 j = nI (r j)) : ∃ m, F_31 (nI k) (nI E) Q = some (nI m) ∧ bt3 m (fun c => U k c ∧ ∀ j, j < 12 → E.testBit j = true → A j k (r j) c) := by
  obtain ⟨m, m1, m2⟩ := hrow k (Nat.zero_le _) hk (t4095 k hk)
  rw [Nat.zero_mul, Nat.zero_add] at m1
  obtain ⟨⟨y, z⟩, g1, m', rfl, g2⟩ := loopF (body := B_31_10 (nI k) (nI E) Q) (fun h s => ∃ m', s.1 = nI m' ∧ s.2 = nI h ∧ bt3 m' (fun c => U k c ∧ ∀ j, j < h → E.testBit j = true → A j k (r j) c)) (fun s => ∃ m', s.1 = nI m' ∧ bt3 m' (fun c => U k c ∧ ∀ j, j < 12 → E.testBit j = true → A j k (r j) c)) 12 (by decide) (s := (nI m, (0 : Int32))) ⟨m, rfl, rfl, m2.im (fun c _ _ => ⟨fun z => ⟨z, fun j hj => absurd hj (Nat.not_lt_zero _)⟩, fun z => z.1⟩)⟩ (by
    rintro h ⟨y, z⟩ hh ⟨m', rfl, rfl, c1⟩
    unfold B_31_10 J_31_51_10
    dsimp only
    by_cases hh2 : h < 12
    · right
      refine ⟨hh2, ?_⟩
      have hb0 : ((nI E >>> (nI h &&& 31)) &&& 1 = 0) = (E.testBit h = false) := bit0 (by omega) (by omega)
      simp only [hb0]
      rw [if_neg (show ¬ (12 : Int32) ≤ nI h from nI_ge (b := 12) hh2 (by decide))]
      cases hb : E.testBit h
      · refine ⟨(nI m', nI (h + 1)), by simp only [if_true, ni_add1], m', rfl, rfl, c1.im (fun c _ _ => ⟨fun z => ⟨z.1, fun j hj hbj => ?_⟩, fun z => ⟨z.1, fun j hj hbj => z.2 j (by omega) hbj⟩⟩)⟩
        by_cases e : j = h
        · rw [e, hb] at hbj; cases hbj
        · exact z.2 j (by omega) hbj
      · obtain ⟨r1, r2, r3⟩ := hr h hh2 hb
        obtain ⟨g, g1, g2⟩ := hG h k (r h) hh2 hk r1 r2
        have x1 : inb (((nI h * 12) + nI k) * 4 + nI (r h)) 576 = true := by rw [go_ix, inb_nI (by omega)]; omega
        have x2 : (((nI h * 12) + nI k) * 4 + nI (r h)).toNatClampNeg = (h * 12 + k) * 4 + r h := by rw [go_ix, ni_cl (by omega)]
        refine ⟨(nI (m' &&& g), nI (h + 1)), ?_, m' &&& g, rfl, rfl, (c1.and g2).im (fun c _ _ => ⟨fun z => ⟨z.1.1, fun j hj hbj => ?_⟩, fun z => ⟨⟨z.1, fun j hj hbj => z.2 j (by omega) hbj⟩, z.2 h (by omega) hb⟩⟩)⟩
        · simp only [Bool.false_eq_true, Bool.true_eq_false, if_false, (inb_nI (show h < 2147483648 by omega)).mpr hh2, if_true, ni_cl (show h < 2147483648 by omega), r3, x1, x2, g1, ni_and, ni_add1]
        · by_cases e : j = h
          · rw [e]; exact z.2
          · exact z.1.2 j (by omega) hbj
    · left
      obtain rfl : h = 12 := by omega
      exact ⟨(nI m', nI 12), rfl, m', rfl, c1⟩)
  refine ⟨m', ?_, g2⟩
  unfold F_31 L_31_10
  rw [if_pos ((inb_nI (by omega)).mpr (by omega)), ni_cl (by omega), m1, g1]
theorem keep_c {H : Nat} {Q : IM} {r : Nat → Nat} (hsym : ∀ h k c d, A h k c d → A k h d c) (hG : RCgo A M0) (hrow : RowC 0 0 4095 U M0) (hS : SB U A M0 Q) (hH : H < 4096) (hr : PCn U A H 12 r) (hm : ∀ k, k < 12 → H.testBit k = true → Q 54 k = nI (r k)) : ∃ Q', F_30 (nI H) Q = some Q' ∧ SB U A M0 Q' := by
  obtain ⟨s1, c, s2, s3, s4⟩ := hS
  unfold F_30
  rw [s3]
  by_cases hc : c < 64
  · rw [if_pos (show nI c < 64 from nI_lt (b := 64) hc (by decide))]
    obtain ⟨⟨y, z, T⟩, g1, E, rfl, g2, g3, r', g4⟩ := loopF (body := B_30_14) (fun k s => ∃ E, s.1 = nI E ∧ s.2.1 = nI k ∧ E < 4096 ∧ (∀ a j, a ≠ 54 → s.2.2 a j = Q a j) ∧ ∃ r, PCn U A E 12 r ∧ ∀ j, j < 12 → E.testBit j = true → s.2.2 54 j = nI (r j)) (fun s => ∃ E, s.1 = nI E ∧ E < 4096 ∧ (∀ a j, a ≠ 54 → s.2.2 a j = Q a j) ∧ ∃ r, PCn U A E 12 r) 12 (by decide) (s := (nI H, (0 : Int32), Q)) ⟨H, rfl, rfl, hH, fun _ _ _ => rfl, r, hr, hm⟩ (by
      rintro k ⟨y, z, T⟩ hk ⟨E, rfl, rfl, d1, d2, r, d3, d4⟩
      dsimp only at d2 d4
      unfold B_30_14 J_30_38_14 J_30_62_14
      dsimp only
      by_cases hk2 : k < 12
      · right
        refine ⟨hk2, ?_⟩
        have hb0 : ((nI E >>> (nI k &&& 31)) &&& 1 = 0) = (E.testBit k = false) := bit0 (by omega) (by omega)
        simp only [hb0]
        rw [if_neg (show ¬ (12 : Int32) ≤ nI k from nI_ge (b := 12) hk2 (by decide))]
        cases hb : E.testBit k
        · obtain ⟨m, m1, m2⟩ := beside_c (k := k) (E := E) (r := r) (Q := T) (hG.cg (fun j => by rw [d2 _ _ (by decide), s1 _ _ (by omega)])) (hrow.cg (fun a ha => by rw [d2 _ _ (by decide), s1 _ _ (by omega)])) hk2 d1 (fun j hj hbj => ⟨(d3 j hj hbj).1, (d3 j hj hbj).2.1, d4 j hj hbj⟩)
          rw [m1]
          simp only [if_true]
          by_cases hm0 : m = 0
          · refine ⟨(nI E, nI (k + 1), T), ?_, E, rfl, rfl, d1, d2, r, d3, d4⟩
            rw [hm0, if_pos (show nI 0 = 0 from rfl), ni_add1]
          · obtain ⟨c', c4, c1, c2, c3⟩ := f144 m m2.1 hm0
            obtain ⟨u1, u2⟩ := (m2.2 c' c1 (by omega)).mp c3
            have tE : ∀ j, j < 12 → (E ||| 1 <<< k).testBit j = true → j = k ∨ E.testBit j = true := fun j hj hbj => by
              rw [Nat.testBit_or, b1j k hk2 j hj, Bool.or_eq_true, decide_eq_true_eq] at hbj
              exact hbj.symm
            refine ⟨(nI (E ||| 1 <<< k), nI (k + 1), iset T 54 k (nI c')), ?_, E ||| 1 <<< k, rfl, rfl, Nat.or_lt_two_pow (n := 12) d1 (b1k k hk2), fun a j ha => ?_, updN r k c', ?_, fun j hj hbj => ?_⟩
            · rw [if_neg (nI_ne0 (by omega) (by have := m2.1; omega)), if_pos ((inb_nI (by omega)).mpr hk2), ni_cl (by omega), c2, one_shl k hk2, ni_or, ni_add1]
            · dsimp only
              rw [iset_k ha]; exact d2 a j ha
            · intro j hj hbj
              by_cases e : j = k
              · subst e
                refine ⟨by unfold updN; rw [if_pos rfl]; exact c1, by unfold updN; rw [if_pos rfl]; omega, by unfold updN; rw [if_pos rfl]; exact u1, fun i hi hbi => ?_⟩
                have hi' := (tE i (by omega) hbi).resolve_left (by omega)
                unfold updN
                rw [if_pos rfl, if_neg (by omega)]
                exact u2 i (by omega) hi'
              · have hj' := (tE j hj hbj).resolve_left e
                obtain ⟨p1, p2, p3, p4⟩ := d3 j hj hj'
                have ej : updN r k c' j = r j := by unfold updN; rw [if_neg e]
                rw [ej]
                refine ⟨p1, p2, p3, fun i hi hbi => ?_⟩
                by_cases ei : i = k
                · subst ei
                  unfold updN
                  rw [if_pos rfl]
                  exact hsym _ _ _ _ (u2 j hj hj')
                · unfold updN
                  rw [if_neg ei]
                  exact p4 i hi ((tE i (by omega) hbi).resolve_left ei)
            · dsimp only
              by_cases e : j = k
              · subst e; rw [iset_same]; unfold updN; rw [if_pos rfl]
              · rw [iset_j e, d4 j hj ((tE j hj hbj).resolve_left e)]; unfold updN; rw [if_neg e]
        · refine ⟨(nI E, nI (k + 1), T), ?_, E, rfl, rfl, d1, d2, r, d3, d4⟩
          simp only [Bool.false_eq_true, Bool.true_eq_false, if_false, if_true, ni_add1]
      · left
        obtain rfl : k = 12 := by omega
        exact ⟨(nI E, nI 12, T), rfl, E, rfl, d1, d2, r, d3⟩)
    have hL : L_30_14 (nI H) 0 Q = some (nI E, z, T) := g1
    rw [hL]
    dsimp only at g3
    have t5 : T 51 5 = nI c := by rw [g3 _ _ (by decide)]; exact s3
    dsimp only
    unfold J_30_68
    rw [t5, if_pos ((inb_nI (by omega)).mpr hc), ni_cl (by omega), iset_k (by decide), t5, ni_add1]
    refine ⟨_, rfl, fun k j hk => ?_, c + 1, by omega, iset_same _ _ _ _, fun i hi => ?_⟩
    · rw [iset_eq, if_neg (by omega), iset_k (by omega), g3 _ _ (by omega)]
      exact s1 k j hk
    · rw [iset_k (by decide)]
      by_cases e : i = c
      · subst e
        exact ⟨E, g2, iset_same _ _ _ _, r', g4⟩
      · rw [iset_j e, g3 _ _ (by decide)]
        exact s4 i (by omega)
  · rw [if_neg (show ¬ nI c < 64 from nI_nlt (b := 64) (by omega) (by omega))]
    exact ⟨Q, rfl, s1, c, s2, s3, s4⟩
def Pu (U : Nat → Nat → Prop) (A : Nat → Nat → Nat → Nat → Prop) (H : Nat) : Prop := 1 ≤ H ∧ H < 4095 ∧ ¬ sat U A H
theorem pc_4095 : ∀ H, H < 4096 → pcN H < 12 ∨ H = 4095 := by
  have : ∀ H, H < 4096 → pcN H = 12 → H = 4095 := by
    intro H hH
    have key : ∀ a, a < 64 → ∀ b, b < 64 → pcN (64 * a + b) = 12 → 64 * a + b = 4095 := by decide +kernel
    intro h
    have := key (H / 64) (by omega) (H % 64) (by omega)
    rw [show 64 * (H / 64) + H % 64 = H by omega] at this
    exact this h
  intro H hH
  have h1 := pcN_le H
  rcases Nat.lt_or_ge (pcN H) 12 with e | e
  · exact Or.inl e
  · exact Or.inr (this H hH (by omega))
theorem few_c (hsym : ∀ h k c d, A h k c d → A k h d c) (hG : RCgo A M0) (hrow : RowC 0 0 4095 U M0) : ∃ x M', F_28 M0 = some (x, M') ∧ (∀ k j, ¬ ((k = 53 ∧ 12 ≤ j) ∨ k = 54 ∨ k = 55 ∨ (k = 51 ∧ j = 5)) → M' k j = M0 k j) ∧ ((∃ b, x = nI b ∧ MinP (Pu U A) b) ∨ (x = nI 4095 ∧ ∀ H, ¬ Pu U A H)) := by
  have hS0 : SB U A M0 (iset M0 51 5 0) := ⟨fun k j hk => by rw [iset_eq, if_neg (by omega)], 0, by decide, iset_same _ _ _ _, fun i hi => absurd hi (Nat.not_lt_zero _)⟩
  obtain ⟨res, g1, g2⟩ := loopF (body := B_28_7) (fun k s => s.1 = nI (k + 1) ∧ SB U A M0 s.2 ∧ ∀ H, H < 4096 → 1 ≤ pcN H → pcN H ≤ k → sat U A H) (fun res => match res with | .inl s => SB U A M0 s.2 ∧ ∀ H, ¬ Pu U A H | .inr s => SB U A M0 s.2 ∧ ∃ b, s.1 = nI b ∧ MinP (Pu U A) b) 11 (by decide) (s := ((1 : Int32), iset M0 51 5 0)) ⟨rfl, hS0, fun H _ h1 h2 => by omega⟩ (by
    rintro k ⟨y, Q⟩ hk ⟨rfl, c1, c2⟩
    dsimp only at c1 c2
    unfold B_28_7 J_28_71_7
    dsimp only
    by_cases hk11 : k < 11
    · obtain ⟨l1, l2, l3⟩ := lo_k (k + 1) (by omega) (by omega)
      rw [if_neg (show ¬ (12 : Int32) ≤ nI (k + 1) from nI_ge (b := 12) (by omega) (by decide)), l3]
      have hlo : 1 ≤ 2 ^ (k + 1) - 1 ∧ 2 ^ (k + 1) - 1 < 4096 := by
        have : ∀ z, z < 12 → 0 < z → 1 ≤ 2 ^ z - 1 ∧ 2 ^ z - 1 < 4096 := by decide
        exact this (k + 1) (by omega) (by omega)
      obtain ⟨res, i1, i2⟩ := loopF (body := B_28_21 (nI (k + 1))) (fun j s => ∃ H, s.1 = nI H ∧ s.2.1 = nI j ∧ SB U A M0 s.2.2 ∧ H < 8192 ∧ 1 ≤ H ∧ j + 1 ≤ H ∧ (H < 4096 → pcN H = k + 1) ∧ ∀ y, y < H → y < 4096 → pcN y = k + 1 → sat U A y) (fun res => match res with | .inl s => SB U A M0 s.2.2 ∧ ∀ y, y < 4096 → pcN y = k + 1 → sat U A y | .inr s => SB U A M0 s.2 ∧ ∃ b, s.1 = nI b ∧ MinP (Pu U A) b) 4095 (by decide) (s := (nI (2 ^ (k + 1) - 1), (0 : Int32), Q)) ⟨_, rfl, rfl, c1, by omega, hlo.1, by omega, fun _ => l2, fun y hy _ he => absurd he (l1 y hy)⟩ (by
        rintro j ⟨x, z, T⟩ hj ⟨H, rfl, rfl, d1, d2, d3, d4, d5, d6⟩
        dsimp only at d1
        unfold B_28_21 J_28_60_21
        dsimp only
        by_cases hex : H < 4096
        · have hj' : j < 4095 := by omega
          rw [if_neg (show ¬ (4095 : Int32) ≤ nI j from nI_ge (b := 4095) hj' (by decide)), if_neg (show ¬ (4095 : Int32) < nI H from nI_nlt (a := 4095) (by omega) (by decide))]
          obtain ⟨n1, n2, n3, n4⟩ := nx_k H hex (by omega)
          rw [n1]
          dsimp only
          have hpc := d5 hex
          have hne : H ≠ 4095 := fun z => by
            rw [z] at hpc
            have : pcN 4095 = 12 := by decide
            omega
          have nx : ∀ T', SB U A M0 T' → sat U A H → ∃ s' : Int32 × Int32 × IM, (some (Sum.inl (nI (nxN H), nI j + 1, T')) : Option ((Int32 × Int32 × IM) ⊕ ((Int32 × Int32 × IM) ⊕ (Int32 × IM)))) = some (Sum.inl s') ∧ ∃ H, s'.1 = nI H ∧ s'.2.1 = nI (j + 1) ∧ SB U A M0 s'.2.2 ∧ H < 8192 ∧ 1 ≤ H ∧ j + 1 + 1 ≤ H ∧ (H < 4096 → pcN H = k + 1) ∧ ∀ y, y < H → y < 4096 → pcN y = k + 1 → sat U A y := fun T' u1 u2 => ⟨_, rfl, nxN H, rfl, ni_add1 _, u1, n3, by omega, by omega, fun z => (n4 z).trans hpc, fun y hy hy4 he => by
            rcases Nat.lt_trichotomy y H with e | e | e
            · exact d6 y e hy4 he
            · rw [e]; exact u2
            · exact absurd (he.trans hpc.symm) (nx_gap hex (by omega) e hy hy4)⟩
          rcases seen_c (H := H) d1 hex with hs | ⟨hs, hsat⟩
          · rw [hs]
            simp only [if_true]
            have hGT : RCgo A T := hG.cg (fun j => d1.1 _ _ (by omega))
            have hrT : RowC 0 0 H U T := (hrow.cg (fun a ha => d1.1 _ _ (by omega))).sub (fun a ha _ => t4095 a ha)
            obtain ⟨v, M', v1, v2, v3⟩ := sk0c (H := H) hex hGT hrT
            rw [v1]
            dsimp only
            have hSM : SB U A M0 M' := by
              obtain ⟨s1, cc, s2, s3, s4⟩ := d1
              refine ⟨fun a b hab => ?_, cc, s2, ?_, fun i hi => ?_⟩
              · rw [v2 _ _ (fun z => hab (z.imp id (fun y => Or.inl y.1)))]; exact s1 a b hab
              · rw [v2 _ _ (fun z => by rcases z with z | z <;> exact absurd z.1 (by decide))]; exact s3
              · rw [v2 _ _ (fun z => by rcases z with z | z <;> exact absurd z.1 (by decide))]; exact s4 i hi
            rcases v3 with ⟨rfl, r, hr, hm⟩ | ⟨rfl, hno⟩
            · obtain ⟨Q', k1, k2⟩ := keep_c hsym hG hrow hSM hex hr.1 hm
              rw [if_neg one_ne, k1]
              right
              exact ⟨hj', nx Q' k2 ⟨r, hr.1⟩⟩
            · left
              refine ⟨.inr (nI H, M'), by rw [if_pos rfl], hSM, H, rfl, ⟨d3, by omega, fun z => by obtain ⟨q, hq⟩ := z; exact hno q hq⟩, fun t ht => ?_⟩
              obtain ⟨t1, t2, t3⟩ := ht
              have hp1 : 1 ≤ pcN t := by
                rcases Nat.eq_zero_or_pos (pcN t) with e | e
                · exfalso
                  have key : ∀ a, a < 64 → ∀ b, b < 64 → pcN (64 * a + b) = 0 → 64 * a + b = 0 := by decide +kernel
                  have := key (t / 64) (by omega) (t % 64) (by omega)
                  rw [show 64 * (t / 64) + t % 64 = t by omega] at this
                  have := this e
                  omega
                · exact e
              rcases Nat.lt_or_ge k (pcN t) with e | e
              · rcases Nat.lt_or_ge (k + 1) (pcN t) with e2 | e2
                · exact Or.inl (by omega)
                · refine Or.inr ⟨by omega, ?_⟩
                  rcases Nat.lt_or_ge t H with e3 | e3
                  · exact absurd (d6 t e3 (by omega) (by omega)) t3
                  · exact e3
              · exact absurd (c2 t (by omega) hp1 e) t3
          · rw [hs]
            simp only [one_ne, if_false]
            right
            exact ⟨hj', nx T d1 hsat⟩
        · left
          refine ⟨.inl (nI H, nI j, T), ?_, d1, fun y hy he => d6 y (by omega) hy he⟩
          by_cases hj' : j < 4095
          · rw [if_neg (show ¬ (4095 : Int32) ≤ nI j from nI_ge (b := 4095) hj' (by decide)), if_pos (show (4095 : Int32) < nI H from nI_lt (a := 4095) (by omega) (by omega))]
          · rw [if_pos (show (4095 : Int32) ≤ nI j from nI_le (a := 4095) (by omega) (by omega))])
      have hL : L_28_21 (nI (k + 1)) (nI (2 ^ (k + 1) - 1)) 0 Q = some res := i1
      rw [hL]
      cases res with
      | inl z =>
        right
        obtain ⟨a, b, T⟩ := z
        refine ⟨hk11, (nI (k + 1 + 1), T), by dsimp only; rw [ni_add1], rfl, i2.1, fun H h1 h2 h3 => ?_⟩
        by_cases e : pcN H = k + 1
        · exact i2.2 H h1 e
        · exact c2 H h1 h2 (by omega)
      | inr z => left; exact ⟨.inr z, rfl, i2⟩
    · left
      obtain rfl : k = 11 := by omega
      refine ⟨.inl (nI 12, Q), rfl, c1, fun H hp => ?_⟩
      obtain ⟨t1, t2, t3⟩ := hp
      have hp1 : 1 ≤ pcN H := by
        rcases Nat.eq_zero_or_pos (pcN H) with e | e
        · exfalso
          have key : ∀ a, a < 64 → ∀ b, b < 64 → pcN (64 * a + b) = 0 → 64 * a + b = 0 := by decide +kernel
          have := key (H / 64) (by omega) (H % 64) (by omega)
          rw [show 64 * (H / 64) + H % 64 = H by omega] at this
          have := this e
          omega
        · exact e
      exact t3 (c2 H (by omega) hp1 (by rcases pc_4095 H (by omega) with e | e <;> omega)))
  have hL : L_28_7 1 (iset M0 51 5 0) = some res := g1
  unfold F_28
  rw [hL]
  cases res with
  | inl z => obtain ⟨a, T⟩ := z; exact ⟨nI 4095, T, rfl, g2.1.1, Or.inr ⟨rfl, g2.2⟩⟩
  | inr z => obtain ⟨a, T⟩ := z; exact ⟨a, T, rfl, g2.1.1, Or.inl g2.2⟩
theorem few_r {M : IM} (hR : RR U A M) : ∃ x M', (match L_227_33 1 M with | none => none | some (.inl (x2_11, M11)) => (some (((4095 : Int32), M11))) | some (.inr q) => some (q)) = some (x, M') ∧ Chg 89 89 M M' ∧ ((∃ b, x = nI b ∧ MinP (Pu U A) b) ∨ (x = nI 4095 ∧ ∀ H, ¬ Pu U A H)) := by
  have hp1 : ∀ t, Pu U A t → 1 ≤ pcN t := fun t ht => by
    obtain ⟨t1, t2, t3⟩ := ht
    rcases Nat.eq_zero_or_pos (pcN t) with e | e
    · exfalso
      have key : ∀ a, a < 64 → ∀ b, b < 64 → pcN (64 * a + b) = 0 → 64 * a + b = 0 := by decide +kernel
      have := key (t / 64) (by omega) (t % 64) (by omega)
      rw [show 64 * (t / 64) + t % 64 = t by omega] at this
      have := this e
      omega
    · exact e
  obtain ⟨res, g1, g2⟩ := loopF (body := B_227_33) (fun k s => s.1 = nI (k + 1) ∧ Chg 89 89 M s.2 ∧ ∀ H, Pu U A H → k < pcN H) (fun res => match res with | .inl s => Chg 89 89 M s.2 ∧ ∀ H, ¬ Pu U A H | .inr s => Chg 89 89 M s.2 ∧ ∃ b, s.1 = nI b ∧ MinP (Pu U A) b) 11 (by decide) (s := ((1 : Int32), M)) ⟨rfl, Chg.rf _ _ _, fun H hH => by have := hp1 H hH; omega⟩ (by
    rintro k ⟨y, Q⟩ hk ⟨rfl, c1, c2⟩
    dsimp only at c1 c2
    unfold B_227_33 J_227_73_33
    dsimp only
    by_cases hk11 : k < 11
    · rw [if_neg (show ¬ (12 : Int32) ≤ nI (k + 1) from nI_ge (b := 12) (by omega) (by decide))]
      obtain ⟨res, i1, i2⟩ := loopF (body := B_227_41 (nI (k + 1))) (fun j s => s.1 = nI (j + 1) ∧ Chg 89 89 M s.2 ∧ ∀ H, Pu U A H → H ≤ j → pcN H ≠ k + 1) (fun res => match res with | .inl s => Chg 89 89 M s.2 ∧ ∀ H, Pu U A H → pcN H ≠ k + 1 | .inr s => Chg 89 89 M s.2 ∧ ∃ b, s.1 = nI b ∧ MinP (Pu U A) b) 4094 (by decide) (s := ((1 : Int32), Q)) ⟨rfl, c1, fun H hH h0 => by have := hH.1; omega⟩ (by
        rintro j ⟨y, T⟩ hj ⟨rfl, d1, d2⟩
        dsimp only at d1 d2
        unfold B_227_41 J_227_67_41
        dsimp only
        by_cases hj4 : j < 4094
        · rw [if_neg (show ¬ (4095 : Int32) ≤ nI (j + 1) from nI_ge (b := 4095) (by omega) (by decide)), pc_g (by omega)]
          dsimp only
          have nx : ∀ T', Chg 89 89 M T' → (Pu U A (j + 1) → pcN (j + 1) ≠ k + 1) → ∃ s' : Int32 × IM, (some (Sum.inl (nI (j + 1) + 1, T')) : Option ((Int32 × IM) ⊕ ((Int32 × IM) ⊕ (Int32 × IM)))) = some (Sum.inl s') ∧ s'.1 = nI (j + 1 + 1) ∧ Chg 89 89 M s'.2 ∧ ∀ H, Pu U A H → H ≤ j + 1 → pcN H ≠ k + 1 := fun T' u1 u2 => ⟨_, rfl, ni_add1 _, u1, fun H hH hle => by
            by_cases e : H = j + 1
            · subst e; exact u2 hH
            · exact d2 H hH (by omega)⟩
          by_cases hpc : pcN (j + 1) = k + 1
          · rw [if_pos (by rw [hpc])]
            obtain ⟨v, M', v1, v2, v3⟩ := sk0 (H := j + 1) (by omega) (hR.cg (fun a b hab => d1 a b (by omega)))
            rw [v1]
            dsimp only
            rcases v3 with ⟨rfl, r, hr, -⟩ | ⟨rfl, hno⟩
            · rw [if_neg one_ne]
              right
              exact ⟨hj4, nx M' (d1.tr v2) (fun z => absurd ⟨r, hr.1⟩ z.2.2)⟩
            · rw [if_pos rfl]
              left
              refine ⟨.inr (nI (j + 1), M'), rfl, d1.tr v2, j + 1, rfl, ⟨by omega, by omega, fun z => by obtain ⟨q, hq⟩ := z; exact hno q hq⟩, fun t ht => ?_⟩
              have := c2 t ht
              rcases Nat.lt_or_ge (k + 1) (pcN t) with e2 | e2
              · exact Or.inl (by omega)
              · refine Or.inr ⟨by omega, ?_⟩
                rcases Nat.lt_or_ge t (j + 1) with e3 | e3
                · exact absurd (show pcN t = k + 1 by omega) (d2 t ht (by omega))
                · exact e3
          · rw [if_neg (fun z => hpc (ni_inj (by have := pcN_le (j + 1); omega) (by omega) z))]
            right
            exact ⟨hj4, nx T d1 (fun _ => hpc)⟩
        · left
          obtain rfl : j = 4094 := by omega
          exact ⟨.inl (nI 4095, T), rfl, d1, fun H hH => d2 H hH (by have := hH.2.1; omega)⟩)
      have hL : L_227_41 (nI (k + 1)) 1 Q = some res := i1
      rw [hL]
      cases res with
      | inl z =>
        right
        obtain ⟨a, T⟩ := z
        refine ⟨hk11, (nI (k + 1 + 1), T), by dsimp only; rw [ni_add1], rfl, i2.1, fun H hH => ?_⟩
        have := c2 H hH
        have := i2.2 H hH
        omega
      | inr z => left; exact ⟨.inr z, rfl, i2⟩
    · left
      obtain rfl : k = 11 := by omega
      refine ⟨.inl (nI 12, Q), rfl, c1, fun H hp => ?_⟩
      have h1 := c2 H hp
      have := hp.2.1
      rcases pc_4095 H (by omega) with e | e <;> omega)
  have hL : L_227_33 1 M = some res := g1
  rw [hL]
  cases res with
  | inl z => obtain ⟨a, T⟩ := z; exact ⟨nI 4095, T, rfl, g2.1, Or.inr ⟨rfl, g2.2⟩⟩
  | inr z => obtain ⟨a, T⟩ := z; exact ⟨a, T, rfl, g2.1, Or.inl g2.2⟩
end FEW
theorem AD_sym {n : Nat} {K : Nat → Nat} {tb : Nat → Nat → Nat} {s : Nat} {D : Nat → Nat → Prop} (h k c d : Nat) (z : AD n K tb s D h k c d) : AD n K tb s D k h d c := fun l i h1 h2 h3 h4 h5 => ⟨(z l i h1 h2 h3 h4 h5).2, (z l i h1 h2 h3 h4 h5).1⟩
theorem B_few (a : Int32) : Both (F_116 a) (F_227 a) := by
  intro M hI
  obtain ⟨n, K, P, tb, q, hV⟩ := id hI
  have hW := hV.1.1
  rcases ckS hV.1 a with ⟨s, hs, hs2, rfl, e1, e2⟩ | ⟨e1, e2⟩
  · obtain ⟨x, M1, a1, a2, a3, a4⟩ := out_c hW hV.1.2.1 hV.2.2.2.2.2.2.2.2.1 hs
    have hV1 : Iv n K P tb q M1 := hV.kf a2 a3
    rcases a4 with ⟨rfl, h0⟩ | ⟨rfl, hpos⟩
    · obtain ⟨M2, b1, b2, b3, b4, -⟩ := take_c (s := s) hW hV1.1.2.1 hs2
      obtain ⟨v, M3, f1, f2, f3⟩ := few_c (fun h k c d => AD_sym h k c d) b3 b4
      have kf : KF M M3 := fun k j hk => by rw [f2 _ _ (by omega), b2 _ _ (by omega), a2 _ _ hk]
      have h10 : C10 n K tb M3 := fun s' hs' => by rw [f2 _ _ (by omega), b2 _ _ (by omega)]; exact a3 s' hs'
      have hV3 : Iv n K P tb q M3 := hV.kf kf h10
      have dc : F_116 (nI s) M = some (v, M3) := by
        simp only [F_116, e1, one_ne, if_false, a1, b1, f1]
      obtain ⟨M4, c1, c2, c3⟩ := gather_r (s := s) hW hV3.1.2.2 hV3.2.2.2.2.2.2.2.2.2 hs2
      obtain ⟨y, M5, d1, d2, d3⟩ := sk0 (H := 4095) (by decide) c3
      have hF : F_207 (nI s) M3 = some (y, M5) := by
        unfold F_207
        rw [c1]
        dsimp only
        rw [show K_206 0 4095 M4 = _ from d1]
      rcases d3 with ⟨rfl, r, hr, -⟩ | ⟨rfl, -⟩
      · have := (cnt_pos hW).mpr ⟨r, hr.1⟩; omega
      · obtain ⟨w, M6, g1, g2, g3⟩ := few_r (c3.cg (fun a b hab => d2 a b (by omega)))
        have hvw : v = w := by
          rcases f3 with ⟨b, rfl, hb⟩ | ⟨rfl, hno⟩
          · rcases g3 with ⟨b', rfl, hb'⟩ | ⟨rfl, hno⟩
            · rw [hb.uq hb']
            · exact absurd hb.1 (hno b)
          · rcases g3 with ⟨b', rfl, hb'⟩ | ⟨rfl, -⟩
            · exact absurd hb'.1 (hno b')
            · rfl
        subst hvw
        refine ⟨v, M3, M6, dc, ?_, n, K, P, tb, q, hV3.a0 (((c2.wk (show 85 ≤ 87 by decide) (show 88 ≤ 92 by decide)).tr ((d2.tr g2).wk (by decide) (by decide))).r)⟩
        simp only [F_227, e2 M3 kf.hi, one_ne, if_false, hF, if_true]
        exact g1
    · have dc : F_116 (nI s) M = some (-1000003, iset M1 43 3 (M1 43 3 + 1)) := by
        simp only [F_116, e1, one_ne, if_false, a1, if_true, Rf3]
      have hq := hV1.1.2.2.cg hW.1 (M' := iset M1 43 3 (M1 43 3 + 1)) (fun j _ => iset_k (by decide))
      have hq11 := hV1.2.2.2.2.2.2.2.2.2.cg (M' := iset M1 43 3 (M1 43 3 + 1)) (fun k j h1 h2 => iset_k (by omega))
      obtain ⟨y, M2, b1, b2, b3⟩ := out_r (s := s) hW hq hq11 hs2
      rcases b3 with ⟨rfl, h0⟩ | ⟨rfl, -⟩
      · omega
      · refine ⟨-1000003, _, _, dc, ?_, hV1.rfs (e := 3) (agx.rf 0 M1) ((b2.wk (by decide) (by decide)).r) (by decide)⟩
        simp only [F_227, e2 _ (hi43 a2.hi 3 (M1 43 3 + 1)), one_ne, if_false, b1, Rg3]
  · refine rfu1 hI ?_ (fun M1 hM1 => ?_)
    · simp only [F_116, e1, if_true, Rf1]
    · simp only [F_227, e2 M1 hM1, if_true, Rg1]
