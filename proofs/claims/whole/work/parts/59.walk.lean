/-! the tally's walk -/
def dn (d : Nat) : List Nat := d6.take d
def rst (d : Nat) : List Nat := d6.drop d ++ [0, 3, 1, 2, 4, 11]
def wk (d : Nat) : Nat := d6.getD d 0
theorem wk_f : ∀ d, d < 6 → sT 5 d = nI (wk d) ∧ wk d < 12 ∧ rst d = wk d :: rst (d + 1) ∧ dn (d + 1) = dn d ++ [wk d] ∧ wk d ∉ dn d ∧ wk d ∉ rst (d + 1) ∧ (∀ j, j ∈ dn d → j < 12 ∧ j ∉ rst (d + 1)) := by decide
theorem wk_g : ∀ d, d < 6 → ∀ k, k < 12 → k ∈ dn d ∨ k = wk d ∨ k ∈ rst (d + 1) := by decide
section WALK
variable {U : Nat → Nat → Prop} {A : Nat → Nat → Nat → Nat → Prop} {w : Nat → Nat} {M : IM}
theorem lf_no {D : List Nat} {r q : Nat → Nat} {k c : Nat} (hno : ¬ mkP U A D r k c) (hq : ∀ j, j ∈ D → q j = r j) (hk : k < 12) (hc : q k = c) (hD : ∀ j, j ∈ D → j < 12) : lfW U A w q = ve :=
  lfW_f (fun z => hno (by
    rw [← mkP.cg hq, ← hc]
    exact ⟨(z k ((mem12 k).mpr hk)).1, fun j hj => (z k ((mem12 k).mpr hk)).2 j ((mem12 j).mpr (hD j hj))⟩))
theorem acc_le {v : VV} {f : Nat → VV} (h : v.2 ≤ 99) : ∀ k, (accV v f k).2 ≤ 99
  | 0 => h
  | k + 1 => vop_le (acc_le h k)
theorem FrT.go {M' : IM} (h : FrT M M') (hG : RCgo A M) : RCgo A M' := hG.cg (fun j => h 52 j (by omega))
theorem FrT.tw {M' : IM} (h : FrT M M') (hG : TW w M) : TW w M' := fun k hk => by rw [h 57 k (by omega)]; exact hG k hk
theorem FrT.tab {M' : IM} (h : FrT M M') (hK : TabK A w M) : TabK A w M' := ⟨fun a b h1 h2 h3 => by rw [h 58 _ (by omega), h 59 _ (by omega)]; exact hK.1 a b h1 h2 h3, fun a b h1 h2 h3 => by rw [h 60 _ (by omega), h 61 _ (by omega)]; exact hK.2 a b h1 h2 h3⟩
theorem FrT.row {M' : IM} {d : Nat} {p : Nat → Nat → Prop} (h : FrT M M') (hR : RowT d p M) : RowT d p M' := hR.cg (fun k _ => h 56 _ (by omega))
theorem f57 {r : Nat → Nat} {c0 x : Nat} {v : VV} (hsym : ∀ h k c d, A h k c d → A k h d c) (hrf : ∀ h c d, A h h c d) (hTr : TrivE A) (hG : RCgo A M) (hw : TW w M) (hK : TabK A w M) (hR : RowT 6 (mkP U A d6 r) M) (hv : Tot v M) (c01 : 1 ≤ c0) (c03 : c0 ≤ 3) (hx : x = dsL w (updN r 0 c0) (d6 ++ [0])) (hD : Dok U A (d6 ++ [0]) (updN r 0 c0)) : ∃ M', F_57 (nI c0) (nI x) M = some M' ∧ FrT M M' ∧ Tot (vop v (fdO [3, 1, 2, 4, 11] (updN r 0 c0) (lfW U A w))) M' := by
  obtain ⟨m3, p3, q3⟩ := hR 3 (by decide)
  obtain ⟨g, s03, t03⟩ := f58 (h := 0) (k := 3) hG (by decide) (by decide) c01 c03
  have s03 : F_58 (0 : Int32) (nI c0) (3 : Int32) M = some (nI g) := s03
  have p3 : M 56 75 = nI m3 := p3
  have n0 : (0 : Nat) ∉ d6 := by decide
  have l12 : ∀ j, j ∈ d6 ++ [0] → j < 12 := by decide
  have nd : ∀ j, j ∈ d6 ++ [0] → j ≠ 3 ∧ j ∉ [1, 2, 4, 11] := by decide
  have ag : ∀ j, j ∈ d6 → r j = updN r 0 c0 j := fun j hj => (updN_n (fun z => n0 (by rw [← z]; exact hj))).symm
  have b3 : bt3 (m3 &&& g) (mkP U A (d6 ++ [0]) (updN r 0 c0) 3) := (q3.and t03).im (fun c _ _ => by
    rw [mkP.sn, updN_s, mkP.cg ag])
  obtain ⟨⟨y, M'⟩, g1, g2, g3⟩ := loopF (body := B_57_29 (nI c0) (nI x) (nI 72) (nI (m3 &&& g))) (fun k z => z.1 = nI (k + 1) ∧ FrT M z.2 ∧ Tot (accV v (fun c => fdO [1, 2, 4, 11] (updN (updN r 0 c0) 3 c) (lfW U A w)) k) z.2) (fun z => FrT M z.2 ∧ Tot (accV v (fun c => fdO [1, 2, 4, 11] (updN (updN r 0 c0) 3 c) (lfW U A w)) 3) z.2) 3 (by decide) (s := ((1 : Int32), M)) ⟨rfl, FrT.rf, hv⟩ (by
    rintro k ⟨y, Q⟩ hk3 ⟨rfl, q1, q2⟩
    dsimp only at q1 q2
    by_cases hk : k < 3
    · right
      refine ⟨hk, ?_⟩
      cases hb : (m3 &&& g).testBit (k + 1 - 1)
      · refine ⟨(nI (k + 1 + 1), Q), ?_, rfl, q1, ?_⟩
        · unfold B_57_29 J_57_218_29
          dsimp only
          rw [if_neg (gt3 (show k + 1 ≤ 3 by omega)), holds_ok (by have := b3.1; omega) (by omega) (by omega), hb, if_neg (show ¬ false = true by decide), if_pos rfl, ni_add1]
        · show Tot (vop _ (fdO [1, 2, 4, 11] (updN (updN r 0 c0) 3 (k + 1)) (lfW U A w))) Q
          rw [fdO_z (fun q hq => lf_no (D := d6 ++ [0]) (r := updN r 0 c0) (k := 3) (c := k + 1) (fun z => by rw [← b3.2 (k + 1) (by omega) (by omega), hb] at z; cases z) (fun j hj => by rw [hq.1 j (nd j hj).2, updN_n (nd j hj).1]) (by decide) (hq.at (by decide)) l12), vop_ve q2.2.2]
          exact q2
      · have hD3 : Dok U A (d6 ++ [0] ++ [3]) (updN (updN r 0 c0) 3 (k + 1)) := by
          have agr : ∀ j, j ∈ d6 ++ [0] → updN (updN r 0 c0) 3 (k + 1) j = updN r 0 c0 j := fun j hj => updN_n (nd j hj).1
          rw [Dok.sn hsym hrf, Dok.cg agr, mkP.cg agr, updN_s]
          exact ⟨hD, (b3.2 (k + 1) (by omega) (by omega)).mp hb⟩
        obtain ⟨M1, b1, b2, b4⟩ := b57 (c3 := k + 1) (x4 := nI (m3 &&& g)) hsym hrf hTr (q1.go hG) (q1.tw hw) (q1.tab hK) (q1.row hR) q2 c01 c03 (by omega) (by omega) hx (by rw [holds_ok (by have := b3.1; omega) (by omega) (by omega), hb, if_pos rfl]) hD3
        exact ⟨_, b1, rfl, q1.tr b2, b4⟩
    · left
      obtain rfl : k = 3 := by omega
      refine ⟨(nI (3 + 1), Q), ?_, q1, q2⟩
      unfold B_57_29
      exact if_pos (by decide))
  refine ⟨M', ?_, g2, ?_⟩
  · unfold F_57 L_57_29
    rw [i72.1, i72.2.2.2.1, if_pos (show inb (nI 75) 84 = true by decide), s03]
    dsimp only
    rw [show (nI 75).toNatClampNeg = 75 by decide, p3, ni_and, g1]
  · rw [accV3] at g3; exact g3
theorem f56 {r : Nat → Nat} {x : Nat} {v : VV} (hsym : ∀ h k c d, A h k c d → A k h d c) (hrf : ∀ h c d, A h h c d) (hTr : TrivE A) (hG : RCgo A M) (hw : TW w M) (hK : TabK A w M) (hR : RowT 6 (mkP U A d6 r) M) (hv : Tot v M) (hx : x = dsL w r d6) (hD : Dok U A d6 r) : ∃ M', F_56 (nI x) M = some M' ∧ FrT M M' ∧ Tot (vop v (fdO [0, 3, 1, 2, 4, 11] r (lfW U A w))) M' := by
  obtain ⟨m0, p0, q0⟩ := hR 0 (by decide)
  have p0 : M 56 72 = nI m0 := p0
  have l12 : ∀ j, j ∈ d6 → j < 12 := by decide
  have nd : ∀ j, j ∈ d6 → j ≠ 0 ∧ j ∉ [3, 1, 2, 4, 11] := by decide
  obtain ⟨⟨y, M'⟩, g1, g2, g3⟩ := loopF (body := B_56_15 (nI x) (nI m0)) (fun k z => z.1 = nI (k + 1) ∧ FrT M z.2 ∧ Tot (accV v (fun c => fdO [3, 1, 2, 4, 11] (updN r 0 c) (lfW U A w)) k) z.2) (fun z => FrT M z.2 ∧ Tot (accV v (fun c => fdO [3, 1, 2, 4, 11] (updN r 0 c) (lfW U A w)) 3) z.2) 3 (by decide) (s := ((1 : Int32), M)) ⟨rfl, FrT.rf, hv⟩ (by
    rintro k ⟨y, Q⟩ hk3 ⟨rfl, q1, q2⟩
    dsimp only at q1 q2
    unfold B_56_15 J_56_41_15
    dsimp only
    by_cases hk : k < 3
    · right
      refine ⟨hk, ?_⟩
      rw [if_neg (gt3 (show k + 1 ≤ 3 by omega)), holds_ok (by have := q0.1; omega) (by omega) (by omega)]
      cases hb : m0.testBit (k + 1 - 1)
      · refine ⟨(nI (k + 1 + 1), Q), ?_, rfl, q1, ?_⟩
        · rw [if_neg (show ¬ false = true by decide), if_pos rfl, ni_add1]
        · show Tot (vop _ (fdO [3, 1, 2, 4, 11] (updN r 0 (k + 1)) (lfW U A w))) Q
          rw [fdO_z (fun q hq => lf_no (D := d6) (r := r) (k := 0) (c := k + 1) (fun z => by rw [← q0.2 (k + 1) (by omega) (by omega), hb] at z; cases z) (fun j hj => by rw [hq.1 j (nd j hj).2, updN_n (nd j hj).1]) (by decide) (hq.at (by decide)) l12), vop_ve q2.2.2]
          exact q2
      · have agr : ∀ j, j ∈ d6 → updN r 0 (k + 1) j = r j := fun j hj => updN_n (nd j hj).1
        have hD3 : Dok U A (d6 ++ [0]) (updN r 0 (k + 1)) := by
          rw [Dok.sn hsym hrf, Dok.cg agr, mkP.cg agr, updN_s]
          exact ⟨hD, (q0.2 (k + 1) (by omega) (by omega)).mp hb⟩
        have o0 : F_52 (0 : Int32) (nI (k + 1)) Q = some (nI (offN w 0 (k + 1))) := f52 (h := 0) (q1.tw hw) (by decide) (by omega)
        obtain ⟨M1, b1, b2, b4⟩ := f57 (c0 := k + 1) (x := x + offN w 0 (k + 1)) hsym hrf hTr (q1.go hG) (q1.tw hw) (q1.tab hK) (q1.row hR) q2 (by omega) (by omega) (by
          rw [dsL_app, dsL_cg agr, hx]
          simp only [dsL, updN_s]
          omega) hD3
        rw [if_pos rfl, if_neg one_ne, o0]
        dsimp only
        rw [ni_add, b1]
        dsimp only
        exact ⟨_, rfl, ni_add1 (k + 1), q1.tr b2, b4⟩
    · left
      obtain rfl : k = 3 := by omega
      exact ⟨(nI (3 + 1), Q), if_pos (by decide), q1, q2⟩)
  refine ⟨M', ?_, g2, ?_⟩
  · unfold F_56 L_56_15
    rw [i72.1, if_pos (show inb (nI 72) 84 = true by decide), show (nI 72).toNatClampNeg = 72 by decide, p0, g1]
  · rw [accV3] at g3; exact g3
def FrW (d : Nat) (M M' : IM) : Prop := ∀ x j, ¬ ((x = 56 ∧ d * 12 + 12 ≤ j) ∨ (x = 50 ∧ (j = 8 ∨ j = 9))) → M' x j = M x j
theorem walk_c (hsym : ∀ h k c d, A h k c d → A k h d c) (hrf : ∀ h c d, A h h c d) (hTr : TrivE A) : ∀ (f d : Nat) (M : IM) (r : Nat → Nat) (v : VV), d ≤ 6 → 6 - d < f → RCgo A M → TW w M → TabK A w M → RowT d (mkP U A (dn d) r) M → Tot v M → Dok U A (dn d) r → (∀ j, j ∈ dn d → 1 ≤ r j ∧ r j ≤ 3) → ∃ M', KK_54 f (nI d) (nI (dsL w r (dn d))) M = some M' ∧ FrW d M M' ∧ Tot (vop v (fdO (rst d) r (lfW U A w))) M' := by
  intro f
  induction f with
  | zero => intro d M r v _ h; exact absurd h (Nat.not_lt_zero _)
  | succ f ih =>
    intro d M r v hd hf hG hw hK hR hv hD hrg
    show ∃ M', F_54 (KK_54 f) (nI d) (nI (dsL w r (dn d))) M = some M' ∧ _
    unfold F_54
    by_cases hd6 : d < 6
    · obtain ⟨w1, w2, w3, w4, w5, w6, w7⟩ := wk_f d hd6
      obtain ⟨m, p1, p2⟩ := hR (wk d) w2
      have ix : nI d * 12 + nI (wk d) = nI (d * 12 + wk d) := by rw [show nI d * 12 = nI (d * 12) from ni_mul d 12, ni_add]
      rw [if_pos (show nI d < 6 by rw [show (6 : Int32) = nI 6 from rfl, ni_lti (by omega) (by decide)]; exact hd6), if_pos ((inb_nI (by omega)).mpr hd6), ni_cl (show d < 2147483648 by omega), w1, ix, if_pos ((inb_nI (by omega)).mpr (by omega)), ni_cl (by omega), p1]
      obtain ⟨⟨y, M'⟩, g1, g2, g3⟩ := loopF (body := B_54_36 (KK_54 f) (nI d) (nI (dsL w r (dn d))) (nI (wk d)) (nI m)) (fun k z => z.1 = nI (k + 1) ∧ FrW d M z.2 ∧ Tot (accV v (fun c => fdO (rst (d + 1)) (updN r (wk d) c) (lfW U A w)) k) z.2) (fun z => FrW d M z.2 ∧ Tot (accV v (fun c => fdO (rst (d + 1)) (updN r (wk d) c) (lfW U A w)) 3) z.2) 3 (by decide) (s := ((1 : Int32), M)) ⟨rfl, fun _ _ _ => rfl, hv⟩ (by
        rintro k ⟨y, Q⟩ hk3 ⟨rfl, q1, q2⟩
        dsimp only at q1 q2
        unfold B_54_36 J_54_79_36
        dsimp only
        by_cases hk : k < 3
        · right
          refine ⟨hk, ?_⟩
          have hGQ : RCgo A Q := hG.cg (fun j => q1 52 j (by omega))
          have hwQ : TW w Q := fun h' hh' => by rw [q1 57 h' (by omega)]; exact hw h' hh'
          have hRQ : RowT d (mkP U A (dn d) r) Q := hR.cg (fun k' hk' => q1 56 _ (by omega))
          have ne : ∀ j, j ∈ dn d → j ≠ wk d := fun j hj z => w5 (by rw [← z]; exact hj)
          have agr : ∀ j, j ∈ dn d → updN r (wk d) (k + 1) j = r j := fun j hj => updN_n (ne j hj)
          rw [if_neg (gt3 (show k + 1 ≤ 3 by omega)), holds_ok (by have := p2.1; omega) (by omega) (by omega)]
          cases hb : m.testBit (k + 1 - 1)
          · refine ⟨(nI (k + 1 + 1), Q), ?_, rfl, q1, ?_⟩
            · rw [if_neg (show ¬ false = true by decide), if_pos rfl, ni_add1]
            · show Tot (vop _ (fdO (rst (d + 1)) (updN r (wk d) (k + 1)) (lfW U A w))) Q
              rw [fdO_z (fun q hq => lf_no (D := dn d) (r := r) (k := wk d) (c := k + 1) (fun z => by rw [← p2.2 (k + 1) (by omega) (by omega), hb] at z; cases z) (fun j hj => by rw [hq.1 j (w7 j hj).2, agr j hj]) w2 (hq.at w6) (fun j hj => (w7 j hj).1)), vop_ve q2.2.2]
              exact q2
          · obtain ⟨x, M2, b1, b2, b3⟩ := f55 (c := k + 1) hGQ hd6 w2 (by omega) (by omega) hRQ
            have hin := (p2.2 (k + 1) (by omega) (by omega)).mp hb
            rw [if_pos rfl, if_neg one_ne, b1]
            dsimp only
            have f2 : FrW d M M2 := fun x j hx => by rw [b2 x j (by omega)]; exact q1 x j hx
            have t2 : Tot (accV v (fun c => fdO (rst (d + 1)) (updN r (wk d) c) (lfW U A w)) k) M2 := by
              refine ⟨?_, ?_, q2.2.2⟩
              · rw [b2 50 8 (by omega)]; exact q2.1
              · rw [b2 50 9 (by omega)]; exact q2.2.1
            rcases b3 with ⟨rfl, b3⟩ | ⟨rfl, k', hk', b3⟩
            · rw [if_neg one_ne]
              have hG2 : RCgo A M2 := hGQ.cg (fun j => b2 52 j (by omega))
              have hw2 : TW w M2 := fun h' hh' => by rw [b2 57 h' (by omega)]; exact hwQ h' hh'
              have hK2 : TabK A w M2 := ⟨fun a b h1 h2 h3 => by rw [f2 58 _ (by omega), f2 59 _ (by omega)]; exact hK.1 a b h1 h2 h3, fun a b h1 h2 h3 => by rw [f2 60 _ (by omega), f2 61 _ (by omega)]; exact hK.2 a b h1 h2 h3⟩
              have hR2 : RowT (d + 1) (mkP U A (dn (d + 1)) (updN r (wk d) (k + 1))) M2 := b3.im (fun k' c' _ _ _ => by
                rw [w4, mkP.sn, updN_s, mkP.cg agr])
              have hD2 : Dok U A (dn (d + 1)) (updN r (wk d) (k + 1)) := by
                rw [w4, Dok.sn hsym hrf, Dok.cg agr, mkP.cg agr, updN_s]
                exact ⟨hD, hin⟩
              obtain ⟨M4, c1, c2, c3⟩ := ih (d + 1) M2 (updN r (wk d) (k + 1)) _ (by omega) (by omega) hG2 hw2 hK2 hR2 t2 hD2 (fun j hj => by
                rw [w4] at hj
                rcases List.mem_append.mp hj with z | z
                · rw [agr j z]; exact hrg j z
                · rw [List.mem_singleton.mp z, updN_s]; omega)
              have hds : dsL w (updN r (wk d) (k + 1)) (dn (d + 1)) = dsL w r (dn d) + offN w (wk d) (k + 1) := by
                rw [w4, dsL_app, dsL_cg agr]
                simp only [dsL, updN_s]
                omega
              rw [f52 hw2 w2 (by omega)]
              dsimp only
              rw [ni_add, ← hds, show nI d + 1 = nI (d + 1) from ni_add1 d, c1]
              dsimp only
              refine ⟨_, rfl, ni_add1 (k + 1), fun x j hx => ?_, c3⟩
              dsimp only
              rw [c2 x j (by omega)]; exact f2 x j hx
            · rw [if_pos rfl]
              refine ⟨_, rfl, ni_add1 (k + 1), f2, ?_⟩
              show Tot (vop _ (fdO (rst (d + 1)) (updN r (wk d) (k + 1)) (lfW U A w))) M2
              rw [fdO_z (fun q hq => ?_), vop_ve t2.2.2]
              · exact t2
              · apply lfW_f
                intro z
                have eq : ∀ j, j ∈ dn d → q j = r j := fun j hj => by rw [hq.1 j (w7 j hj).2, agr j hj]
                have eh : q (wk d) = k + 1 := hq.at w6
                have all : ∀ j, j < 12 → A j k' (q j) (q k') := fun j hj => (z k' ((mem12 k').mpr hk')).2 j ((mem12 j).mpr hj)
                have rng : 1 ≤ q k' ∧ q k' ≤ 3 := by
                  rcases wk_g d hd6 k' hk' with e | e | e
                  · rw [eq k' e]; exact hrg k' e
                  · rw [e, eh]; omega
                  · exact hq.2 k' e
                have a1 := all (wk d) w2
                rw [eh] at a1
                exact b3 (q k') rng.1 rng.2 ⟨⟨(z k' ((mem12 k').mpr hk')).1, fun j hj => by rw [← eq j hj]; exact all j (w7 j hj).1⟩, a1⟩
        · left
          obtain rfl : k = 3 := by omega
          exact ⟨(nI (3 + 1), Q), if_pos (by decide), q1, q2⟩)
      unfold L_54_36
      rw [g1]
      dsimp only
      refine ⟨M', rfl, g2, ?_⟩
      rw [accV3] at g3
      rw [w3]
      exact g3
    · obtain rfl : d = 6 := by omega
      obtain ⟨M', b1, b2, b3⟩ := f56 (r := r) (x := dsL w r (dn 6)) hsym hrf hTr hG hw hK hR hv rfl hD
      rw [if_neg (show ¬ nI 6 < 6 by decide), b1]
      exact ⟨M', rfl, fun x j hx => b2 x j (by omega), b3⟩
end WALK
