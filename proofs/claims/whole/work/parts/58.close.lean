/-! the tally's end: the last six halls -/
def d6 : List Nat := [5, 6, 8, 7, 9, 10]
noncomputable def L2 (A : Nat → Nat → Nat → Nat → Prop) (w : Nat → Nat) (h k a b : Nat) (q : Nat → Nat) : VV := bif bP (a.testBit (q h - 1) = true ∧ b.testBit (q k - 1) = true ∧ A h k (q h) (q k)) then (1, offN w h (q h) + offN w k (q k)) else ve
theorem L2_at {A : Nat → Nat → Nat → Nat → Prop} {w : Nat → Nat} {h k a b c d : Nat} {q : Nat → Nat} (e1 : q h = c) (e2 : q k = d) : L2 A w h k a b q = bif a.testBit (c - 1) then eL A w h k b c d else ve := by
  unfold L2 eL
  rw [e1, e2]
  cases ha : a.testBit (c - 1)
  · rw [bP_f (fun z => by cases z.1)]; rfl
  · by_cases hp : b.testBit (d - 1) = true ∧ A h k c d
    · rw [bP_t ⟨rfl, hp⟩, bP_t hp]; rfl
    · rw [bP_f (fun z => hp z.2), bP_f hp]; rfl
theorem fd_TT {A : Nat → Nat → Nat → Nat → Prop} {w : Nat → Nat} {h k a b : Nat} (hne : h ≠ k) (r : Nat → Nat) : fdO [h, k] r (L2 A w h k a b) = TT A w h k a b := by
  have u : ∀ c d, L2 A w h k a b (updN (updN r h c) k d) = bif a.testBit (c - 1) then eL A w h k b c d else ve := fun c d => L2_at (by rw [updN_n hne, updN_s]) (updN_s _ _ _)
  have row : ∀ c, vop (vop (bif a.testBit (c - 1) then eL A w h k b c 1 else ve) (bif a.testBit (c - 1) then eL A w h k b c 2 else ve)) (bif a.testBit (c - 1) then eL A w h k b c 3 else ve) = bif a.testBit (c - 1) then rowE A w h k b c else ve := fun c => by
    cases a.testBit (c - 1) <;> rfl
  simp only [fdO]
  rw [u, u, u, u, u, u, u, u, u, row 1, row 2, row 3]
  rfl
def TrivE (A : Nat → Nat → Nat → Nat → Prop) : Prop := ∀ c d, A 1 4 c d ∧ A 1 11 c d ∧ A 2 4 c d ∧ A 2 11 c d ∧ A 3 4 c d ∧ A 0 11 c d
section CLOSE
variable {U : Nat → Nat → Prop} {A : Nat → Nat → Nat → Nat → Prop} {w : Nat → Nat} {M : IM}
theorem close_leaf {r : Nat → Nat} {a1 a2 a4 a11 : Nat} (hsym : ∀ h k c d, A h k c d → A k h d c) (hrf : ∀ h c d, A h h c d) (hT : TrivE A) (hD : Dok U A (d6 ++ [0] ++ [3]) r) (h1 : bt3 a1 (mkP U A (d6 ++ [0] ++ [3]) r 1)) (h2 : bt3 a2 (mkP U A (d6 ++ [0] ++ [3]) r 2)) (h4 : bt3 a4 (mkP U A (d6 ++ [0] ++ [3]) r 4)) (h11 : bt3 a11 (mkP U A (d6 ++ [0] ++ [3]) r 11)) : fdO [1, 2, 4, 11] r (lfW U A w) = vmul (1, dsL w r (d6 ++ [0] ++ [3])) (vmul (TT A w 1 2 a1 a2) (TT A w 4 11 a4 a11)) := by
  have pm : all12.Perm (d6 ++ [0] ++ [3] ++ [1] ++ [2] ++ [4] ++ [11]) := by decide
  have leaf : ∀ q, (∀ k, k ∈ d6 ++ [0] ++ [3] → q k = r k) → (∀ k, k = 1 ∨ k = 2 ∨ k = 4 ∨ k = 11 → 1 ≤ q k ∧ q k ≤ 3) → lfW U A w q = vmul (1, dsL w r (d6 ++ [0] ++ [3])) (vmul (L2 A w 1 2 a1 a2 q) (L2 A w 4 11 a4 a11 q)) := by
    intro q hq hc
    have r1 := hc 1 (by decide)
    have r2 := hc 2 (by decide)
    have r4 := hc 4 (by decide)
    have r11 := hc 11 (by decide)
    have iff : Dok U A all12 q ↔ (a1.testBit (q 1 - 1) = true ∧ a2.testBit (q 2 - 1) = true ∧ A 1 2 (q 1) (q 2)) ∧ (a4.testBit (q 4 - 1) = true ∧ a11.testBit (q 11 - 1) = true ∧ A 4 11 (q 4) (q 11)) := by
      rw [h1.2 (q 1) r1.1 r1.2, h2.2 (q 2) r2.1 r2.2, h4.2 (q 4) r4.1 r4.2, h11.2 (q 11) r11.1 r11.2, ← mkP.cg hq, ← mkP.cg hq, ← mkP.cg hq, ← mkP.cg hq]
      rw [Dok.pm (fun k => pm.mem_iff), Dok.sn hsym hrf, Dok.sn hsym hrf, Dok.sn hsym hrf, Dok.sn hsym hrf, mkP.sn (D := d6 ++ [0] ++ [3]) (h := 1) (k := 2), mkP.sn (D := d6 ++ [0] ++ [3] ++ [1]) (h := 2) (k := 4), mkP.sn (D := d6 ++ [0] ++ [3]) (h := 1) (k := 4), mkP.sn (D := d6 ++ [0] ++ [3] ++ [1] ++ [2]) (h := 4) (k := 11), mkP.sn (D := d6 ++ [0] ++ [3] ++ [1]) (h := 2) (k := 11), mkP.sn (D := d6 ++ [0] ++ [3]) (h := 1) (k := 11)]
      constructor
      · rintro ⟨⟨⟨⟨-, z1⟩, z2, z3⟩, ⟨z4, -⟩, -⟩, ⟨⟨z5, -⟩, -⟩, z6⟩
        exact ⟨⟨z1, z2, z3⟩, z4, z5, z6⟩
      · rintro ⟨⟨z1, z2, z3⟩, z4, z5, z6⟩
        exact ⟨⟨⟨⟨(Dok.cg hq).mpr hD, z1⟩, z2, z3⟩, ⟨z4, (hT _ _).1⟩, (hT _ _).2.2.1⟩, ⟨⟨z5, (hT _ _).2.1⟩, (hT _ _).2.2.2.1⟩, z6⟩
    have ds : dsL w q all12 = dsL w r (d6 ++ [0] ++ [3]) + (offN w 1 (q 1) + offN w 2 (q 2)) + (offN w 4 (q 4) + offN w 11 (q 11)) := by
      rw [dsL_perm pm, dsL_app, dsL_app, dsL_app, dsL_app, dsL_cg hq]
      simp only [dsL]
      omega
    have hds : dsL w r (d6 ++ [0] ++ [3]) ≤ 8 := dsL_le w r _
    have o1 := offN_le w 1 (q 1)
    have o2 := offN_le w 2 (q 2)
    have o4 := offN_le w 4 (q 4)
    have o11 := offN_le w 11 (q 11)
    by_cases p : a1.testBit (q 1 - 1) = true ∧ a2.testBit (q 2 - 1) = true ∧ A 1 2 (q 1) (q 2)
    · by_cases p' : a4.testBit (q 4 - 1) = true ∧ a11.testBit (q 11 - 1) = true ∧ A 4 11 (q 4) (q 11)
      · rw [lfW_t (iff.mpr ⟨p, p'⟩)]
        unfold L2
        rw [bP_t p, bP_t p', ds]
        refine VV.ext rfl ?_
        show _ = min 99 (dsL w r (d6 ++ [0] ++ [3]) + min 99 (offN w 1 (q 1) + offN w 2 (q 2) + (offN w 4 (q 4) + offN w 11 (q 11))))
        dsimp only
        omega
      · rw [lfW_f (fun z => p' (iff.mp z).2)]
        have : L2 A w 4 11 a4 a11 q = ve := by unfold L2; rw [bP_f p']; rfl
        rw [this, vmul_ve, vmul_ve]
    · rw [lfW_f (fun z => p (iff.mp z).1)]
      have : L2 A w 1 2 a1 a2 q = ve := by unfold L2; rw [bP_f p]; rfl
      rw [this, vmul_comm ve, vmul_ve, vmul_ve]
  show fdO ([1, 2] ++ [4, 11]) r (lfW U A w) = _
  have nd : ∀ k, k ∈ d6 ++ [0] ++ [3] → k ∉ [1, 2] ∧ k ∉ [4, 11] := by decide
  have inner : ∀ q', xt [1, 2] r q' → fdO [4, 11] q' (lfW U A w) = vmul (vmul (1, dsL w r (d6 ++ [0] ++ [3])) (TT A w 4 11 a4 a11)) (L2 A w 1 2 a1 a2 q') := by
    intro q' hq'
    have e := fdO_mul (f := lfW U A w) (g := L2 A w 4 11 a4 a11) (a := vmul (1, dsL w r (d6 ++ [0] ++ [3])) (L2 A w 1 2 a1 a2 q')) [4, 11] q' (fun q hq => by
      have e1 : q 1 = q' 1 := hq.1 1 (by decide)
      have e2 : q 2 = q' 2 := hq.1 2 (by decide)
      rw [leaf q (fun k hk => by rw [hq.1 k (nd k hk).2, hq'.1 k (nd k hk).1]) (fun k hk => by
        rcases hk with rfl | rfl | rfl | rfl
        · rw [e1]; exact hq'.2 1 (by decide)
        · rw [e2]; exact hq'.2 2 (by decide)
        · exact hq.2 4 (by decide)
        · exact hq.2 11 (by decide)), ← vmul_assoc]
      have : L2 A w 1 2 a1 a2 q = L2 A w 1 2 a1 a2 q' := by unfold L2; rw [e1, e2]
      rw [this])
    rw [e, fd_TT (by decide), vmul_assoc, vmul_comm (L2 A w 1 2 a1 a2 q'), ← vmul_assoc]
  rw [fdO_app, fdO_mul [1, 2] r inner, fd_TT (by decide), vmul_assoc, vmul_comm (TT A w 4 11 a4 a11)]
def Tot (v : VV) (M : IM) : Prop := M 50 8 = nI v.1 ∧ M 50 9 = nI v.2 ∧ v.2 ≤ 99
def FrT (M M' : IM) : Prop := ∀ x j, ¬ (x = 50 ∧ (j = 8 ∨ j = 9)) → M' x j = M x j
theorem FrT.rf : FrT M M := fun _ _ _ => rfl
theorem FrT.tr {M1 M2 : IM} (h1 : FrT M M1) (h2 : FrT M1 M2) : FrT M M2 := fun x j a => (h2 x j a).trans (h1 x j a)
def accV (v : VV) (f : Nat → VV) : Nat → VV
  | 0 => v
  | k + 1 => vop (accV v f k) (f (k + 1))
theorem accV3 (v : VV) (f : Nat → VV) : accV v f 3 = vop v (vop (vop (f 1) (f 2)) (f 3)) := by
  show vop (vop (vop v (f 1)) (f 2)) (f 3) = _
  rw [vop_assoc v, vop_assoc v, vop_assoc]
theorem f58 {h k c : Nat} (hG : RCgo A M) (hh : h < 12) (hk : k < 12) (h1 : 1 ≤ c) (h3 : c ≤ 3) : ∃ g, F_58 (nI h) (nI c) (nI k) M = some (nI g) ∧ bt3 g (A h k c) := by
  obtain ⟨g, g1, g2⟩ := hG h k c hh hk h1 h3
  refine ⟨g, ?_, g2⟩
  unfold F_58
  rw [go_ix, if_pos ((inb_nI (by omega)).mpr (by omega)), ni_cl (by omega), g1]
def TabK (A : Nat → Nat → Nat → Nat → Prop) (w : Nat → Nat) (M : IM) : Prop := TabP A w 1 2 58 59 64 M ∧ TabP A w 4 11 60 61 64 M
theorem i72 : (6 : Int32) * 12 = nI 72 ∧ nI 72 + 1 = nI 73 ∧ nI 72 + 2 = nI 74 ∧ nI 72 + 3 = nI 75 ∧ nI 72 + 4 = nI 76 ∧ nI 72 + 11 = nI 83 := by decide
theorem i8ab {a b : Nat} (ha : a < 8) (hb : b < 8) : (8 : Int32) * nI a + nI b = nI (8 * a + b) ∧ inb (nI (8 * a + b)) 64 = true ∧ (nI (8 * a + b)).toNatClampNeg = 8 * a + b := by
  refine ⟨by rw [show (8 : Int32) * nI a = nI (8 * a) from ni_mul 8 a, ni_add], (inb_nI (by omega)).mpr (by omega), ni_cl (by omega)⟩
theorem b57 {r : Nat → Nat} {c0 c3 x : Nat} {v : VV} {x4 : Int32} (hsym : ∀ h k c d, A h k c d → A k h d c) (hrf : ∀ h c d, A h h c d) (hTr : TrivE A) (hG : RCgo A M) (hw : TW w M) (hK : TabK A w M) (hR : RowT 6 (mkP U A d6 r) M) (hv : Tot v M) (c01 : 1 ≤ c0) (c03 : c0 ≤ 3) (c31 : 1 ≤ c3) (c33 : c3 ≤ 3) (hx : x = dsL w (updN r 0 c0) (d6 ++ [0])) (hb : F_143 x4 (nI c3) = 1) (hD : Dok U A (d6 ++ [0] ++ [3]) (updN (updN r 0 c0) 3 c3)) : ∃ M', B_57_29 (nI c0) (nI x) (nI 72) x4 (nI c3, M) = some (.inl (nI (c3 + 1), M')) ∧ FrT M M' ∧ Tot (vop v (fdO [1, 2, 4, 11] (updN (updN r 0 c0) 3 c3) (lfW U A w))) M' := by
  obtain ⟨m1, p1, q1⟩ := hR 1 (by decide)
  obtain ⟨m2, p2, q2⟩ := hR 2 (by decide)
  obtain ⟨m4, p4, q4⟩ := hR 4 (by decide)
  obtain ⟨m11, p11, q11⟩ := hR 11 (by decide)
  obtain ⟨g01, s01, t01⟩ := f58 (h := 0) (k := 1) hG (by decide) (by decide) c01 c03
  obtain ⟨g02, s02, t02⟩ := f58 (h := 0) (k := 2) hG (by decide) (by decide) c01 c03
  obtain ⟨g04, s04, t04⟩ := f58 (h := 0) (k := 4) hG (by decide) (by decide) c01 c03
  obtain ⟨g31, s31, t31⟩ := f58 (h := 3) (k := 1) hG (by decide) (by decide) c31 c33
  obtain ⟨g32, s32, t32⟩ := f58 (h := 3) (k := 2) hG (by decide) (by decide) c31 c33
  obtain ⟨g311, s311, t311⟩ := f58 (h := 3) (k := 11) hG (by decide) (by decide) c31 c33
  have s01 : F_58 (0 : Int32) (nI c0) (1 : Int32) M = some (nI g01) := s01
  have s02 : F_58 (0 : Int32) (nI c0) (2 : Int32) M = some (nI g02) := s02
  have s04 : F_58 (0 : Int32) (nI c0) (4 : Int32) M = some (nI g04) := s04
  have s31 : F_58 (3 : Int32) (nI c3) (1 : Int32) M = some (nI g31) := s31
  have s32 : F_58 (3 : Int32) (nI c3) (2 : Int32) M = some (nI g32) := s32
  have s311 : F_58 (3 : Int32) (nI c3) (11 : Int32) M = some (nI g311) := s311
  have p1 : M 56 73 = nI m1 := p1
  have p2 : M 56 74 = nI m2 := p2
  have p4 : M 56 76 = nI m4 := p4
  have p11 : M 56 83 = nI m11 := p11
  have n0 : (0 : Nat) ∉ d6 := by decide
  have n3 : (3 : Nat) ∉ d6 ++ [0] := by decide
  have ag : ∀ j, j ∈ d6 → r j = updN (updN r 0 c0) 3 c3 j := fun j hj => by
    rw [updN_n (fun z => n3 (by rw [← z]; exact List.mem_append_left _ hj)), updN_n (fun z => n0 (by rw [← z]; exact hj))]
  have e0 : updN (updN r 0 c0) 3 c3 0 = c0 := by rw [updN_n (by decide), updN_s]
  have e3 : updN (updN r 0 c0) 3 c3 3 = c3 := updN_s _ _ _
  have b1 : bt3 (m1 &&& g01 &&& g31) (mkP U A (d6 ++ [0] ++ [3]) (updN (updN r 0 c0) 3 c3) 1) := ((q1.and t01).and t31).im (fun c _ _ => by
    rw [mkP.sn, mkP.sn, e0, e3, mkP.cg ag])
  have b2 : bt3 (m2 &&& g02 &&& g32) (mkP U A (d6 ++ [0] ++ [3]) (updN (updN r 0 c0) 3 c3) 2) := ((q2.and t02).and t32).im (fun c _ _ => by
    rw [mkP.sn, mkP.sn, e0, e3, mkP.cg ag])
  have b4 : bt3 (m4 &&& g04) (mkP U A (d6 ++ [0] ++ [3]) (updN (updN r 0 c0) 3 c3) 4) := (q4.and t04).im (fun c _ _ => by
    rw [mkP.sn, mkP.sn, e0, e3, mkP.cg ag]
    exact ⟨fun z => ⟨z, (hTr _ _).2.2.2.2.1⟩, fun z => z.1⟩)
  have b11 : bt3 (m11 &&& g311) (mkP U A (d6 ++ [0] ++ [3]) (updN (updN r 0 c0) 3 c3) 11) := (q11.and t311).im (fun c _ _ => by
    rw [mkP.sn, mkP.sn, e0, e3, mkP.cg ag]
    exact ⟨fun z => ⟨⟨z.1, (hTr _ _).2.2.2.2.2⟩, z.2⟩, fun z => ⟨z.1.1, z.2⟩⟩)
  have leaf := close_leaf (w := w) hsym hrf hTr hD b1 b2 b4 b11
  generalize ha1 : m1 &&& g01 &&& g31 = a1 at b1 leaf
  generalize ha2 : m2 &&& g02 &&& g32 = a2 at b2 leaf
  generalize ha4 : m4 &&& g04 = a4 at b4 leaf
  generalize ha11 : m11 &&& g311 = a11 at b11 leaf
  obtain ⟨j1, j2, j3⟩ := i8ab b1.1 b2.1
  obtain ⟨k1, k2, k3⟩ := i8ab b4.1 b11.1
  obtain ⟨T1, T2⟩ := hK.1 a1 a2 b1.1 b2.1 (by have := b1.1; have := b2.1; omega)
  obtain ⟨T3, T4⟩ := hK.2 a4 a11 b4.1 b11.1 (by have := b4.1; have := b11.1; omega)
  have hwM : ∀ u, TW w (iset M 50 8 u) := fun u h' hh' => by rw [iset_k (by decide)]; exact hw h' hh'
  have o3 : ∀ u, F_52 (3 : Int32) (nI c3) (iset M 50 8 u) = some (nI (offN w 3 c3)) := fun u => f52 (h := 3) (hwM u) (by decide) c33
  have r59 : ∀ u j, (iset M 50 8 u) 59 j = M 59 j := fun u j => iset_k (by decide)
  have r61 : ∀ u j, (iset M 50 8 u) 61 j = M 61 j := fun u j => iset_k (by decide)
  have r559 : ∀ u, (iset M 50 8 u) 50 9 = nI v.2 := fun u => by rw [iset_j (by decide)]; exact hv.2.1
  have u1 := TT_le A w 1 2 a1 a2
  have u2 := TT_le A w 4 11 a4 a11
  have u3 := offN_le w 3 c3
  have u4 : x ≤ 7 := by rw [hx]; exact dsL_le w _ _
  have u5 := hv.2.2
  have y1 : inb (nI 73) 84 = true ∧ inb (nI 74) 84 = true ∧ inb (nI 76) 84 = true ∧ inb (nI 83) 84 = true := by decide
  have y2 : (nI 73).toNatClampNeg = 73 ∧ (nI 74).toNatClampNeg = 74 ∧ (nI 76).toNatClampNeg = 76 ∧ (nI 83).toNatClampNeg = 83 := by decide
  refine ⟨iset (iset M 50 8 (nI (v.1 + (TT A w 1 2 a1 a2).1 * (TT A w 4 11 a4 a11).1))) 50 9 (nI (min (x + offN w 3 c3 + (TT A w 1 2 a1 a2).2 + (TT A w 4 11 a4 a11).2) v.2)), ?_, fun z j hz => ?_, ?_, ?_, ?_⟩
  · unfold B_57_29 J_57_218_29
    dsimp only
    rw [if_neg (gt3 c33), hb, if_neg one_ne, i72.2.1, i72.2.2.1, i72.2.2.2.2.1, i72.2.2.2.2.2]
    simp only [y1.1, y1.2.1, y1.2.2.1, y1.2.2.2, y2.1, y2.2.1, y2.2.2.1, y2.2.2.2, if_true, s01, s02, s04, s31, s32, s311, p1, p2, p4, p11, ni_and, ha1, ha2, ha4, ha11, j1, j2, j3, k1, k2, k3, T1, T3, ni_mul, hv.1, ni_add, o3, r59, r61, r559, T2, T4, ni_add1]
    rw [min_nI (by omega) (by omega)]
  · rw [iset_eq, if_neg (fun y => hz ⟨y.1, Or.inr y.2⟩), iset_eq, if_neg (fun y => hz ⟨y.1, Or.inl y.2⟩)]
  · rw [iset_j (by decide), iset_same, leaf]
    congr 1
    show v.1 + (TT A w 1 2 a1 a2).1 * (TT A w 4 11 a4 a11).1 = v.1 + 1 * ((TT A w 1 2 a1 a2).1 * (TT A w 4 11 a4 a11).1)
    rw [Nat.one_mul]
  · rw [iset_same, leaf]
    congr 1
    have : dsL w (updN (updN r 0 c0) 3 c3) (d6 ++ [0] ++ [3]) = x + offN w 3 c3 := by
      rw [dsL_app, hx, dsL_cg (w := w) (L := d6 ++ [0]) (q := updN (updN r 0 c0) 3 c3) (q' := updN r 0 c0) (fun k hk => updN_n (fun z => n3 (by rw [← z]; exact hk)))]
      simp only [dsL, e3]
      omega
    show min (x + offN w 3 c3 + (TT A w 1 2 a1 a2).2 + (TT A w 4 11 a4 a11).2) v.2 = min v.2 (min 99 (dsL w (updN (updN r 0 c0) 3 c3) (d6 ++ [0] ++ [3]) + min 99 ((TT A w 1 2 a1 a2).2 + (TT A w 4 11 a4 a11).2)))
    rw [this]
    omega
  · rw [leaf]; exact vop_le u5
end CLOSE
