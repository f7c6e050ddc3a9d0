/-! whether a rule fits, the first one: find, write, learn -/
theorem sumO_le {f : (Nat → Nat) → Nat} (hf : ∀ q, f q ≤ 1) : ∀ (L : List Nat) (r : Nat → Nat), sumO L r f ≤ 3 ^ L.length
  | [], r => hf r
  | h :: t, r => by
    have h1 := sumO_le hf t (updN r h 1)
    have h2 := sumO_le hf t (updN r h 2)
    have h3 := sumO_le hf t (updN r h 3)
    simp only [sumO, List.length_cons, Nat.pow_succ]
    omega
theorem chi_le (p : Prop) : chi p ≤ 1 := by
  unfold chi
  split <;> omega
theorem chi_pos {p : Prop} : 0 < chi p ↔ p := by
  unfold chi
  by_cases h : p
  · rw [if_pos h]; exact ⟨fun _ => h, fun _ => by decide⟩
  · rw [if_neg h]; exact ⟨fun z => absurd z (by decide), fun z => absurd z h⟩
theorem chi_t {p : Prop} (h : p) : chi p = 1 := by unfold chi; rw [if_pos h]
theorem chi_f {p : Prop} (h : ¬ p) : chi p = 0 := by unfold chi; rw [if_neg h]
theorem cnt_lt (n : Nat) (K : Nat → Nat) (tb : Nat → Nat → Nat) (s : Nat) : cntS n K tb s < 600000 := by
  have := sumO_le (f := fun r => chi (fitsS n K tb s r)) (fun q => chi_le _) all12 (fun _ => 1)
  unfold cntS
  have e : 3 ^ all12.length = 531441 := by decide
  omega
theorem sumO_pos {f : (Nat → Nat) → Nat} : ∀ (L : List Nat) (r : Nat → Nat), 0 < sumO L r f ↔ ∃ q : Nat → Nat, (∀ k, k ∉ L → q k = r k) ∧ (∀ k, k ∈ L → 1 ≤ q k ∧ q k ≤ 3) ∧ 0 < f q
  | [], r => by
    simp only [sumO]
    constructor
    · intro h; exact ⟨r, fun _ _ => rfl, fun k hk => absurd hk (List.not_mem_nil), h⟩
    · rintro ⟨q, h1, -, h3⟩
      have : q = r := funext (fun k => h1 k (List.not_mem_nil))
      rw [← this]; exact h3
  | h :: t, r => by
    have i1 := sumO_pos (f := f) t (updN r h 1)
    have i2 := sumO_pos (f := f) t (updN r h 2)
    have i3 := sumO_pos (f := f) t (updN r h 3)
    have up : ∀ c, 1 ≤ c → c ≤ 3 → (∃ q : Nat → Nat, (∀ k, k ∉ t → q k = updN r h c k) ∧ (∀ k, k ∈ t → 1 ≤ q k ∧ q k ≤ 3) ∧ 0 < f q) → ∃ q : Nat → Nat, (∀ k, k ∉ h :: t → q k = r k) ∧ (∀ k, k ∈ h :: t → 1 ≤ q k ∧ q k ≤ 3) ∧ 0 < f q := by
      rintro c c1 c3 ⟨q, a1, a2, a3⟩
      refine ⟨q, fun k hk => ?_, fun k hk => ?_, a3⟩
      · rw [a1 k (fun z => hk (List.mem_cons_of_mem _ z))]
        unfold updN
        rw [if_neg (fun z => hk (by rw [z]; exact List.mem_cons_self))]
      · by_cases e : k ∈ t
        · exact a2 k e
        · have : k = h := (List.mem_cons.mp hk).resolve_right e
          rw [a1 k e]
          unfold updN
          rw [if_pos this]
          exact ⟨c1, c3⟩
    simp only [sumO]
    constructor
    · intro hp
      by_cases p1 : 0 < sumO t (updN r h 1) f
      · exact up 1 (by decide) (by decide) (i1.mp p1)
      by_cases p2 : 0 < sumO t (updN r h 2) f
      · exact up 2 (by decide) (by decide) (i2.mp p2)
      · exact up 3 (by decide) (by decide) (i3.mp (by omega))
    · rintro ⟨q, a1, a2, a3⟩
      obtain ⟨c1, c3⟩ := a2 h List.mem_cons_self
      have dn : ∀ k, k ∉ t → q k = updN r h (q h) k := fun k hk => by
        unfold updN
        by_cases e : k = h
        · rw [if_pos e, e]
        · rw [if_neg e]; exact a1 k (fun z => (List.mem_cons.mp z).elim e hk)
      have : q h = 1 ∨ q h = 2 ∨ q h = 3 := by omega
      rcases this with e | e | e
      · have := i1.mpr ⟨q, fun k hk => by rw [← e]; exact dn k hk, fun k hk => a2 k (List.mem_cons_of_mem _ hk), a3⟩
        omega
      · have := i2.mpr ⟨q, fun k hk => by rw [← e]; exact dn k hk, fun k hk => a2 k (List.mem_cons_of_mem _ hk), a3⟩
        omega
      · have := i3.mpr ⟨q, fun k hk => by rw [← e]; exact dn k hk, fun k hk => a2 k (List.mem_cons_of_mem _ hk), a3⟩
        omega
theorem mem12 : ∀ k, k ∈ all12 ↔ k < 12 := fun k => by
  unfold all12
  simp only [List.mem_cons, List.not_mem_nil, or_false]
  omega
theorem fitsS_cg {n s : Nat} {K P : Nat → Nat} {tb : Nat → Nat → Nat} {r q : Nat → Nat} (hW : LW n K P tb) (e : ∀ k, k < 12 → r k = q k) (h : fitsS n K tb s r) : fitsS n K tb s q := fun l hl hb i hi => by
  have hk := (hW.2 l hl).1
  rw [← e _ (fa_lt _ hk i hi), ← e _ (fb_lt _ hk i hi)]
  exact h l hl hb i hi
theorem cnt_pos {n s : Nat} {K P : Nat → Nat} {tb : Nat → Nat → Nat} (hW : LW n K P tb) : 0 < cntS n K tb s ↔ ∃ q, PCn (UD n K tb s tt2) (AD n K tb s tt2) 4095 12 q := by
  unfold cntS
  rw [sumO_pos]
  constructor
  · rintro ⟨q, h1, h2, h3⟩
    exact ⟨q, (sol_iff hW).mpr ⟨fun h hh => h2 h ((mem12 h).mpr hh), chi_pos.mp h3⟩⟩
  · rintro ⟨q, hq⟩
    obtain ⟨h1, h2⟩ := (sol_iff hW).mp hq
    obtain ⟨R, e4, e5⟩ : ∃ R : Nat → Nat, (∀ k, k < 12 → R k = q k) ∧ ∀ k, ¬ k < 12 → R k = 1 := ⟨fun k => if k < 12 then q k else 1, fun k hk => if_pos hk, fun k hk => if_neg hk⟩
    refine ⟨R, fun k hk => ?_, fun k hk => ?_, chi_pos.mpr (fitsS_cg hW (fun k hk => (e4 k hk).symm) h2)⟩
    · rw [e5 k (fun z => hk ((mem12 k).mpr z))]
    · rw [e4 k ((mem12 k).mp hk)]; exact h1 k ((mem12 k).mp hk)
def KF (M M' : IM) : Prop := ∀ k j, ¬ ((50 ≤ k ∧ k ≤ 61) ∨ k = 68) → M' k j = M k j
theorem KF.rf (M : IM) : KF M M := fun _ _ _ => rfl
theorem KF.tr {M M1 M2 : IM} (h : KF M M1) (h2 : KF M1 M2) : KF M M2 := fun k j hk => (h2 k j hk).trans (h k j hk)
theorem KF.x {M M' : IM} (h : KF M M') : agx 10 M M' := fun k j h1 h2 => h k j (fun z => by
  rcases z with z | z
  · exact h1 (cid0a (by omega) j)
  · exact h2 (cid10 z))
theorem KF.hi {M M' : IM} (h : KF M M') : ∀ k j, 77 ≤ k → M' k j = M k j := fun k j hk => h k j (by omega)
theorem KF.LC {n : Nat} {K P : Nat → Nat} {tb : Nat → Nat → Nat} {M M' : IM} (h : KF M M') (hn : n ≤ 8) (hC : LC 1 n K P tb M) : LC 1 n K P tb M' := hC.cg hn (fun k j hk => h k j (by omega))
section OUT
variable {n s : Nat} {K P : Nat → Nat} {tb : Nat → Nat → Nat} {M : IM}
/-- the class's search by a set, from its beginning -/
theorem tf_c (hW : LW n K P tb) (hC : LC 1 n K P tb M) (hs : s < 256) : ∃ M1 x M2, F_22 1 (nI s) M = some M1 ∧ F_25 M1 = some (x, M2) ∧ KF M M2 ∧ (∀ j, M2 68 j = M 68 j) ∧ ((x = 1 ∧ ∃ r, Fst (UD n K tb s tt2) (AD n K tb s tt2) 4095 r ∧ ∀ k, k < 12 → M2 54 k = nI (r k)) ∨ (x = 0 ∧ ∀ q, ¬ PCn (UD n K tb s tt2) (AD n K tb s tt2) 4095 12 q)) := by
  obtain ⟨M1, a1, a2, a3, a4, a5⟩ := take_c hW hC hs
  obtain ⟨x, M2, b1, b2, b3⟩ := fits_c a3 a4 a5
  refine ⟨M1, x, M2, a1, b1, fun k j hk => ?_, fun j => ?_, b3⟩
  · rw [b2 _ _ (by omega), a2 _ _ (by omega)]
  · rw [b2 _ _ (by omega), a2 _ _ (by omega)]
theorem out_c (hW : LW n K P tb) (hC : LC 1 n K P tb M) (hK : C10 n K tb M) (hs : s < 2 ^ n) : ∃ x M', F_146 (nI s) M = some (x, M') ∧ KF M M' ∧ C10 n K tb M' ∧ ((x = 1 ∧ cntS n K tb s = 0) ∨ (x = 0 ∧ 0 < cntS n K tb s)) := by
  have hn := hW.1
  have hp := pw_8 hn
  have i1 : inb (nI s) 256 = true := (inb_nI (by omega)).mpr (by omega)
  have i2 : (nI s).toNatClampNeg = s := ni_cl (by omega)
  have hc := cnt_lt n K tb s
  unfold F_146
  simp only [i1, i2, if_true]
  by_cases hz : M 68 s = -2
  · obtain ⟨M1, x, M2, a1, a2, a3, a4, a5⟩ := tf_c hW hC (show s < 256 by omega)
    simp only [hz, if_true, a1, a2]
    have hk2 : ∀ v : Int32, KF M (iset M2 68 s v) := fun v k j hk => by rw [iset_k (by omega)]; exact a3 k j hk
    rcases a5 with ⟨rfl, r, hr, -⟩ | ⟨rfl, hno⟩
    · have hpos : 0 < cntS n K tb s := (cnt_pos hW).mpr ⟨r, hr.1⟩
      refine ⟨0, iset M2 68 s (-1), ?_, hk2 _, fun s' hs' => ?_, Or.inr ⟨rfl, hpos⟩⟩
      · simp only [one_ne, if_false, J_146_43, J_146_44, i1, i2, if_true, iset_same, show ¬ ((-1 : Int32) = 0) by decide]
      · by_cases e : s' = s
        · subst e; rw [iset_same]; exact Or.inr ⟨hs, Or.inl ⟨rfl, hpos⟩⟩
        · rw [iset_j e, a4]; exact hK s' hs'
    · have h0 : cntS n K tb s = 0 := by
        rcases Nat.eq_zero_or_pos (cntS n K tb s) with e | e
        · exact e
        · obtain ⟨q, hq⟩ := (cnt_pos hW).mp e; exact absurd hq (hno q)
      refine ⟨1, iset M2 68 s 0, ?_, hk2 _, fun s' hs' => ?_, Or.inl ⟨rfl, h0⟩⟩
      · simp only [if_true, J_146_43, J_146_44, i1, i2, iset_same]
      · by_cases e : s' = s
        · subst e; rw [iset_same]; exact Or.inr ⟨hs, Or.inr (by rw [h0]; rfl)⟩
        · rw [iset_j e, a4]; exact hK s' hs'
  · simp only [hz, if_false, J_146_44, i1, i2, if_true]
    rcases hK s (by omega) with h | ⟨-, ⟨h1, h2⟩ | h1⟩
    · exact absurd h hz
    · rw [h1, if_neg (by decide)]
      exact ⟨0, M, rfl, KF.rf M, hK, Or.inr ⟨rfl, h2⟩⟩
    · rw [h1]
      by_cases h0 : cntS n K tb s = 0
      · rw [h0, if_pos (show nI 0 = 0 from rfl)]
        exact ⟨1, M, rfl, KF.rf M, hK, Or.inl ⟨rfl, rfl⟩⟩
      · rw [if_neg (nI_ne0 (by omega) (by omega))]
        exact ⟨0, M, rfl, KF.rf M, hK, Or.inr ⟨rfl, by omega⟩⟩
theorem first_c (hW : LW n K P tb) (hC : LC 1 n K P tb M) (hK : C10 n K tb M) (hs : s < 2 ^ n) : ∃ x M', F_148 (nI s) M = some (x, M') ∧ KF M M' ∧ C10 n K tb M' ∧ ((x = 1 ∧ ∃ r, Fst (UD n K tb s tt2) (AD n K tb s tt2) 4095 r ∧ ∀ k, k < 12 → M' 54 k = nI (r k)) ∨ (x = 0 ∧ ∀ q, ¬ PCn (UD n K tb s tt2) (AD n K tb s tt2) 4095 12 q)) := by
  have hp := pw_8 hW.1
  obtain ⟨x, M1, a1, a2, a3, a4⟩ := out_c hW hC hK hs
  unfold F_148
  rw [a1]
  dsimp only
  rcases a4 with ⟨rfl, h0⟩ | ⟨rfl, hpos⟩
  · refine ⟨0, M1, by rw [if_neg one_ne], a2, a3, Or.inr ⟨rfl, fun q hq => ?_⟩⟩
    have := (cnt_pos hW).mpr ⟨q, hq⟩
    omega
  · obtain ⟨M2, x, M3, b1, b2, b3, b4, b5⟩ := tf_c hW (a2.LC hW.1 hC) (show s < 256 by omega)
    refine ⟨x, M3, ?_, a2.tr b3, fun s' hs' => by rw [b4]; exact a3 s' hs', b5⟩
    simp only [if_true, b1, b2]
theorem some_r (hW : LW n K P tb) (hC : LQ 78 n K P tb M) (hT : C11 M) (hs : s < 256) : ∃ x M', F_207 (nI s) M = some (x, M') ∧ Chg 87 89 M M' ∧ ((x = 1 ∧ ∃ r, Fst (UD n K tb s tt2) (AD n K tb s tt2) 4095 r ∧ ∀ k, k < 12 → M' 89 k = nI (r k)) ∨ (x = 0 ∧ ∀ q, ¬ PCn (UD n K tb s tt2) (AD n K tb s tt2) 4095 12 q)) := by
  obtain ⟨M1, a1, a2, a3⟩ := gather_r hW hC hT hs
  obtain ⟨x, M2, b1, b2, b3⟩ := sk0 (H := 4095) (by decide) a3
  unfold F_207
  rw [a1]
  dsimp only
  rw [show K_206 0 4095 M1 = _ from b1]
  refine ⟨x, M2, rfl, (a2.wk (by decide) (by decide)).tr (b2.wk (by decide) (by decide)), ?_⟩
  rcases b3 with ⟨rfl, r, hr, hm⟩ | ⟨rfl, hno⟩
  · exact Or.inl ⟨rfl, r, hr, fun k hk => hm k hk (t4095 k hk)⟩
  · exact Or.inr ⟨rfl, hno⟩
end OUT
theorem Iv.kf {n : Nat} {K P : Nat → Nat} {tb : Nat → Nat → Nat} {q : Nat → Nat} {M M' : IM} (h : Iv n K P tb q M) (hk : KF M M') (h10 : C10 n K tb M') : Iv n K P tb q M' := h.a10 hk.x h10
theorem hi43 {M M1 : IM} (h : ∀ k j, 77 ≤ k → M1 k j = M k j) (e : Nat) (x : Int32) : ∀ k j, 77 ≤ k → (iset M1 43 e x) k j = M k j := fun k j hk => (iset_k (by omega)).trans (h k j hk)
theorem B_find (a b : Int32) : Both (F_107 a b) (F_208 a b) := by
  intro M hI
  obtain ⟨n, K, P, tb, q, hV⟩ := id hI
  have hW := hV.1.1
  have hT := hV.2.2.2.2.2.2.2.2.2
  rcases ckS hV.1 a with ⟨s, hs, hs2, rfl, e1, e2⟩ | ⟨e1, e2⟩
  · rcases ck_5 b with ⟨h, hh, rfl, f1, f2⟩ | ⟨f1, f2⟩
    · obtain ⟨x, M1, a1, a2, a3, a4⟩ := first_c hW hV.1.2.1 hV.2.2.2.2.2.2.2.2.1 hs
      have hV1 : Iv n K P tb q M1 := hV.kf a2 a3
      rcases a4 with ⟨rfl, r, hr, hm⟩ | ⟨rfl, hno⟩
      · obtain ⟨y, M2, b1, b2, b3⟩ := some_r (s := s) hW hV1.1.2.2 hV1.2.2.2.2.2.2.2.2.2 hs2
        rcases b3 with ⟨rfl, r2, hr2, hm2⟩ | ⟨rfl, hno⟩
        · refine ⟨nI (r h), M1, M2, ?_, ?_, n, K, P, tb, q, hV1.a0 ((b2.wk (by decide) (by decide)).r)⟩
          · simp only [F_107, e1, f1, one_ne, if_false, a1]
            simp (disch := omega) only [inb_nI, ni_cl, if_pos, if_neg, if_true, if_false, hm h hh]
          · simp only [F_208, e2 M1 a2.hi, f2, one_ne, if_false, b1]
            simp (disch := omega) only [inb_nI, ni_cl, if_pos, if_neg, if_true, if_false, hm2 h hh, hr.uq hr2 h hh (t4095 h hh)]
        · exact absurd hr.1 (hno r)
      · have dc : F_107 (nI s) (nI h) M = some (-1000002, iset M1 43 2 (M1 43 2 + 1)) := by
          simp only [F_107, e1, f1, one_ne, if_false, a1, if_true, Rf2]
        have hq := hV1.1.2.2.cg hW.1 (M' := iset M1 43 2 (M1 43 2 + 1)) (fun j _ => iset_k (by decide))
        have hq11 := hV1.2.2.2.2.2.2.2.2.2.cg (M' := iset M1 43 2 (M1 43 2 + 1)) (fun k j h1 h2 => iset_k (by omega))
        obtain ⟨y, M2, b1, b2, b3⟩ := some_r (s := s) hW hq hq11 hs2
        rcases b3 with ⟨rfl, r2, hr2, hm2⟩ | ⟨rfl, -⟩
        · exact absurd hr2.1 (hno r2)
        · refine ⟨-1000002, _, _, dc, ?_, hV1.rfs (e := 2) (agx.rf 0 M1) ((b2.wk (by decide) (by decide)).r) (by decide)⟩
          simp only [F_208, e2 _ (hi43 a2.hi 2 (M1 43 2 + 1)), f2, one_ne, if_false, b1, if_true, Rg2]
    · refine rfu1 hI ?_ (fun M1 hM1 => ?_)
      · simp only [F_107, e1, f1, one_ne, if_false, if_true, J_107_15, Rf1]
      · simp only [F_208, e2 M1 hM1, f2, one_ne, if_false, if_true, J_208_15, Rg1]
  · refine rfu1 hI ?_ (fun M1 hM1 => ?_)
    · simp only [F_107, e1, if_true, J_107_15, Rf1]
    · simp only [F_208, e2 M1 hM1, if_true, J_208_15, Rg1]
theorem wr_r {r : Nat → Nat} {M : IM} (hr : ∀ h, h < 12 → 1 ≤ r h ∧ r h ≤ 3 ∧ M 89 h = nI (r h)) : ∃ y, L_209_34 0 0 M = some (nI (both r 12), y, wr M 78 10 22 (fun j => nI (r (j - 10)))) := by
  unfold L_209_34
  have g := loopI (B := B_209_34) (fun k => (nI (both r k), nI k, wr M 78 10 (10 + k) (fun j => nI (r (j - 10))))) (r := (nI (both r 12), nI 12, wr M 78 10 (10 + 12) (fun j => nI (r (j - 10))))) 12 (by decide) (fun k hk => by
    obtain ⟨a1, a2, a3⟩ := hr k hk
    have e : both r (k + 1) = both r k + (if r k = 3 then 1 else 0) := rfl
    have hd := both_le r k
    unfold B_209_34 J_209_71_34
    dsimp only
    rw [e]
    simp (disch := omega) only [lit_nI, ni_lei, inb_nI, ni_cl, ni_add, if_pos, if_neg, if_true, if_false, wr_k, iset_same, iset_k, iset_j, a3, ni_eqi]
    rw [wr_s (by omega) (by rw [Nat.add_sub_cancel_left])]
    by_cases h3 : r k = 3
    · simp (disch := omega) only [if_pos, if_neg, if_true, if_false]; rfl
    · simp (disch := omega) only [if_pos, if_neg, if_true, if_false]; rfl) rfl
  exact ⟨nI 12, by rw [show ((0 : Int32), (0 : Int32), M) = (nI (both r 0), nI 0, wr M 78 10 (10 + 0) (fun j => nI (r (j - 10)))) by rw [Nat.add_zero, wr_0]; rfl, g]⟩
theorem both_cg {r q : Nat → Nat} : ∀ {n : Nat}, (∀ k, k < n → r k = q k) → both r n = both q n := fun h => sumT_cg (fun k hk => by rw [h k hk])
theorem B_write (a : Int32) : Both (F_108 a) (F_209 a) := by
  intro M hI
  obtain ⟨n, K, P, tb, q, hV⟩ := id hI
  have hW := hV.1.1
  rcases ckS hV.1 a with ⟨s, hs, hs2, rfl, e1, e2⟩ | ⟨e1, e2⟩
  · obtain ⟨x, M1, a1, a2, a3, a4⟩ := first_c hW hV.1.2.1 hV.2.2.2.2.2.2.2.2.1 hs
    have hV1 : Iv n K P tb q M1 := hV.kf a2 a3
    rcases a4 with ⟨rfl, r, hr, hm⟩ | ⟨rfl, hno⟩
    · have rr : ∀ h, h < 12 → 1 ≤ r h ∧ r h ≤ 3 := fun h hh => ⟨(hr.1 h hh (t4095 h hh)).1, (hr.1 h hh (t4095 h hh)).2.1⟩
      generalize hN : wr M1 2 0 12 (fun j => M1 54 j) = N
      have hic : icpy M1 54 (0 : Int32).toNatClampNeg 2 (0 : Int32).toNatClampNeg (12 : Int32).toNatClampNeg = N := by
        rw [show (0 : Int32).toNatClampNeg = 0 from rfl, show (12 : Int32).toNatClampNeg = 12 from rfl, icpy_wr, ← hN]
        simp only [Nat.zero_add, Nat.sub_zero]
      have n1 : ∀ h, h < 12 → N 2 h = nI (r h) := fun h hh => by rw [← hN, wr_in (Nat.zero_le _) hh, hm h hh]
      have n2 : ∀ k j, k ≠ 2 → N k j = M1 k j := fun k j hk => by rw [← hN, wr_k hk]
      have hNhi : ∀ k j, 77 ≤ k → N k j = M k j := fun k j hk => (n2 k j (by omega)).trans (a2.hi k j hk)
      have dc : F_108 (nI s) M = some (nI (both r 12), N) := by
        simp only [F_108, e1, one_ne, if_false, a1, hic, both_c (t := 1) (q := r) (M := N) (fun h hh => ⟨(rr h hh).1, (rr h hh).2, n1 h hh⟩)]
      obtain ⟨y, M2, b1, b2, b3⟩ := some_r (s := s) (M := N) hW (hV1.1.2.2.cg hW.1 (fun j _ => n2 78 j (by decide))) (hV1.2.2.2.2.2.2.2.2.2.cg (fun k j h1 h2 => n2 k j (by omega))) hs2
      rcases b3 with ⟨rfl, r2, hr2, hm2⟩ | ⟨rfl, hno⟩
      · have er := hr.uq hr2
        obtain ⟨z, hz⟩ := wr_r (r := r2) (M := M2) (fun h hh => ⟨by rw [← er h hh (t4095 h hh)]; exact (rr h hh).1, by rw [← er h hh (t4095 h hh)]; exact (rr h hh).2, hm2 h hh⟩)
        refine ⟨nI (both r 12), N, wr M2 78 10 22 (fun j => nI (r2 (j - 10))), dc, ?_, n, K, P, tb, r, hV1.a2 (fun k j u1 u2 => ?_) (fun h hh => ?_)⟩
        · simp only [F_209, e2 N hNhi, one_ne, if_false, b1, hz, both_cg (n := 12) (fun k hk => er k hk (t4095 k hk))]
        · have u3 : ¬ (k = 2 ∨ (k = 78 ∧ 10 ≤ j ∧ j < 22)) := fun z => u2 (cid2 z)
          have u4 : ¬ (87 ≤ k ∧ k ≤ 89) := fun z => u1 (cid0b (by omega) j)
          rw [wr_eq, if_neg (by omega), b2 _ _ u4, n2 _ _ (by omega)]
        · refine ⟨(rr h hh).1, (rr h hh).2, ?_, ?_⟩
          · rw [wr_k (by decide), b2 _ _ (by omega), n1 h hh]
          · rw [wr_in (by omega) (by omega), Nat.add_sub_cancel_left, er h hh (t4095 h hh)]
      · exact absurd hr.1 (hno r)
    · have dc : F_108 (nI s) M = some (-1000002, iset M1 43 2 (M1 43 2 + 1)) := by
        simp only [F_108, e1, one_ne, if_false, a1, if_true, Rf2]
      have hq := hV1.1.2.2.cg hW.1 (M' := iset M1 43 2 (M1 43 2 + 1)) (fun j _ => iset_k (by decide))
      have hq11 := hV1.2.2.2.2.2.2.2.2.2.cg (M' := iset M1 43 2 (M1 43 2 + 1)) (fun k j h1 h2 => iset_k (by omega))
      obtain ⟨y, M2, b1, b2, b3⟩ := some_r (s := s) hW hq hq11 hs2
      rcases b3 with ⟨rfl, r2, hr2, hm2⟩ | ⟨rfl, -⟩
      · exact absurd hr2.1 (hno r2)
      · refine ⟨-1000002, _, _, dc, ?_, hV1.rfs (e := 2) (agx.rf 0 M1) ((b2.wk (by decide) (by decide)).r) (by decide)⟩
        simp only [F_209, e2 _ (hi43 a2.hi 2 (M1 43 2 + 1)), one_ne, if_false, b1, if_true, Rg2]
  · refine rfu1 hI ?_ (fun M1 hM1 => ?_)
    · simp only [F_108, e1, if_true, Rf1]
    · simp only [F_209, e2 M1 hM1, if_true, Rg1]
/-! learn -/
theorem ln_c {w : Nat} {r : Nat → Nat} {M : IM} (hw : w ≤ 20) (hr : ∀ k, k < 12 → M 54 k = nI (r k)) : ∃ x, (match L_129_46 (nI w) M 0 with | none => none | some (.inl x3_10) => (some ((0, M))) | some (.inr q) => some (q)) = some (x, M) ∧ FBi (fun j => j < 12 ∧ M 5 j = nI (r j)) w (x - 1) := by
  rcases FBcase (fun j => j < 12 ∧ M 5 j = nI (r j)) w with h | ⟨i, hi, h1, h2⟩
  · have l : L_129_46 (nI w) M 0 = some (.inl (nI w)) := loopI (B := B_129_46 (nI w) M) (fun k => nI k) w (by omega) (fun k hk => by
      obtain ⟨k1, k2⟩ := h k hk
      unfold B_129_46
      simp (disch := omega) only [lit_nI, ni_lei, inb_nI, ni_cl, if_pos, if_neg, if_true, if_false, hr k k1, k2, ni_add]) (by
      unfold B_129_46
      simp (disch := omega) only [ni_lei, if_pos, if_neg, if_true, if_false])
    rw [l]
    exact ⟨0, rfl, Or.inl ⟨rfl, h⟩⟩
  · have l : L_129_46 (nI w) M 0 = some (.inr (nI (i + 1), M)) := loopI (B := B_129_46 (nI w) M) (fun k => nI k) i (by omega) (fun k hk => by
      obtain ⟨k1, k2⟩ := h2 k hk
      unfold B_129_46
      simp (disch := omega) only [lit_nI, ni_lei, inb_nI, ni_cl, if_pos, if_neg, if_true, if_false, hr k k1, k2, ni_add]) (by
      unfold B_129_46
      by_cases h12 : i < 12
      · have hne : ¬ M 5 i = nI (r i) := fun z => h1 ⟨h12, z⟩
        simp (disch := omega) only [lit_nI, ni_lei, inb_nI, ni_cl, if_pos, if_neg, hr i h12, hne, if_false, ni_add]
      · simp (disch := omega) only [lit_nI, ni_lei, if_pos, if_neg, if_true, if_false, ni_add])
    rw [l]
    refine ⟨nI (i + 1), rfl, Or.inr ⟨i, hi, ?_, h1, h2⟩⟩
    exact ni_sub (a := i + 1) (b := 1) (by omega)
theorem ln_r {w : Nat} {r : Nat → Nat} {M : IM} (hw : w ≤ 20) (hr : ∀ k, k < 12 → M 89 k = nI (r k)) : ∃ x, (match L_249_46 (nI w) M 0 with | none => none | some (.inl x3_10) => (some ((0, M))) | some (.inr q) => some (q)) = some (x, M) ∧ FBi (fun j => j < 12 ∧ M 78 (90 + j) = nI (r j)) w (x - 1) := by
  rcases FBcase (fun j => j < 12 ∧ M 78 (90 + j) = nI (r j)) w with h | ⟨i, hi, h1, h2⟩
  · have l : L_249_46 (nI w) M 0 = some (.inl (nI w)) := loopI (B := B_249_46 (nI w) M) (fun k => nI k) w (by omega) (fun k hk => by
      obtain ⟨k1, k2⟩ := h k hk
      unfold B_249_46
      simp (disch := omega) only [lit_nI, ni_lei, inb_nI, ni_add, ni_cl, if_pos, if_neg, if_true, if_false, hr k k1, k2]) (by
      unfold B_249_46
      simp (disch := omega) only [ni_lei, if_pos, if_neg, if_true, if_false])
    rw [l]
    exact ⟨0, rfl, Or.inl ⟨rfl, h⟩⟩
  · have l : L_249_46 (nI w) M 0 = some (.inr (nI (1 + i), M)) := loopI (B := B_249_46 (nI w) M) (fun k => nI k) i (by omega) (fun k hk => by
      obtain ⟨k1, k2⟩ := h2 k hk
      unfold B_249_46
      simp (disch := omega) only [lit_nI, ni_lei, inb_nI, ni_add, ni_cl, if_pos, if_neg, if_true, if_false, hr k k1, k2]) (by
      unfold B_249_46
      by_cases h12 : i < 12
      · have hne : ¬ M 78 (90 + i) = nI (r i) := fun z => h1 ⟨h12, z⟩
        simp (disch := omega) only [lit_nI, ni_lei, inb_nI, ni_add, ni_cl, if_pos, if_neg, hr i h12, hne, if_false]
      · simp (disch := omega) only [lit_nI, ni_lei, if_pos, if_neg, if_true, if_false, ni_add])
    rw [l]
    refine ⟨nI (1 + i), rfl, Or.inr ⟨i, hi, ?_, h1, h2⟩⟩
    rw [Nat.add_comm]
    exact ni_sub (a := i + 1) (b := 1) (by omega)
theorem FBi.cg {p q : Nat → Prop} {N : Nat} {x : Int32} (h : FBi p N x) (e : ∀ i, i < N → (p i ↔ q i)) : FBi q N x := by
  rcases h with ⟨h1, h2⟩ | ⟨i, h1, h2, h3, h4⟩
  · exact Or.inl ⟨h1, fun i hi => (e i hi).mp (h2 i hi)⟩
  · exact Or.inr ⟨i, h1, h2, fun z => h3 ((e i h1).mpr z), fun j hj => (e j (by omega)).mp (h4 j hj)⟩
theorem sub1_inj {x y : Int32} (h : x - 1 = y - 1) : x = y := by
  have := congrArg (· + 1) h
  simpa using this
theorem B_learn (a : Int32) : Both (F_129 a) (F_249 a) := by
  intro M hI
  obtain ⟨n, K, P, tb, q, hV⟩ := id hI
  have hW := hV.1.1
  obtain ⟨w, w1, w2, w3, w4⟩ := hV.2.2.2.1
  have w3' : M 78 (2 : Int32).toNatClampNeg = nI w := w3
  generalize hN : iset M 1 6 0 = N
  have n1 : ∀ k j, ¬ (k = 1 ∧ j = 6) → N k j = M k j := fun k j hk => by rw [← hN, iset_eq, if_neg hk]
  have hC1 : C1 n K P tb N := hV.1.ag (fun k j hk => n1 k j (fun z => by obtain ⟨rfl, rfl⟩ := z; exact absurd hk (by decide)))
  have hC11 : C11 N := hV.2.2.2.2.2.2.2.2.2.cg (fun k j h1 h2 => n1 k j (by omega))
  have hC10 : C10 n K tb N := hV.2.2.2.2.2.2.2.2.1.ag (fun k j hk => n1 k j (fun z => by obtain ⟨rfl, rfl⟩ := z; exact absurd hk (by decide)))
  -- the reference's own first step, over what the other side has left
  have fin : ∀ M1 M2 : IM, KF N M1 → C10 n K tb M1 → Chg 87 89 (iset M1 78 2 0) M2 → Iv n K P tb q M2 := fun M1 M2 h1 h10 h2 => by
    have hx : ∀ k j, cid k j ≠ 0 → cid k j ≠ 4 → cid k j ≠ 10 → M2 k j = M k j := fun k j u1 u2 u3 => by
      have u4 : ¬ ((k = 1 ∧ j = 6) ∨ k = 5 ∨ (k = 78 ∧ (j = 2 ∨ (90 ≤ j ∧ j < 110)))) := fun z => u2 (cid4 z)
      have u5 : ¬ (87 ≤ k ∧ k ≤ 89) := fun z => u1 (cid0b (by omega) j)
      have u6 : ¬ ((50 ≤ k ∧ k ≤ 61) ∨ k = 68) := fun z => by
        rcases z with z | z
        · exact u1 (cid0a (by omega) j)
        · exact u3 (cid10 z)
      rw [h2 _ _ u5, iset_eq, if_neg (by omega), h1 _ _ u6, n1 _ _ (by omega)]
    obtain ⟨k1, k2, k3, k4, k5, k7, k8, k9, k10, k11⟩ := hV
    have ga : ∀ c, c ≠ 0 → c ≠ 4 → c ≠ 10 → ag c M M2 := fun c c0 c4 c10 k j e => hx k j (by omega) (by omega) (by omega)
    refine ⟨k1.ag (ga 1 (by decide) (by decide) (by decide)), C2.ag k2 (ga 2 (by decide) (by decide) (by decide)), C3.ag k3 (ga 3 (by decide) (by decide) (by decide)), ⟨0, by decide, ?_, ?_, fun j hj => absurd hj (Nat.not_lt_zero _)⟩, k5.ag (ga 5 (by decide) (by decide) (by decide)), k7.ag (ga 7 (by decide) (by decide) (by decide)), k8.ag (ga 8 (by decide) (by decide) (by decide)), k9.ag (ga 9 (by decide) (by decide) (by decide)), fun s' hs' => ?_, k11.ag (ga 11 (by decide) (by decide) (by decide))⟩
    · rw [h2 _ _ (by omega), iset_k (by decide), h1 _ _ (by omega), ← hN, iset_same]; rfl
    · rw [h2 _ _ (by omega), iset_same]; rfl
    · rw [h2 _ _ (by omega), iset_k (by decide)]; exact h10 s' hs'
  have zz : ∀ M1 : IM, iset M1 78 (2 : Int32).toNatClampNeg 0 = iset M1 78 2 0 := fun _ => rfl
  have ck := ckS hC1 a
  have h78 : ∀ M1 : IM, (∀ k j, 77 ≤ k → M1 k j = M k j) → F_161 a (iset M1 78 2 0) = F_161 a N := fun M1 h => by
    unfold F_161; rw [iset_j (by decide), h _ _ (by decide), n1 _ _ (by omega)]
  have e161 : ∀ v, F_161 a N = v → ∀ M1 : IM, (∀ k j, 77 ≤ k → M1 k j = M k j) → F_161 a (iset M1 78 2 0) = v := fun v hv M1 h => by rw [h78 M1 h, hv]
  have hNhi : ∀ k j, 77 ≤ k → N k j = M k j := fun k j hk => n1 k j (by omega)
  rcases ck with ⟨s, hs, hs2, rfl, e1, e2⟩ | ⟨e1, e2⟩
  · have e2' := e161 1 (e2 N (fun _ _ _ => rfl))
    obtain ⟨x, M1, a1, a2, a3, a4⟩ := first_c hW hC1.2.1 hC10 hs
    have hM1hi : ∀ k j, 77 ≤ k → M1 k j = M k j := fun k j hk => (a2.hi k j hk).trans (hNhi k j hk)
    rcases a4 with ⟨rfl, r, hr, hm⟩ | ⟨rfl, hno⟩
    · obtain ⟨v, c1, c2⟩ := ln_c (w := w) (r := r) (M := M1) w1 hm
      have dc : F_129 (nI s) M = some (v, M1) := by
        simp only [F_129, hN, e1, one_ne, if_false, a1, w2]
        exact c1
      obtain ⟨y, M2, b1, b2, b3⟩ := some_r (s := s) (M := iset M1 78 2 0) hW (hV.1.2.2.cg hW.1 (fun j hj => by rw [iset_j (by omega)]; exact hM1hi 78 j (by decide))) (hV.2.2.2.2.2.2.2.2.2.cg (fun k j h1 h2 => by rw [iset_k (by omega)]; exact hM1hi k j (by omega))) hs2
      rcases b3 with ⟨rfl, r2, hr2, hm2⟩ | ⟨rfl, hno⟩
      · obtain ⟨v2, d1, d2⟩ := ln_r (w := w) (r := r2) (M := M2) w1 hm2
        have hv : v = v2 := sub1_inj (c2.uq (d2.cg (fun j hj => by
          rw [b2 _ _ (by omega), iset_j (by omega), hM1hi _ _ (by decide), a2 _ _ (by omega), n1 _ _ (by omega), ← w4 j hj]
          constructor
          · rintro ⟨z1, z2⟩; exact ⟨z1, by rw [hr.uq hr2 j z1 (t4095 j z1)]; exact z2⟩
          · rintro ⟨z1, z2⟩; exact ⟨z1, by rw [← hr.uq hr2 j z1 (t4095 j z1)]; exact z2⟩)))
        subst hv
        refine ⟨v, M1, M2, dc, ?_, n, K, P, tb, q, fin M1 M2 a2 a3 b2⟩
        have w3m : M1 78 (2 : Int32).toNatClampNeg = nI w := (hM1hi 78 _ (by decide)).trans w3'
        simp only [F_249, e2' M1 hM1hi, one_ne, if_false, zz, b1, w3m]
        exact d1
      · exact absurd hr.1 (hno r)
    · have dc : F_129 (nI s) M = some (-1000002, iset M1 43 2 (M1 43 2 + 1)) := by
        simp only [F_129, hN, e1, one_ne, if_false, a1, if_true, Rf2]
      have hM1' := hi43 hM1hi 2 (M1 43 2 + 1)
      generalize hL : iset M1 43 2 (M1 43 2 + 1) = L at dc hM1'
      obtain ⟨y, M2, b1, b2, b3⟩ := some_r (s := s) (M := iset L 78 2 0) hW (hV.1.2.2.cg hW.1 (fun j hj => by rw [iset_j (by omega)]; exact hM1' 78 j (by decide))) (hV.2.2.2.2.2.2.2.2.2.cg (fun k j h1 h2 => by rw [iset_k (by omega)]; exact hM1' k j (by omega))) hs2
      rcases b3 with ⟨rfl, r2, hr2, hm2⟩ | ⟨rfl, -⟩
      · exact absurd hr2.1 (hno r2)
      · refine ⟨-1000002, L, iset M2 80 2 (M2 80 2 + 1), dc, by simp only [F_249, e2' L hM1', one_ne, if_false, zz, b1, if_true, Rg2], ?_⟩
        have hf := fin M1 (iset M1 78 2 0) a2 a3 (Chg.rf _ _ _)
        refine hf.rfs (M1 := iset M1 78 2 0) (e := 2) (agx.rf 0 _) ?_ (by decide)
        have : iset (iset M1 78 2 0) 43 2 ((iset M1 78 2 0) 43 2 + 1) = iset L 78 2 0 := by
          rw [← hL]
          funext k j
          simp only [iset_eq]
          by_cases g1 : k = 43 ∧ j = 2
          · rw [if_pos g1, if_neg (by omega), if_neg (by omega), if_pos g1]
          · rw [if_neg g1]
            by_cases g2 : k = 78 ∧ j = 2
            · rw [if_pos g2, if_pos g2]
            · rw [if_neg g2, if_neg g2, if_neg g1]
        rw [this]
        exact (b2.wk (by decide) (by decide)).r
  · have e2' := e161 0 (e2 N (fun _ _ _ => rfl))
    have dc : F_129 a M = some (-1000001, iset N 43 1 (N 43 1 + 1)) := by
      simp only [F_129, hN, e1, if_true, Rf1]
    have hN' := hi43 hNhi 1 (N 43 1 + 1)
    generalize hL : iset N 43 1 (N 43 1 + 1) = L at dc hN'
    refine ⟨-1000001, L, iset (iset L 78 2 0) 80 1 ((iset L 78 2 0) 80 1 + 1), dc, by simp only [F_249, e2' L hN', if_true, zz, Rg1], ?_⟩
    have hf := fin N (iset N 78 2 0) (KF.rf N) hC10 (Chg.rf _ _ _)
    refine hf.rfs (M1 := iset N 78 2 0) (e := 1) (agx.rf 0 _) ?_ (by decide)
    have : iset (iset N 78 2 0) 43 1 ((iset N 78 2 0) 43 1 + 1) = iset L 78 2 0 := by
      rw [← hL]
      funext k j
      simp only [iset_eq]
      by_cases g1 : k = 43 ∧ j = 1
      · rw [if_pos g1, if_neg (by omega), if_neg (by omega), if_pos g1]
      · rw [if_neg g1]
        by_cases g2 : k = 78 ∧ j = 2
        · rw [if_pos g2, if_pos g2]
        · rw [if_neg g2, if_neg g2, if_neg g1]
    rw [this]
    exact agx.rf 0 _
