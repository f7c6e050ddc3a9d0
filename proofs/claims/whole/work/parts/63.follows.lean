/-! what follows -/
theorem sumO_mono {f g : (Nat → Nat) → Nat} : ∀ (L : List Nat) (r : Nat → Nat), (∀ q, xt L r q → f q ≤ g q) → sumO L r f ≤ sumO L r g
  | [], r, h => h r ⟨fun _ _ => rfl, fun k hk => by cases hk⟩
  | a :: t, r, h => by
    have h1 := sumO_mono t (updN r a 1) (fun q hq => h q (hq.up (by decide) (by decide)))
    have h2 := sumO_mono t (updN r a 2) (fun q hq => h q (hq.up (by decide) (by decide)))
    have h3 := sumO_mono t (updN r a 3) (fun q hq => h q (hq.up (by decide) (by decide)))
    simp only [sumO]
    omega
theorem sumO_eq {f g : (Nat → Nat) → Nat} : ∀ (L : List Nat) (r : Nat → Nat), (∀ q, xt L r q → f q ≤ g q) → sumO L r f = sumO L r g → ∀ q, xt L r q → f q = g q
  | [], r, h, e, q, hq => by
    have : q = r := funext (fun k => hq.1 k (by intro z; cases z))
    rw [this]; exact e
  | a :: t, r, h, e, q, hq => by
    have key : ∃ c, 1 ≤ c ∧ c ≤ 3 ∧ xt t (updN r a c) q := by
      by_cases e : a ∈ t
      · refine ⟨1, by decide, by decide, fun k hk => ?_, fun k hk => hq.2 k (List.mem_cons_of_mem _ hk)⟩
        have ne : k ≠ a := fun z => hk (by rw [z]; exact e)
        rw [updN_n ne]
        exact hq.1 k (fun z => by rcases List.mem_cons.mp z with y | y; · exact ne y
                                  · exact hk y)
      · refine ⟨q a, (hq.2 a List.mem_cons_self).1, (hq.2 a List.mem_cons_self).2, fun k hk => ?_, fun k hk => hq.2 k (List.mem_cons_of_mem _ hk)⟩
        by_cases ne : k = a
        · rw [ne, updN_s]
        · rw [updN_n ne]
          exact hq.1 k (fun z => by rcases List.mem_cons.mp z with y | y; · exact ne y
                                    · exact hk y)
    obtain ⟨c, c1, c3, hx⟩ := key
    have u1 : ∀ q, xt t (updN r a 1) q → f q ≤ g q := fun q hq => h q (hq.up (by decide) (by decide))
    have u2 : ∀ q, xt t (updN r a 2) q → f q ≤ g q := fun q hq => h q (hq.up (by decide) (by decide))
    have u3 : ∀ q, xt t (updN r a 3) q → f q ≤ g q := fun q hq => h q (hq.up (by decide) (by decide))
    have h1 := sumO_mono t (updN r a 1) u1
    have h2 := sumO_mono t (updN r a 2) u2
    have h3 := sumO_mono t (updN r a 3) u3
    simp only [sumO] at e
    have : c = 1 ∨ c = 2 ∨ c = 3 := by omega
    rcases this with rfl | rfl | rfl
    · exact sumO_eq t _ u1 (by omega) q hx
    · exact sumO_eq t _ u2 (by omega) q hx
    · exact sumO_eq t _ u3 (by omega) q hx
section FOL
variable {n s l : Nat} {K P : Nat → Nat} {tb : Nat → Nat → Nat} {q : Nat → Nat} {M : IM}
theorem cnt_eq {t : Nat} (hW : LW n K P tb) (hst : ∀ r, fitsS n K tb t r → fitsS n K tb s r) : cntS n K tb s = cntS n K tb t ↔ ∀ r, PCn (UD n K tb s tt2) (AD n K tb s tt2) 4095 12 r → fitsS n K tb t r := by
  have le : ∀ r, chi (fitsS n K tb t r) ≤ chi (fitsS n K tb s r) := fun r => by
    by_cases h : fitsS n K tb t r
    · rw [chi_t h, chi_t (hst r h)]; exact Nat.le_refl _
    · rw [chi_f h]; exact Nat.zero_le _
  constructor
  · intro e r hr
    obtain ⟨h1, h2⟩ := (sol_iff hW).mp hr
    obtain ⟨R, e4, e5⟩ : ∃ R : Nat → Nat, (∀ k, k < 12 → R k = r k) ∧ ∀ k, ¬ k < 12 → R k = 1 := ⟨fun k => if k < 12 then r k else 1, fun k hk => if_pos hk, fun k hk => if_neg hk⟩
    have hx : xt all12 (fun _ => 1) R := ⟨fun k hk => e5 k (fun z => hk ((mem12 k).mpr z)), fun k hk => by
      have hk := (mem12 k).mp hk
      rw [e4 k hk]; exact h1 k hk⟩
    have hR : fitsS n K tb s R := fitsS_cg hW (fun k hk => (e4 k hk).symm) h2
    have := sumO_eq all12 (fun _ => 1) (fun q _ => le q) e.symm R hx
    rw [chi_t hR] at this
    have hT : fitsS n K tb t R := chi_pos.mp (by omega)
    exact fitsS_cg hW e4 hT
  · intro h
    unfold cntS
    apply sumO_cg
    intro r hr
    have rg := xt12 hr
    by_cases hs : fitsS n K tb s r
    · rw [chi_t hs, chi_t (h r ((sol_iff hW).mpr ⟨rg, hs⟩))]
    · rw [chi_f hs, chi_f (fun z => hs (hst r z))]
def fol (n : Nat) (K : Nat → Nat) (tb : Nat → Nat → Nat) (s l : Nat) : Prop := ∀ r, PCn (UD n K tb s tt2) (AD n K tb s tt2) 4095 12 r → keeps K tb l r
theorem b1l : ∀ k, k < 8 → ∀ j, j < 8 → (1 <<< k).testBit j = decide (j = k) := by decide
theorem fits_or {t : Nat} {r : Nat → Nat} : fitsS n K tb (s ||| t) r ↔ fitsS n K tb s r ∧ fitsS n K tb t r := by
  constructor
  · intro z
    exact ⟨fun l hl hb => z l hl (by rw [Nat.testBit_or, hb]; rfl), fun l hl hb => z l hl (by rw [Nat.testBit_or, hb, Bool.or_true])⟩
  · rintro ⟨z1, z2⟩ l hl hb
    rw [Nat.testBit_or] at hb
    cases h : s.testBit l
    · rw [h, Bool.false_or] at hb; exact z2 l hl hb
    · exact z1 l hl h
theorem fits_1 {r : Nat → Nat} (hn : n ≤ 8) (hl : l < n) : fitsS n K tb (1 <<< l) r ↔ keeps K tb l r := by
  constructor
  · intro z
    exact z l hl (by rw [b1l l (by omega) l (by omega)]; exact decide_eq_true rfl)
  · intro z l' hl' hb
    rw [b1l l (by omega) l' (by omega)] at hb
    rw [of_decide_eq_true hb]; exact z
theorem or_lt2 {a b : Nat} (ha : a < 2 ^ n) (hb : b < 2 ^ n) : a ||| b < 2 ^ n := Nat.or_lt_two_pow ha hb
theorem shl_lt (hl : l < n) : 1 <<< l < 2 ^ n := by rw [Nat.one_shiftLeft]; exact Nat.pow_lt_pow_right (by decide) hl
theorem f149 (hV : Iv n K P tb q M) (hs : s < 2 ^ n) (hl : l < n) : ∃ x M', F_149 (nI s) (nI l) M = some (x, M') ∧ KF M M' ∧ Iv n K P tb q M' ∧ ((x = 1 ∧ fol n K tb s l) ∨ (x = 0 ∧ ¬ fol n K tb s l)) := by
  have hW := hV.1.1
  have hn := hW.1
  obtain ⟨M1, a1, a2, a3⟩ := f147 hV hs
  obtain ⟨M2, b1, b2, b3⟩ := f147 a3 (or_lt2 hs (shl_lt hl))
  have iff : cntS n K tb s = cntS n K tb (s ||| 1 <<< l) ↔ fol n K tb s l := by
    rw [cnt_eq hW (fun r hr => (fits_or.mp hr).1)]
    constructor
    · intro z r hr; exact (fits_1 hn hl).mp (fits_or.mp (z r hr)).2
    · intro z r hr; exact fits_or.mpr ⟨((sol_iff hW).mp hr).2, (fits_1 hn hl).mpr (z r hr)⟩
  unfold F_149
  rw [one_shl l (by omega), ni_or, a1]
  dsimp only
  rw [b1]
  dsimp only
  have c1 := cnt_lt n K tb s
  have c2 := cnt_lt n K tb (s ||| 1 <<< l)
  by_cases e : cntS n K tb s = cntS n K tb (s ||| 1 <<< l)
  · rw [if_pos (by rw [e])]
    exact ⟨1, M2, rfl, a2.tr b2, b3, Or.inl ⟨rfl, iff.mp e⟩⟩
  · rw [if_neg (fun z => e (ni_inj (by omega) (by omega) z))]
    exact ⟨0, M2, rfl, a2.tr b2, b3, Or.inr ⟨rfl, fun z => e (iff.mpr z)⟩⟩
/-! the reference -/
def fcN (b : Nat) : Nat := (match F_203 (nI b ^^^ (-1)) with | some x => x.toNatClampNeg | none => 0)
theorem fc_k : ∀ b, b < 512 → F_203 (nI b ^^^ (-1)) = some (nI (fcN b)) ∧ fcN b < 512 ∧ ∀ c, c < 3 → ∀ d, d < 3 → (fcN b).testBit (3 * c + d) = !(b.testBit (3 * d + c)) := by decide +kernel
theorem cpl_bit {b i : Nat} (hi : i < 32) : (b ^^^ 4294967295).testBit i = !(b.testBit i) := by
  rw [Nat.testBit_xor, (show ∀ j, j < 32 → (4294967295 : Nat).testBit j = true by decide) i hi, Bool.xor_true]
theorem keep_i {r : Nat → Nat} {i : Nat} (hW : LW n K P tb) (hl : l < n) (hi : i < mny (K l)) (hp : pr (K l) = false) (hr : ∀ k, k < 12 → 1 ≤ r k ∧ r k ≤ 3) : okL tb l i (r (fa (K l) i)) (r (fb (K l) i)) ↔ (rtb (K l) (tb l i)).testBit (r (fa (K l) i) - 1) = true := by
  have hk := (hW.2 l hl).1
  obtain ⟨f1, f2⟩ := fab_np _ hk hp i hi
  have hlt := fa_lt _ hk i hi
  have hb := ((hW.2 l hl).2.2 i hi).1
  obtain ⟨r1, r3⟩ := hr _ hlt
  rw [show fb (K l) i = fa (K l) i by rw [f1, f2], okL_np hW hl hi hp r1 r3 r1 r3]
  unfold rtb
  rw [hp, if_neg (by decide), rtb_np _ hb _ (by omega), show 3 * (r (fa (K l) i) - 1) = 3 * r (fa (K l) i) - 3 by omega]
def okc (K : Nat → Nat) (tb : Nat → Nat → Nat) (l i : Nat) (r : Nat → Nat) : Prop := okL tb l i (r (fa (K l) i)) (r (fb (K l) i))
theorem b230 {i : Nat} (hW : LW n K P tb) (hQ : LQ 78 n K P tb M) (hT : C11 M) (hR : RR (UD n K tb s tt2) (AD n K tb s tt2) M) (hl : l < n) (hi : i < mny (K l)) : ∃ M', Chg 87 89 M M' ∧ RR (UD n K tb s tt2) (AD n K tb s tt2) M' ∧ ((B_230_7 (nI l) (nI i, M) = some (.inl (nI (i + 1), M')) ∧ ∀ r, PCn (UD n K tb s tt2) (AD n K tb s tt2) 4095 12 r → okc K tb l i r) ∨ (B_230_7 (nI l) (nI i, M) = some (.inr (.inr (0, M'))) ∧ ∃ r, PCn (UD n K tb s tt2) (AD n K tb s tt2) 4095 12 r ∧ ¬ okc K tb l i r)) := by
  have hk := (hW.2 l hl).1
  have hn := hW.1
  have hm := mny_lt hk
  have f1 := fa_lt _ hk i hi
  have f2 := fb_lt _ hk i hi
  have hb5 := ((hW.2 l hl).2.2 i hi).1
  have ct : M 78 (110 + 32 * l + i) = nI (rtb (K l) (tb l i)) := (hQ.2 l hl).2.2 i hi
  have ix : (110 : Int32) + 32 * nI l + nI i = nI (110 + 32 * l + i) := by
    rw [show (32 : Int32) * nI l = nI (32 * l) from ni_mul 32 l, show (110 : Int32) + nI (32 * l) = nI (110 + 32 * l) from ni_add 110 _, ni_add]
  unfold B_230_7
  dsimp only
  rw [cas_ok hW hQ hT hl]
  dsimp only
  rw [if_neg (show ¬ nI (mny (K l)) ≤ nI i from nI_ge hi (by omega)), hal_ok hW hQ hT hl hi, otr_ok hW hQ hT hl hi]
  dsimp only
  rw [ix, if_pos ((inb_nI (by omega)).mpr (by omega)), ni_cl (show 110 + 32 * l + i < 2147483648 by omega), ct]
  cases hp : pr (K l)
  · -- a hall alone
    rw [if_neg (show ¬ false = true by decide), if_neg (show ¬ (0 : Int32) ≤ -1 by decide), if_pos ((inb_nI (by omega)).mpr f1), ni_cl (show fa (K l) i < 2147483648 by omega)]
    obtain ⟨m, m1, m2⟩ := hR.1 _ f1
    unfold J_230_88_7 J_230_195_7
    rw [if_neg (show ¬ (0 : Int32) ≤ -1 by decide), if_pos ((inb_nI (by omega)).mpr f1), ni_cl (show fa (K l) i < 2147483648 by omega), m1, m1_nI, ni_xor, ni_and]
    have hR2 := hR.u (h := fa (K l) i) (b := rtb (K l) (tb l i) ^^^ 4294967295) (q := fun c => ¬ (rtb (K l) (tb l i)).testBit (c - 1) = true) f1 m1 m2 (fun c c1 c3 => by
      rw [cpl_bit (by omega)]
      cases (rtb (K l) (tb l i)).testBit (c - 1) <;> decide)
    obtain ⟨x, M2, a1, a2, a3⟩ := sk0 (H := 4095) (by decide) hR2
    have a1 : K_206 0 4095 (iset M 87 (fa (K l) i) (nI (m &&& (rtb (K l) (tb l i) ^^^ 4294967295)))) = some (x, M2) := a1
    rw [a1]
    dsimp only
    rw [if_pos ((inb_nI (by omega)).mpr f1), ni_add1]
    have fr : ∀ k j, k = 87 ∨ k = 88 → (iset M2 87 (fa (K l) i) (nI m)) k j = M k j := fun k j hkk => by
      rw [iset_eq]
      by_cases z : k = 87 ∧ j = fa (K l) i
      · rw [if_pos z, z.1, z.2, m1]
      · rw [if_neg z, a2 k j (by omega), iset_eq, if_neg z]
    have ch : Chg 87 89 M (iset M2 87 (fa (K l) i) (nI m)) := fun k j hkk => by
      rw [iset_k (by omega), a2 k j (by omega), iset_k (by omega)]
    refine ⟨iset M2 87 (fa (K l) i) (nI m), ch, hR.cg fr, ?_⟩
    have iff : ∀ r, PCn (fun k c => UD n K tb s tt2 k c ∧ (k = fa (K l) i → ¬ (rtb (K l) (tb l i)).testBit (c - 1) = true)) (AD n K tb s tt2) 4095 12 r ↔ PCn (UD n K tb s tt2) (AD n K tb s tt2) 4095 12 r ∧ ¬ okc K tb l i r := by
      intro r
      have rg : ∀ U', PCn U' (AD n K tb s tt2) 4095 12 r → ∀ k, k < 12 → 1 ≤ r k ∧ r k ≤ 3 := fun U' z k hk => ⟨(z k hk (t4095 k hk)).1, (z k hk (t4095 k hk)).2.1⟩
      constructor
      · intro z
        refine ⟨fun k hk hb => ⟨(z k hk hb).1, (z k hk hb).2.1, (z k hk hb).2.2.1.1, (z k hk hb).2.2.2⟩, ?_⟩
        unfold okc
        rw [keep_i hW hl hi hp (rg _ z)]
        exact (z _ f1 (t4095 _ f1)).2.2.1.2 rfl
      · rintro ⟨z, z2⟩ k hk hb
        unfold okc at z2
        rw [keep_i hW hl hi hp (rg _ z)] at z2
        exact ⟨(z k hk hb).1, (z k hk hb).2.1, ⟨(z k hk hb).2.2.1, fun e => by rw [e]; exact z2⟩, (z k hk hb).2.2.2⟩
    rcases a3 with ⟨rfl, r, hr, -⟩ | ⟨rfl, hno⟩
    · right
      rw [if_neg one_ne]
      exact ⟨rfl, r, ((iff r).mp hr.1).1, ((iff r).mp hr.1).2⟩
    · left
      rw [if_pos rfl]
      exact ⟨rfl, fun r hr => Classical.byContradiction (fun z => hno r ((iff r).mpr ⟨hr, z⟩))⟩
  · -- a pair
    have hne := fab_ne _ hk hp i hi
    have hrt : rtb (K l) (tb l i) = tb l i := by unfold rtb; rw [hp, if_pos rfl]
    rw [hrt, if_pos rfl, if_pos (show (0 : Int32) ≤ nI (fb (K l) i) from nI_pos' (by omega))]
    have core : ∀ (a b : Nat) (y : Int32) (v : Nat), a < b → b < 12 → y = nI v → (∀ c d, 1 ≤ c → c ≤ 3 → 1 ≤ d → d ≤ 3 → (v.testBit (3 * c + d - 4) = true ↔ ¬ (if fa (K l) i = a then okL tb l i c d else okL tb l i d c))) → ((a = fa (K l) i ∧ b = fb (K l) i) ∨ (a = fb (K l) i ∧ b = fa (K l) i)) → ∃ M', Chg 87 89 M M' ∧ RR (UD n K tb s tt2) (AD n K tb s tt2) M' ∧ ((J_230_174_7 (nI l) (nI i) (M 88 (12 * a + b)) (nI (12 * a + b)) y (M 88 (12 * a + b)) (nI (12 * a + b)) M = some (.inl (nI (i + 1), M')) ∧ ∀ r, PCn (UD n K tb s tt2) (AD n K tb s tt2) 4095 12 r → okc K tb l i r) ∨ (J_230_174_7 (nI l) (nI i) (M 88 (12 * a + b)) (nI (12 * a + b)) y (M 88 (12 * a + b)) (nI (12 * a + b)) M = some (.inr (.inr (0, M'))) ∧ ∃ r, PCn (UD n K tb s tt2) (AD n K tb s tt2) 4095 12 r ∧ ¬ okc K tb l i r)) := by
      intro a b y v hab hb12 hy hv hor
      subst hy
      obtain ⟨m, m5, m1, m2⟩ := hR.2 a b hab hb12
      have hR2 := hR.a (h := a) (k := b) (b := v) (q := fun c d => ¬ (if fa (K l) i = a then okL tb l i c d else okL tb l i d c)) hab hb12 m1 m5 m2 hv
      obtain ⟨x, M2, a1, a2, a3⟩ := sk0 (H := 4095) (by decide) hR2
      have a1 : K_206 0 4095 (iset M 88 (12 * a + b) (nI (m &&& v))) = some (x, M2) := a1
      have i1 : inb (nI (12 * a + b)) 144 = true := (inb_nI (by omega)).mpr (by omega)
      have i2 : (nI (12 * a + b)).toNatClampNeg = 12 * a + b := ni_cl (by omega)
      unfold J_230_174_7 J_230_195_7
      rw [if_pos i1, i2, m1, ni_and, a1]
      dsimp only
      rw [if_pos i1, ni_add1]
      have fr : ∀ k j, k = 87 ∨ k = 88 → (iset M2 88 (12 * a + b) (nI m)) k j = M k j := fun k j hkk => by
        rw [iset_eq]
        by_cases z : k = 88 ∧ j = 12 * a + b
        · rw [if_pos z, z.1, z.2, m1]
        · rw [if_neg z, a2 k j (by omega), iset_eq, if_neg z]
      have ch : Chg 87 89 M (iset M2 88 (12 * a + b) (nI m)) := fun k j hkk => by
        rw [iset_k (by omega), a2 k j (by omega), iset_k (by omega)]
      refine ⟨iset M2 88 (12 * a + b) (nI m), ch, hR.cg fr, ?_⟩
      have iff : ∀ r, PCn (UD n K tb s tt2) (fun x y c d => AD n K tb s tt2 x y c d ∧ (x = a → y = b → ¬ (if fa (K l) i = a then okL tb l i c d else okL tb l i d c))) 4095 12 r ↔ PCn (UD n K tb s tt2) (AD n K tb s tt2) 4095 12 r ∧ ¬ okc K tb l i r := by
        intro r
        have eo : (if fa (K l) i = a then okL tb l i (r a) (r b) else okL tb l i (r b) (r a)) ↔ okc K tb l i r := by
          unfold okc
          rcases hor with ⟨z1, z2⟩ | ⟨z1, z2⟩
          · rw [if_pos z1.symm, z1, z2]
          · rw [if_neg (fun z => hne (by rw [z, z1])), z1, z2]
        constructor
        · intro z
          refine ⟨fun k hk hb => ⟨(z k hk hb).1, (z k hk hb).2.1, (z k hk hb).2.2.1, fun j hj hjb => ((z k hk hb).2.2.2 j hj hjb).1⟩, fun y => ?_⟩
          exact ((z b hb12 (t4095 b hb12)).2.2.2 a hab (t4095 a (by omega))).2 rfl rfl (eo.mpr y)
        · rintro ⟨z, z2⟩ k hk hb
          refine ⟨(z k hk hb).1, (z k hk hb).2.1, (z k hk hb).2.2.1, fun j hj hjb => ⟨(z k hk hb).2.2.2 j hj hjb, fun e1 e2 => ?_⟩⟩
          rw [e1, e2]
          exact fun y => z2 (eo.mp y)
      rcases a3 with ⟨rfl, r, hr, -⟩ | ⟨rfl, hno⟩
      · right
        rw [if_neg one_ne]
        exact ⟨rfl, r, ((iff r).mp hr.1).1, ((iff r).mp hr.1).2⟩
      · left
        rw [if_pos rfl]
        exact ⟨rfl, fun r hr => Classical.byContradiction (fun z => hno r ((iff r).mpr ⟨hr, z⟩))⟩
    by_cases hlt : fa (K l) i < fb (K l) i
    · have e1 : (bif decide (nI (fb (K l) i) < nI (fa (K l) i)) then nI (fb (K l) i) else nI (fa (K l) i)) = nI (fa (K l) i) := by
        rw [decide_eq_false (by rw [ni_lti (by omega) (by omega)]; omega)]; rfl
      have e2 : (bif decide (nI (fa (K l) i) < nI (fb (K l) i)) then nI (fb (K l) i) else nI (fa (K l) i)) = nI (fb (K l) i) := by
        rw [decide_eq_true (by rw [ni_lti (by omega) (by omega)]; exact hlt)]; rfl
      have e3 : (12 : Int32) * nI (fa (K l) i) + nI (fb (K l) i) = nI (12 * fa (K l) i + fb (K l) i) := by rw [show (12 : Int32) * nI (fa (K l) i) = nI (12 * fa (K l) i) from ni_mul 12 _, ni_add]
      unfold J_230_88_7
      rw [e1, e2, e3, if_pos ((inb_nI (by omega)).mpr (by omega)), ni_cl (show 12 * fa (K l) i + fb (K l) i < 2147483648 by omega), if_pos (show (0 : Int32) ≤ nI (fb (K l) i) from nI_pos' (by omega)), if_neg (show ¬ nI (fb (K l) i) ≤ nI (fa (K l) i) by rw [ni_lei (by omega) (by omega)]; omega)]
      exact core (fa (K l) i) (fb (K l) i) (nI (tb l i) ^^^ (-1)) (tb l i ^^^ 4294967295) hlt f2 (by rw [m1_nI, ni_xor]) (fun c d c1 c3 d1 d3 => by
        rw [cpl_bit (by omega), if_pos rfl]
        unfold okL
        cases (tb l i).testBit (3 * c + d - 4) <;> decide) (Or.inl ⟨rfl, rfl⟩)
    · have hgt : fb (K l) i < fa (K l) i := by omega
      have e1 : (bif decide (nI (fb (K l) i) < nI (fa (K l) i)) then nI (fb (K l) i) else nI (fa (K l) i)) = nI (fb (K l) i) := by
        rw [decide_eq_true (by rw [ni_lti (by omega) (by omega)]; exact hgt)]; rfl
      have e2 : (bif decide (nI (fa (K l) i) < nI (fb (K l) i)) then nI (fb (K l) i) else nI (fa (K l) i)) = nI (fa (K l) i) := by
        rw [decide_eq_false (by rw [ni_lti (by omega) (by omega)]; omega)]; rfl
      have e3 : (12 : Int32) * nI (fb (K l) i) + nI (fa (K l) i) = nI (12 * fb (K l) i + fa (K l) i) := by rw [show (12 : Int32) * nI (fb (K l) i) = nI (12 * fb (K l) i) from ni_mul 12 _, ni_add]
      obtain ⟨k1, k2, k3⟩ := fc_k (tb l i) hb5
      unfold J_230_88_7
      rw [e1, e2, e3, if_pos ((inb_nI (by omega)).mpr (by omega)), ni_cl (show 12 * fb (K l) i + fa (K l) i < 2147483648 by omega), if_pos (show (0 : Int32) ≤ nI (fb (K l) i) from nI_pos' (by omega)), if_pos (show nI (fb (K l) i) ≤ nI (fa (K l) i) by rw [ni_lei (by omega) (by omega)]; omega), k1]
      dsimp only
      exact core (fb (K l) i) (fa (K l) i) (nI (fcN (tb l i))) (fcN (tb l i)) hgt f1 rfl (fun c d c1 c3 d1 d3 => by
        have := k3 (c - 1) (by omega) (d - 1) (by omega)
        rw [show 3 * (c - 1) + (d - 1) = 3 * c + d - 4 by omega, show 3 * (d - 1) + (c - 1) = 3 * d + c - 4 by omega] at this
        rw [this, if_neg (by omega)]
        unfold okL
        cases (tb l i).testBit (3 * d + c - 4) <;> decide) (Or.inr ⟨rfl, rfl⟩)
theorem f230 (hW : LW n K P tb) (hQ : LQ 78 n K P tb M) (hT : C11 M) (hs : s < 256) (hl : l < n) : ∃ x M', F_230 (nI s) (nI l) M = some (x, M') ∧ Chg 87 89 M M' ∧ ((x = 1 ∧ fol n K tb s l) ∨ (x = 0 ∧ ¬ fol n K tb s l)) := by
  have hk := (hW.2 l hl).1
  have hn := hW.1
  have hm := mny_lt hk
  obtain ⟨M1, c1, c2, c3⟩ := gather_r (s := s) hW hQ hT hs
  obtain ⟨res, g1, g2⟩ := loopF (body := B_230_7 (nI l)) (fun i z => z.1 = nI i ∧ Chg 87 89 M z.2 ∧ RR (UD n K tb s tt2) (AD n K tb s tt2) z.2 ∧ ∀ j, j < i → ∀ r, PCn (UD n K tb s tt2) (AD n K tb s tt2) 4095 12 r → okc K tb l j r) (fun res => match res with | .inl z => Chg 87 89 M z.2 ∧ fol n K tb s l | .inr z => z.1 = 0 ∧ Chg 87 89 M z.2 ∧ ¬ fol n K tb s l) (mny (K l)) (by omega) (s := ((0 : Int32), M1)) ⟨rfl, c2.wk (by decide) (by decide), c3, fun j hj => absurd hj (Nat.not_lt_zero _)⟩ (by
    rintro i ⟨y, Q⟩ hi ⟨e1, q1, q2, q3⟩
    dsimp only at e1 q1 q2 q3
    subst e1
    have hQQ := q1.LQ (Or.inr (by decide)) hn hQ
    have hTT := q1.C11 (Or.inr (by decide)) hT
    by_cases hi2 : i < mny (K l)
    · obtain ⟨M2, b1, b2, b3⟩ := b230 hW hQQ hTT q2 hl hi2
      rcases b3 with ⟨b3, b4⟩ | ⟨b3, r, b4, b5⟩
      · right
        refine ⟨hi2, _, b3, rfl, q1.tr b1, b2, fun j hj => ?_⟩
        by_cases e : j = i
        · rw [e]; exact b4
        · exact q3 j (by omega)
      · left
        exact ⟨_, b3, rfl, q1.tr b1, fun z => b5 (z r b4 i hi2)⟩
    · left
      obtain rfl : i = mny (K l) := by omega
      refine ⟨.inl (nI (mny (K l)), Q), ?_, q1, fun r hr i hi => q3 i hi r hr⟩
      unfold B_230_7
      dsimp only
      rw [cas_ok hW hQQ hTT hl]
      exact if_pos (nI_le (Nat.le_refl _) (by omega)))
  unfold F_230 L_230_7
  rw [c1]
  dsimp only
  rw [g1]
  cases res with
  | inl z => obtain ⟨y, Q⟩ := z; exact ⟨1, Q, rfl, g2.1, Or.inl ⟨rfl, g2.2⟩⟩
  | inr z => obtain ⟨y, Q⟩ := z; obtain ⟨rfl, g2, g3⟩ := g2; exact ⟨0, Q, rfl, g2, Or.inr ⟨rfl, g3⟩⟩
end FOL
theorem B_follows (a b : Int32) : Both (F_118 a b) (F_231 a b) := by
  intro M hI
  obtain ⟨n, K, P, tb, q, hV⟩ := id hI
  have hW := hV.1.1
  rcases ckS hV.1 a with ⟨s, hs, hs2, rfl, e1, e2⟩ | ⟨e1, e2⟩
  · rcases ckL hV.1 b with ⟨l, hl, rfl, f1, f2⟩ | ⟨f1, f2⟩
    · obtain ⟨x, M1, a1, a2, a3, a4⟩ := f149 hV hs hl
      obtain ⟨y, M2, b1, b2, b3⟩ := f230 hW a3.1.2.2 a3.2.2.2.2.2.2.2.2.2 hs2 hl
      have hI2 : Inv M2 := ⟨n, K, P, tb, q, a3.a0 ((b2.wk (show 85 ≤ 87 by decide) (show 89 ≤ 92 by decide)).r)⟩
      rcases a4 with ⟨rfl, h1⟩ | ⟨rfl, h1⟩
      · rcases b3 with ⟨rfl, -⟩ | ⟨rfl, h2⟩
        · refine ⟨1, M1, M2, ?_, ?_, hI2⟩
          · simp only [F_118, e1, f1, one_ne, if_false, a1]
          · simp only [F_231, e2 M1 a2.hi, f2 M1 a2.hi, one_ne, if_false, b1]
        · exact absurd h1 h2
      · rcases b3 with ⟨rfl, h2⟩ | ⟨rfl, -⟩
        · exact absurd h2 h1
        · refine ⟨0, M1, M2, ?_, ?_, hI2⟩
          · simp only [F_118, e1, f1, one_ne, if_false, a1, if_true]
          · simp only [F_231, e2 M1 a2.hi, f2 M1 a2.hi, one_ne, if_false, b1, if_true]
    · refine rfu1 hI ?_ (fun M1 hM1 => ?_)
      · simp only [F_118, J_118_16, e1, f1, one_ne, if_false, if_true, Rf1]
      · simp only [F_231, J_231_16, e2 M1 hM1, f2 M1 hM1, one_ne, if_false, if_true, Rg1]
  · refine rfu1 hI ?_ (fun M1 hM1 => ?_)
    · simp only [F_118, J_118_16, e1, if_true, Rf1]
    · simp only [F_231, J_231_16, e2 M1 hM1, if_true, Rg1]
