/-! small, give -/
def pcN (x : Nat) : Nat := sumT 12 (fun k => x / 2 ^ k % 2)
theorem pcN_le (x : Nat) : pcN x ≤ 12 := by
  have : pcN x ≤ 12 * 1 := sumT_le (fun k _ => by omega)
  omega
set_option maxRecDepth 100000 in
theorem pc_c : ∀ x, x < 256 → F_252 (nI x) = nI (pcN x) ∧ pcN x ≤ 8 ∧ (pcN x = 0 → x = 0) := by decide +kernel
set_option maxRecDepth 100000 in
theorem pc_r : ∀ x, x < 256 → F_225 (nI x) = some (nI (pcN x)) := by decide +kernel
theorem m1_nI : (-1 : Int32) = nI 4294967295 := by decide
def dif (s t : Nat) : Nat := s &&& (t ^^^ 4294967295)
theorem dif_nI (s t : Nat) : nI s &&& (nI t ^^^ (-1)) = nI (dif s t) := by rw [m1_nI, ni_xor, ni_and]; rfl
theorem dif_le (s t : Nat) : dif s t ≤ s := Nat.and_le_left
theorem dif_self : ∀ s, s < 256 → dif s s = 0 := by decide +kernel
set_option maxRecDepth 100000 in
theorem sub_pc : ∀ s, s < 256 → ∀ t, t < s → dif t s = 0 → pcN t < pcN s := by decide +kernel
theorem cnt_0 {n : Nat} {K P : Nat → Nat} {tb : Nat → Nat → Nat} (hW : LW n K P tb) : 0 < cntS n K tb 0 := by
  refine (cnt_pos hW).mpr ⟨fun _ => 1, (sol_iff hW).mpr ⟨fun _ _ => ⟨Nat.le_refl _, by decide⟩, fun l _ hb => ?_⟩⟩
  rw [Nat.zero_testBit] at hb; cases hb
section SMALL
variable {n s : Nat} {K P : Nat → Nat} {tb : Nat → Nat → Nat} {M : IM}
theorem out_r (hW : LW n K P tb) (hC : LQ 78 n K P tb M) (hT : C11 M) (hs : s < 256) : ∃ x M', F_207 (nI s) M = some (x, M') ∧ Chg 87 89 M M' ∧ ((x = 0 ∧ cntS n K tb s = 0) ∨ (x = 1 ∧ 0 < cntS n K tb s)) := by
  obtain ⟨x, M', h1, h2, h3⟩ := some_r hW hC hT hs
  refine ⟨x, M', h1, h2, ?_⟩
  rcases h3 with ⟨rfl, r, hr, -⟩ | ⟨rfl, hno⟩
  · exact Or.inr ⟨rfl, (cnt_pos hW).mpr ⟨r, hr.1⟩⟩
  · refine Or.inl ⟨rfl, ?_⟩
    rcases Nat.eq_zero_or_pos (cntS n K tb s) with e | e
    · exact e
    · obtain ⟨q, hq⟩ := (cnt_pos hW).mp e; exact absurd hq (hno q)
/-- subsets of s that nothing fits -/
def Qo (n : Nat) (K : Nat → Nat) (tb : Nat → Nat → Nat) (s t : Nat) : Prop := t ≤ s ∧ dif t s = 0 ∧ cntS n K tb t = 0
def MinP (p : Nat → Prop) (b : Nat) : Prop := p b ∧ ∀ t, p t → pcN b < pcN t ∨ (pcN b = pcN t ∧ b ≤ t)
theorem MinP.uq {p : Nat → Prop} {a b : Nat} (h1 : MinP p a) (h2 : MinP p b) : a = b := by
  have := h1.2 b h2.1
  have := h2.2 a h1.1
  omega
theorem small_c (hW : LW n K P tb) (hC : LC 1 n K P tb M) (hK : C10 n K tb M) (hs : s < 2 ^ n) (h0 : cntS n K tb s = 0) : ∃ b M', (match L_115_30 (nI s) 1 M with | none => none | some (.inl (x2_13, M13)) => (some ((nI s, M13))) | some (.inr q) => some (q)) = some (nI b, M') ∧ KF M M' ∧ C10 n K tb M' ∧ MinP (Qo n K tb s) b := by
  have hn := hW.1
  have hp := pw_8 hn
  have hs2 : s < 256 := by omega
  have hsne : s ≠ 0 := fun z => by have := cnt_0 hW; rw [z] at h0; omega
  have hQ1 : ∀ t, Qo n K tb s t → 1 ≤ t := fun t ht => by
    rcases Nat.eq_zero_or_pos t with e | e
    · have := cnt_0 hW; have := ht.2.2; rw [e] at this; omega
    · exact e
  obtain ⟨res, g1, g2⟩ := loopF (body := B_115_30 (nI s)) (fun k z => z.1 = nI (k + 1) ∧ KF M z.2 ∧ C10 n K tb z.2 ∧ ∀ t, Qo n K tb s t → k < pcN t) (fun res => match res with | .inl z => False | .inr z => ∃ b, z.1 = nI b ∧ KF M z.2 ∧ C10 n K tb z.2 ∧ MinP (Qo n K tb s) b) 8 (by decide) (s := ((1 : Int32), M)) ⟨rfl, KF.rf M, hK, fun t ht => by
      have := (pc_c t (by have := ht.1; omega)).2.2
      have := hQ1 t ht
      omega⟩ (by
    rintro k ⟨y, Q⟩ hk ⟨rfl, c1, c2, c3⟩
    dsimp only at c1 c2 c3
    unfold B_115_30 J_115_75_30
    dsimp only
    by_cases hk8 : k < 8
    · obtain ⟨res, i1, i2⟩ := loopF (body := B_115_38 (nI s) (nI (k + 1))) (fun j z => z.1 = nI (j + 1) ∧ KF M z.2 ∧ C10 n K tb z.2 ∧ ∀ t, Qo n K tb s t → t ≤ j → pcN t ≠ k + 1) (fun res => match res with | .inl z => KF M z.2 ∧ C10 n K tb z.2 ∧ ∀ t, Qo n K tb s t → pcN t ≠ k + 1 | .inr z => ∃ b, z.1 = nI b ∧ KF M z.2 ∧ C10 n K tb z.2 ∧ MinP (Qo n K tb s) b) s (by omega) (s := ((1 : Int32), Q)) ⟨rfl, c1, c2, fun t ht h1 => by have := hQ1 t ht; omega⟩ (by
        rintro j ⟨y, T⟩ hj ⟨rfl, d1, d2, d3⟩
        dsimp only at d1 d2 d3
        unfold B_115_38 J_115_69_38
        dsimp only
        by_cases hjs : j < s
        · rw [if_neg (show ¬ nI s < nI (j + 1) from nI_nlt (by omega) (by omega)), dif_nI]
          have nx : ∀ T', KF M T' → C10 n K tb T' → (Qo n K tb s (j + 1) → pcN (j + 1) ≠ k + 1) → ∃ s', some (Sum.inl (nI (j + 1) + 1, T')) = some (Sum.inl s' : (Int32 × IM) ⊕ ((Int32 × IM) ⊕ (Int32 × IM))) ∧ s'.1 = nI (j + 1 + 1) ∧ KF M s'.2 ∧ C10 n K tb s'.2 ∧ ∀ t, Qo n K tb s t → t ≤ j + 1 → pcN t ≠ k + 1 := fun T' u1 u2 u3 => ⟨_, rfl, ni_add1 _, u1, u2, fun t ht htj => by
            by_cases e : t = j + 1
            · subst e; exact u3 ht
            · exact d3 t ht (by omega)⟩
          by_cases hsub : dif (j + 1) s = 0
          · rw [if_pos (show nI (dif (j + 1) s) = 0 by rw [hsub]; rfl), (pc_c (j + 1) (by omega)).1]
            by_cases hpc : pcN (j + 1) = k + 1
            · rw [if_pos (by rw [hpc])]
              obtain ⟨x, M', o1, o2, o3, o4⟩ := out_c (s := j + 1) hW (d1.LC hn hC) d2 (by omega)
              rw [o1]
              dsimp only
              rcases o4 with ⟨rfl, hz⟩ | ⟨rfl, hpos⟩
              · left
                refine ⟨.inr (nI (j + 1), M'), by rw [if_neg one_ne], j + 1, rfl, d1.tr o2, o3, ⟨by omega, hsub, hz⟩, fun t ht => ?_⟩
                have := c3 t ht
                rcases Nat.lt_or_ge (pcN (j + 1)) (pcN t) with e | e
                · exact Or.inl e
                · refine Or.inr ⟨by omega, ?_⟩
                  rcases Nat.lt_or_ge t (j + 1) with e2 | e2
                  · exact absurd (show pcN t = k + 1 by omega) (d3 t ht (by omega))
                  · exact e2
              · right
                refine ⟨hjs, ?_⟩
                rw [if_pos rfl]
                exact nx M' (d1.tr o2) o3 (fun z => absurd z.2.2 (by omega))
            · right
              refine ⟨hjs, ?_⟩
              rw [if_neg (fun z => hpc (ni_inj (by have := pcN_le (j + 1); omega) (by omega) z))]
              exact nx T d1 d2 (fun _ => hpc)
          · right
            refine ⟨hjs, ?_⟩
            rw [if_neg (show ¬ nI (dif (j + 1) s) = 0 from nI_ne0 (by omega) (by have := dif_le (j + 1) s; omega))]
            exact nx T d1 d2 (fun z => absurd z.2.1 hsub)
        · left
          obtain rfl : j = s := by omega
          refine ⟨.inl (nI (j + 1), T), ?_, d1, d2, fun t ht => d3 t ht ht.1⟩
          rw [if_pos (nI_lt (by omega) (by omega))])
      have hL : L_115_38 (nI s) (nI (k + 1)) 1 Q = some res := i1
      rw [if_neg (show ¬ (8 : Int32) < nI (k + 1) from nI_nlt (a := 8) (by omega) (by decide)), hL]
      cases res with
      | inl z =>
        right
        obtain ⟨a, b⟩ := z
        refine ⟨hk8, (nI (k + 1 + 1), b), by dsimp only; rw [ni_add1], rfl, i2.1, i2.2.1, fun t ht => ?_⟩
        have := c3 t ht
        have := i2.2.2 t ht
        omega
      | inr z => left; exact ⟨.inr z, rfl, i2⟩
    · exfalso
      obtain rfl : k = 8 := by omega
      have := c3 s ⟨Nat.le_refl _, dif_self s hs2, h0⟩
      have := (pc_c s hs2).2.1
      omega)
  have hL : L_115_30 (nI s) 1 M = some res := g1
  rw [hL]
  cases res with
  | inl z => exact absurd g2 id
  | inr z =>
    obtain ⟨a, b⟩ := z
    obtain ⟨b', rfl, h1, h2, h3⟩ := g2
    exact ⟨b', b, rfl, h1, h2, h3⟩
theorem small_r (hW : LW n K P tb) (hC : LQ 78 n K P tb M) (hT : C11 M) (hs : s < 256) (h0 : cntS n K tb s = 0) : ∃ b M' y, L_226_35 (nI s) (nI s) 0 M = some (nI b, y, M') ∧ Chg 87 89 M M' ∧ MinP (Qo n K tb s) b := by
  have hn := hW.1
  obtain ⟨⟨a, y, Q⟩, g1, b, rfl, g2, g3⟩ := loopF (body := B_226_35 (nI s)) (fun k z => ∃ b, z.1 = nI b ∧ z.2.1 = nI k ∧ Chg 87 89 M z.2.2 ∧ Qo n K tb s b ∧ (b = s ∨ b < k) ∧ ∀ t, Qo n K tb s t → (t < k ∨ t = s) → pcN b < pcN t ∨ (pcN b = pcN t ∧ b ≤ t)) (fun z => ∃ b, z.1 = nI b ∧ Chg 87 89 M z.2.2 ∧ MinP (Qo n K tb s) b) s (by omega) (s := (nI s, (0 : Int32), M)) ⟨s, rfl, rfl, Chg.rf _ _ _, ⟨Nat.le_refl _, dif_self s hs, h0⟩, Or.inl rfl, fun t ht h => by
      obtain rfl : t = s := by omega
      exact Or.inr ⟨rfl, Nat.le_refl _⟩⟩ (by
    rintro k ⟨a, y, Q⟩ hk ⟨b, rfl, rfl, c1, c2, c3, c4⟩
    dsimp only at c1 c3 c4
    have hb : b < 256 := by have := c2.1; omega
    unfold B_226_35 J_226_75_35 J_226_85_35
    dsimp only
    by_cases hks : k < s
    · right
      refine ⟨hks, ?_⟩
      have hkeep : ∀ T, Chg 87 89 M T → (Qo n K tb s k → pcN b < pcN k ∨ (pcN b = pcN k ∧ b ≤ k)) → ∃ s', some (Sum.inl (nI b, nI k + 1, T)) = some (Sum.inl s' : (Int32 × Int32 × IM) ⊕ (Int32 × Int32 × IM)) ∧ ∃ b, s'.1 = nI b ∧ s'.2.1 = nI (k + 1) ∧ Chg 87 89 M s'.2.2 ∧ Qo n K tb s b ∧ (b = s ∨ b < k + 1) ∧ ∀ t, Qo n K tb s t → (t < k + 1 ∨ t = s) → pcN b < pcN t ∨ (pcN b = pcN t ∧ b ≤ t) := fun T u1 u2 => ⟨_, rfl, b, rfl, ni_add1 _, u1, c2, by omega, fun t ht h => by
        by_cases e : t = k
        · subst e; exact u2 ht
        · exact c4 t ht (by omega)⟩
      rw [if_neg (nI_ge hks (by omega)), dif_nI]
      by_cases hsub : dif k s = 0
      · rw [if_pos (show nI (dif k s) = 0 by rw [hsub]; rfl), pc_r k (by omega), pc_r b hb]
        dsimp only
        have e1 : (nI (pcN k) < nI (pcN b)) = (pcN k < pcN b) := ni_lti (by have := pcN_le k; omega) (by have := pcN_le b; omega)
        have e2 : (nI (pcN k) = nI (pcN b)) = (pcN k = pcN b) := ni_eqi (by have := pcN_le k; omega) (by have := pcN_le b; omega)
        have e3 : (nI b ≤ nI k) = (b ≤ k) := ni_lei (by omega) (by omega)
        simp only [e1, e2, e3]
        obtain ⟨x, M', o1, o2, o3⟩ := out_r (s := k) hW (c1.LQ (by omega) hn hC) (c1.C11 (by omega) hT) (by omega)
        rw [o1]
        dsimp only
        have htry : (pcN k < pcN b ∨ (pcN k = pcN b ∧ k < b)) → ∃ s', (if x = 0 then some (Sum.inl (nI k, nI k + 1, M')) else some (Sum.inl (nI b, nI k + 1, M'))) = some (Sum.inl s' : (Int32 × Int32 × IM) ⊕ (Int32 × Int32 × IM)) ∧ ∃ b, s'.1 = nI b ∧ s'.2.1 = nI (k + 1) ∧ Chg 87 89 M s'.2.2 ∧ Qo n K tb s b ∧ (b = s ∨ b < k + 1) ∧ ∀ t, Qo n K tb s t → (t < k + 1 ∨ t = s) → pcN b < pcN t ∨ (pcN b = pcN t ∧ b ≤ t) := fun hbetter => by
          rcases o3 with ⟨rfl, hz⟩ | ⟨rfl, hpos⟩
          · rw [if_pos rfl]
            refine ⟨_, rfl, k, rfl, ni_add1 _, c1.tr o2, ⟨by omega, hsub, hz⟩, by omega, fun t ht h => ?_⟩
            by_cases e : t = k
            · subst e; exact Or.inr ⟨rfl, Nat.le_refl _⟩
            · have := c4 t ht (by omega); omega
          · rw [if_neg one_ne]
            exact hkeep M' (c1.tr o2) (fun z => absurd z.2.2 (by omega))
        by_cases q1 : pcN k < pcN b
        · rw [if_pos q1]; exact htry (Or.inl q1)
        · rw [if_neg q1]
          by_cases q2 : pcN k = pcN b
          · rw [if_pos q2]
            by_cases q3 : b ≤ k
            · rw [if_pos q3]; exact hkeep Q c1 (fun _ => Or.inr ⟨q2.symm, q3⟩)
            · rw [if_neg q3]; exact htry (Or.inr ⟨q2, by omega⟩)
          · rw [if_neg q2]; exact hkeep Q c1 (fun _ => Or.inl (by omega))
      · rw [if_neg (show ¬ nI (dif k s) = 0 from nI_ne0 (by omega) (by have := dif_le k s; omega))]
        exact hkeep Q c1 (fun z => absurd z.2.1 hsub)
    · left
      obtain rfl : k = s := by omega
      refine ⟨(nI b, nI k, Q), by rw [if_pos (nI_le (Nat.le_refl _) (by omega))], b, rfl, c1, c2, fun t ht => c4 t ht (by have := ht.1; omega)⟩)
  exact ⟨b, Q, y, g1, g2, g3⟩
end SMALL
theorem B_small (a : Int32) : Both (F_115 a) (F_226 a) := by
  intro M hI
  obtain ⟨n, K, P, tb, q, hV⟩ := id hI
  have hW := hV.1.1
  rcases ckS hV.1 a with ⟨s, hs, hs2, rfl, e1, e2⟩ | ⟨e1, e2⟩
  · obtain ⟨x, M1, a1, a2, a3, a4⟩ := out_c hW hV.1.2.1 hV.2.2.2.2.2.2.2.2.1 hs
    have hV1 : Iv n K P tb q M1 := hV.kf a2 a3
    rcases a4 with ⟨rfl, h0⟩ | ⟨rfl, hpos⟩
    · obtain ⟨b, M2, b1, b2, b3, b4⟩ := small_c hW hV1.1.2.1 a3 hs h0
      have hV2 : Iv n K P tb q M2 := hV1.kf b2 b3
      obtain ⟨y, M3, c1, c2, c3⟩ := out_r (s := s) hW hV2.1.2.2 hV2.2.2.2.2.2.2.2.2.2 hs2
      rcases c3 with ⟨rfl, -⟩ | ⟨rfl, hpos⟩
      · obtain ⟨b', M4, z, d1, d2, d3⟩ := small_r (M := M3) hW (c2.LQ (by decide) hW.1 hV2.1.2.2) (c2.C11 (by decide) hV2.2.2.2.2.2.2.2.2.2) hs2 h0
        obtain rfl := b4.uq d3
        refine ⟨nI b, M2, M4, ?_, ?_, n, K, P, tb, q, hV2.a0 (((c2.tr d2).wk (by decide) (by decide)).r)⟩
        · simp only [F_115, e1, one_ne, if_false, a1]
          exact b1
        · simp only [F_226, e2 M2 (a2.tr b2).hi, one_ne, if_false, c1, if_true, d1]
      · omega
    · have dc : F_115 (nI s) M = some (-1000003, iset M1 43 3 (M1 43 3 + 1)) := by
        simp only [F_115, e1, one_ne, if_false, a1, if_true, Rf3]
      have hq := hV1.1.2.2.cg hW.1 (M' := iset M1 43 3 (M1 43 3 + 1)) (fun j _ => iset_k (by decide))
      have hq11 := hV1.2.2.2.2.2.2.2.2.2.cg (M' := iset M1 43 3 (M1 43 3 + 1)) (fun k j h1 h2 => iset_k (by omega))
      obtain ⟨y, M2, b1, b2, b3⟩ := out_r (s := s) hW hq hq11 hs2
      rcases b3 with ⟨rfl, h0⟩ | ⟨rfl, -⟩
      · omega
      · refine ⟨-1000003, _, _, dc, ?_, hV1.rfs (e := 3) (agx.rf 0 M1) ((b2.wk (by decide) (by decide)).r) (by decide)⟩
        simp only [F_226, e2 _ (hi43 a2.hi 3 (M1 43 3 + 1)), one_ne, if_false, b1, Rg3]
  · refine rfu1 hI ?_ (fun M1 hM1 => ?_)
    · simp only [F_115, e1, if_true, Rf1]
    · simp only [F_226, e2 M1 hM1, if_true, Rg1]
/-! give -/
theorem B_give (a b : Int32) : Both (F_117 a b) (F_229 a b) := by
  intro M hI
  obtain ⟨n, K, P, tb, q, hV⟩ := id hI
  have hW := hV.1.1
  have hn := hW.1
  have hp8 := pw_8 hn
  rcases ckS hV.1 a with ⟨s, hs, hs2, rfl, e1, e2⟩ | ⟨e1, e2⟩
  · by_cases hb : rg b 2
    · obtain ⟨w, hw, rfl⟩ := hb
      have w1 : F_157 (nI w) 0 1 = 1 := wn_in (m := 1) (by omega) (by decide)
      have w2 : nI w ≤ 1 := nI_le (b := 1) (by omega) (by decide)
      have w3 : ¬ nI w < 0 := nI_pos (by omega)
      have hpr : ∀ t, t < 256 → priceS n P t ≤ 800 := fun t _ => priceS_le hn (fun l hl => (hW.2 l hl).2.1)
      -- which subset stands best after those below k
      let bet : Nat → Nat → Prop := fun t u => priceS n P t < priceS n P u ∨ (priceS n P t = priceS n P u ∧ pcN t < pcN u)
      obtain ⟨BS, hBS0, hBS1⟩ : ∃ BS : Nat → Nat, BS 0 = s ∧ ∀ k, BS (k + 1) = (bif bP (dif k s = 0 ∧ bet k (BS k) ∧ 0 < cntS n K tb (dif s k)) then k else BS k) := ⟨fun k => Nat.rec s (fun k B => bif bP (dif k s = 0 ∧ bet k B ∧ 0 < cntS n K tb (dif s k)) then k else B) k, rfl, fun k => rfl⟩
      have hBSr : ∀ k, BS k = s ∨ BS k < k := by
        intro k
        induction k with
        | zero => exact Or.inl hBS0
        | succ k ih =>
          rw [hBS1]
          cases bP (dif k s = 0 ∧ bet k (BS k) ∧ 0 < cntS n K tb (dif s k))
          · rcases ih with e | e
            · exact Or.inl e
            · exact Or.inr (Nat.lt_succ_of_lt e)
          · exact Or.inr (Nat.lt_succ_self k)
      have hBSs : ∀ k, k ≤ s → BS k ≤ s := fun k hk => by have := hBSr k; omega
      have lc : ∃ M', L_117_38 (nI s) (nI w) (nI s) (nI (priceS n P s)) 0 M = some (nI (BS s), nI (priceS n P (BS s)), nI s, M') ∧ KF M M' ∧ C10 n K tb M' := by
        obtain ⟨⟨x, y, z, Q⟩, g1, g2, g3, g4, g5, g6⟩ := loopF (body := B_117_38 (nI s) (nI w)) (fun k z => z.1 = nI (BS k) ∧ z.2.1 = nI (priceS n P (BS k)) ∧ z.2.2.1 = nI k ∧ KF M z.2.2.2 ∧ C10 n K tb z.2.2.2) (fun z => z.1 = nI (BS s) ∧ z.2.1 = nI (priceS n P (BS s)) ∧ z.2.2.1 = nI s ∧ KF M z.2.2.2 ∧ C10 n K tb z.2.2.2) s (by omega) (s := (nI s, nI (priceS n P s), (0 : Int32), M)) ⟨by rw [hBS0], by rw [hBS0], rfl, KF.rf M, hV.2.2.2.2.2.2.2.2.1⟩ (by
          rintro k ⟨x, y, z, Q⟩ hk ⟨rfl, rfl, rfl, c1, c2⟩
          dsimp only at c1 c2
          have hB := hBSs k hk
          have hpk := hpr k (by omega)
          have hpB := hpr (BS k) (by omega)
          unfold B_117_38
          dsimp only
          by_cases hks : k < s
          · right
            refine ⟨hks, ?_⟩
            rw [if_neg (nI_ge hks (by omega)), dif_nI]
            by_cases hsub : dif k s = 0
            · have hq : bet k (BS k) ∨ ¬ bet k (BS k) := Classical.em _
              rw [if_pos (show nI (dif k s) = 0 by rw [hsub]; rfl), cost_c hW (show k < 256 by omega) (c1.LC hn hV.1.2.1), (pc_c k (by omega)).1, (pc_c (BS k) (by omega)).1]
              dsimp only
              have x1 : (nI (priceS n P k) < nI (priceS n P (BS k))) = (priceS n P k < priceS n P (BS k)) := ni_lti (by omega) (by omega)
              have x2 : (nI (priceS n P k) = nI (priceS n P (BS k))) = (priceS n P k = priceS n P (BS k)) := ni_eqi (by omega) (by omega)
              have x3 : (nI (pcN (BS k)) ≤ nI (pcN k)) = (pcN (BS k) ≤ pcN k) := ni_lei (by have := pcN_le (BS k); omega) (by have := pcN_le k; omega)
              simp only [x1, x2, x3]
              rcases hq with hq | hq
              · obtain ⟨v, M', o1, o2, o3, o4⟩ := out_c (s := dif s k) hW (c1.LC hn hV.1.2.1) c2 (by have := dif_le s k; omega)
                have eJ : (if priceS n P k < priceS n P (BS k) then J_117_93_38 (nI s) (nI w) (nI (BS k)) (nI (priceS n P (BS k))) (nI k) (nI (priceS n P k)) Q else if priceS n P k = priceS n P (BS k) then (if pcN (BS k) ≤ pcN k then J_117_97_38 (nI s) (nI w) (nI (BS k)) (nI (priceS n P (BS k))) (nI k) (nI (priceS n P k)) Q else J_117_93_38 (nI s) (nI w) (nI (BS k)) (nI (priceS n P (BS k))) (nI k) (nI (priceS n P k)) Q) else J_117_97_38 (nI s) (nI w) (nI (BS k)) (nI (priceS n P (BS k))) (nI k) (nI (priceS n P k)) Q) = J_117_93_38 (nI s) (nI w) (nI (BS k)) (nI (priceS n P (BS k))) (nI k) (nI (priceS n P k)) Q := by
                  rcases hq with z | ⟨z1, z2⟩
                  · rw [if_pos z]
                  · rw [if_neg (by omega), if_pos z1, if_neg (by omega)]
                rw [eJ]
                unfold J_117_93_38 J_117_98_38 J_117_125_38
                rw [if_neg one_ne, dif_nI, o1]
                dsimp only
                rcases o4 with ⟨rfl, hz⟩ | ⟨rfl, hpos⟩
                · refine ⟨(nI (BS (k + 1)), nI (priceS n P (BS (k + 1))), nI (k + 1), M'), ?_, rfl, rfl, rfl, c1.tr o2, o3⟩
                  rw [if_neg one_ne, hBS1, bP_f (fun z => by have := z.2.2; omega), cond_false, ni_add1]
                · refine ⟨(nI (BS (k + 1)), nI (priceS n P (BS (k + 1))), nI (k + 1), M'), ?_, rfl, rfl, rfl, c1.tr o2, o3⟩
                  rw [if_pos rfl, hBS1, bP_t ⟨hsub, hq, hpos⟩, cond_true, ni_add1]
              · have eJ : (if priceS n P k < priceS n P (BS k) then J_117_93_38 (nI s) (nI w) (nI (BS k)) (nI (priceS n P (BS k))) (nI k) (nI (priceS n P k)) Q else if priceS n P k = priceS n P (BS k) then (if pcN (BS k) ≤ pcN k then J_117_97_38 (nI s) (nI w) (nI (BS k)) (nI (priceS n P (BS k))) (nI k) (nI (priceS n P k)) Q else J_117_93_38 (nI s) (nI w) (nI (BS k)) (nI (priceS n P (BS k))) (nI k) (nI (priceS n P k)) Q) else J_117_97_38 (nI s) (nI w) (nI (BS k)) (nI (priceS n P (BS k))) (nI k) (nI (priceS n P k)) Q) = J_117_97_38 (nI s) (nI w) (nI (BS k)) (nI (priceS n P (BS k))) (nI k) (nI (priceS n P k)) Q := by
                  have h1 : ¬ priceS n P k < priceS n P (BS k) := fun z => hq (Or.inl z)
                  rw [if_neg h1]
                  by_cases h2 : priceS n P k = priceS n P (BS k)
                  · have h3 : ¬ pcN k < pcN (BS k) := fun z => hq (Or.inr ⟨h2, z⟩)
                    rw [if_pos h2, if_pos (by omega)]
                  · rw [if_neg h2]
                rw [eJ]
                unfold J_117_97_38 J_117_98_38 J_117_125_38
                refine ⟨(nI (BS (k + 1)), nI (priceS n P (BS (k + 1))), nI (k + 1), Q), ?_, rfl, rfl, rfl, c1, c2⟩
                rw [if_pos rfl, hBS1, bP_f (fun z => hq z.2.1), cond_false, ni_add1]
            · refine ⟨(nI (BS (k + 1)), nI (priceS n P (BS (k + 1))), nI (k + 1), Q), ?_, rfl, rfl, rfl, c1, c2⟩
              rw [if_neg (show ¬ nI (dif k s) = 0 from nI_ne0 (by omega) (by have := dif_le k s; omega)), hBS1, bP_f (fun z => hsub z.1), cond_false]
              unfold J_117_125_38
              rw [ni_add1]
          · left
            obtain rfl : k = s := by omega
            exact ⟨(nI (BS k), nI (priceS n P (BS k)), nI k, Q), by rw [if_pos (nI_le (Nat.le_refl _) (by omega))], rfl, rfl, rfl, c1, c2⟩)
        dsimp only at g2 g3 g4 g5 g6
        subst g2 g3 g4
        exact ⟨Q, g1, g5, g6⟩
      obtain ⟨M1, l1, l2, l3⟩ := lc
      have hV1 : Iv n K P tb q M1 := hV.kf l2 l3
      have lr : ∃ M', L_229_29 (nI s) (nI w) (nI s) 0 M1 = some (nI (BS s), nI s, M') ∧ Chg 87 89 M1 M' := by
        obtain ⟨⟨x, z, Q⟩, g1, g2, g4, g5⟩ := loopF (body := B_229_29 (nI s) (nI w)) (fun k z => z.1 = nI (BS k) ∧ z.2.1 = nI k ∧ Chg 87 89 M1 z.2.2) (fun z => z.1 = nI (BS s) ∧ z.2.1 = nI s ∧ Chg 87 89 M1 z.2.2) s (by omega) (s := (nI s, (0 : Int32), M1)) ⟨by rw [hBS0], rfl, Chg.rf _ _ _⟩ (by
          rintro k ⟨x, z, Q⟩ hk ⟨rfl, rfl, c1⟩
          dsimp only at c1
          have hB := hBSs k hk
          have hpk := hpr k (by omega)
          have hpB := hpr (BS k) (by omega)
          have hQ : LQ 78 n K P tb Q := c1.LQ (by omega) hn hV1.1.2.2
          have hT : C11 Q := c1.C11 (by omega) hV1.2.2.2.2.2.2.2.2.2
          unfold B_229_29
          dsimp only
          by_cases hks : k < s
          · right
            refine ⟨hks, ?_⟩
            rw [if_neg (nI_ge hks (by omega)), cost_r hW (show k < 256 by omega) hQ, cost_r hW (show BS k < 256 by omega) hQ, pc_r k (by omega), pc_r (BS k) (by omega)]
            dsimp only
            have x1 : (nI (priceS n P k) < nI (priceS n P (BS k))) = (priceS n P k < priceS n P (BS k)) := ni_lti (by omega) (by omega)
            have x2 : (nI (priceS n P k) = nI (priceS n P (BS k))) = (priceS n P k = priceS n P (BS k)) := ni_eqi (by omega) (by omega)
            have x3 : (nI (pcN k) < nI (pcN (BS k))) = (pcN k < pcN (BS k)) := ni_lti (by have := pcN_le k; omega) (by have := pcN_le (BS k); omega)
            have x4 : (nI (pcN k) = nI (pcN (BS k))) = (pcN k = pcN (BS k)) := ni_eqi (by have := pcN_le k; omega) (by have := pcN_le (BS k); omega)
            have x5 : (nI (BS k) ≤ nI k) = (BS k ≤ k) := ni_lei (by omega) (by omega)
            simp only [x1, x2, x3, x4, x5]
            unfold J_229_93_29 J_229_97_29 J_229_98_29 J_229_130_29
            rw [dif_nI, dif_nI]
            by_cases hsub : dif k s = 0
            · simp only [show nI (dif k s) = 0 by rw [hsub]; rfl, if_true, one_ne, if_false]
              obtain ⟨v, M', o1, o2, o3⟩ := out_r (s := dif s k) hW hQ hT (by have := dif_le s k; omega)
              rw [o1]
              dsimp only
              by_cases hq : bet k (BS k)
              · have hres : ∃ s' : Int32 × Int32 × IM, (if v = 0 then (some (Sum.inl (nI (BS k), nI k + 1, M')) : Option ((Int32 × Int32 × IM) ⊕ (Int32 × Int32 × IM))) else some (Sum.inl (nI k, nI k + 1, M'))) = some (Sum.inl s') ∧ s'.1 = nI (BS (k + 1)) ∧ s'.2.1 = nI (k + 1) ∧ Chg 87 89 M1 s'.2.2 := by
                  rcases o3 with ⟨rfl, hz⟩ | ⟨rfl, hpos⟩
                  · exact ⟨_, if_pos rfl, by rw [hBS1, bP_f (fun z => by have := z.2.2; omega), cond_false], ni_add1 _, c1.tr o2⟩
                  · exact ⟨_, if_neg one_ne, by rw [hBS1, bP_t ⟨hsub, hq, hpos⟩, cond_true], ni_add1 _, c1.tr o2⟩
                rcases hq with z | ⟨z1, z2⟩
                · rw [if_pos z]; exact hres
                · rw [if_neg (by omega), if_pos z1, if_pos z2]; exact hres
              · have hres : ∃ s' : Int32 × Int32 × IM, (some (Sum.inl (nI (BS k), nI k + 1, Q)) : Option ((Int32 × Int32 × IM) ⊕ (Int32 × Int32 × IM))) = some (Sum.inl s') ∧ s'.1 = nI (BS (k + 1)) ∧ s'.2.1 = nI (k + 1) ∧ Chg 87 89 M1 s'.2.2 := ⟨_, rfl, by rw [hBS1, bP_f (fun z => hq z.2.1), cond_false], ni_add1 _, c1⟩
                have h1 : ¬ priceS n P k < priceS n P (BS k) := fun z => hq (Or.inl z)
                rw [if_neg h1]
                by_cases h2 : priceS n P k = priceS n P (BS k)
                · have h3 : ¬ pcN k < pcN (BS k) := fun z => hq (Or.inr ⟨h2, z⟩)
                  rw [if_pos h2, if_neg h3]
                  by_cases h4 : pcN k = pcN (BS k)
                  · have h5 : BS k ≤ k := by
                      rcases hBSr k with e | e
                      · have := sub_pc s hs2 k hks hsub
                        rw [e] at h4; omega
                      · omega
                    rw [if_pos h4, if_pos h5]; exact hres
                  · rw [if_neg h4]; exact hres
                · rw [if_neg h2]; exact hres
            · have hz : ¬ nI (dif k s) = 0 := nI_ne0 (by omega) (by have := dif_le k s; omega)
              simp only [hz, if_false]
              refine ⟨(nI (BS (k + 1)), nI (k + 1), Q), ?_, rfl, rfl, c1⟩
              rw [hBS1, bP_f (fun z => hsub z.1), cond_false, ni_add1]
              by_cases h1 : priceS n P k < priceS n P (BS k)
              · rw [if_pos h1]
              · rw [if_neg h1]
                by_cases h2 : priceS n P k = priceS n P (BS k)
                · rw [if_pos h2]
                  by_cases h3 : pcN k < pcN (BS k)
                  · rw [if_pos h3]
                  · rw [if_neg h3]
                    by_cases h4 : pcN k = pcN (BS k)
                    · rw [if_pos h4]
                      by_cases h5 : BS k ≤ k
                      · rw [if_pos h5]
                      · rw [if_neg h5]
                    · rw [if_neg h4]
                · rw [if_neg h2]
          · left
            obtain rfl : k = s := by omega
            exact ⟨(nI (BS k), nI k, Q), by rw [if_pos (nI_le (Nat.le_refl _) (by omega))], rfl, rfl, c1⟩)
        dsimp only at g2 g4 g5
        subst g2 g4
        exact ⟨Q, g1, g5⟩
      obtain ⟨M2, r1, r2⟩ := lr
      have dc : F_117 (nI s) (nI w) M = some (if nI w = 0 then nI (BS s) else nI (priceS n P (BS s)), M1) := by
        simp only [F_117, e1, one_ne, if_false, w3, w2, if_true, cost_c hW hs2 hV.1.2.1, l1, J_117_131]
        by_cases h : nI w = 0
        · rw [if_pos h, if_pos h]
        · rw [if_neg h, if_neg h]
      refine ⟨_, M1, M2, dc, ?_, n, K, P, tb, q, hV1.a0 ((r2.wk (by decide) (by decide)).r)⟩
      simp only [F_229, e2 M1 l2.hi, show F_157 (nI w) 0 1 = 1 from w1, one_ne, if_false, r1, J_229_136]
      by_cases h : nI w = 0
      · rw [if_pos h, if_pos h]
      · rw [if_neg h, if_neg h, cost_r hW (show BS s < 256 by have := hBSs s (Nat.le_refl _); omega) (r2.LQ (by decide) hn hV1.1.2.2)]
    · have w := wn_out (m := 1) (by decide) hb
      refine rfu1 hI ?_ (fun M1 hM1 => ?_)
      · simp only [F_117, e1, one_ne, if_false]
        rcases rg_lt (m := 1) (by decide) hb with h0 | ⟨h0, h1, -⟩
        · rw [if_pos h0, J_117_17, Rf1]
        · rw [if_neg h0, if_neg (show ¬ b ≤ 1 from fun z => by
            rw [Int32.le_iff_toInt_le] at z; rw [Int32.lt_iff_toInt_lt] at h1
            exact absurd h1 (Int.not_lt.mpr z)), J_117_17, Rf1]
      · simp only [F_229, e2 M1 hM1, one_ne, if_false, show F_157 b 0 1 = 0 from w, if_true, J_229_17, Rg1]
  · refine rfu1 hI ?_ (fun M1 hM1 => ?_)
    · simp only [F_117, e1, if_true, J_117_17, Rf1]
    · simp only [F_229, e2 M1 hM1, if_true, J_229_17, Rg1]
