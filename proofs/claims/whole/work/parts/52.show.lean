/-! the showing: what is left, and the steps -/
def emp (L : Nat → Nat) : Prop := ∃ h, h < 12 ∧ L h = 0
def p8 (x : Nat) : Nat := x % 2 + x / 2 % 2 + x / 4 % 2
def totL (L : Nat → Nat) : Nat := sumT 12 (fun h => p8 (L h))
abbrev SS : Type := (Nat → Nat) × List Nat
def hlO (K : Nat → Nat) (l i : Nat) (o : Bool) : Nat := bif o then fb (K l) i else fa (K l) i
def gOn (K : Nat → Nat) (tb : Nat → Nat → Nat) (l i : Nat) (o : Bool) (c : Nat) (L : Nat → Nat) : Prop :=
  (pr (K l) = false → okL tb l i c c) ∧ (pr (K l) = true → o = false → ∃ d, 1 ≤ d ∧ d ≤ 3 ∧ okL tb l i c d ∧ (L (fb (K l) i)).testBit (d - 1) = true) ∧ (pr (K l) = true → o = true → ∃ d, 1 ≤ d ∧ d ≤ 3 ∧ okL tb l i d c ∧ (L (fa (K l) i)).testBit (d - 1) = true)
def stk (s : SS) (l h c : Nat) : SS := (updN s.1 h (s.1 h - 2 ^ (c - 1)), s.2 ++ [48 * l + 4 * h + c])
noncomputable def sk1 (K : Nat → Nat) (tb : Nat → Nat → Nat) (l i : Nat) (o : Bool) (c : Nat) (s : SS) : SS := bif bP (¬ emp s.1 ∧ (s.1 (hlO K l i o)).testBit (c - 1) = true ∧ ¬ gOn K tb l i o c s.1) then stk s l (hlO K l i o) c else s
noncomputable def skN (K : Nat → Nat) (tb : Nat → Nat → Nat) (l i : Nat) (o : Bool) (s : SS) : Nat → SS
  | 0 => s
  | k + 1 => sk1 K tb l i o (k + 1) (skN K tb l i o s k)
def okS (s : SS) : Prop := (∀ h, h < 12 → s.1 h < 8) ∧ s.2.length + totL s.1 = 36 ∧ ∀ x, x ∈ s.2 → x < 1000
theorem p8_strike : ∀ x, x < 8 → ∀ c, c < 3 → x.testBit c = true → x - 2 ^ c < 8 ∧ p8 (x - 2 ^ c) + 1 = p8 x ∧ nI x &&& ((F_142 (nI (c + 1))) ^^^ (-1)) = nI (x - 2 ^ c) ∧ nI (2 * x) &&& (((1 : Int32) <<< (nI (c + 1) &&& 31)) ^^^ (-1)) = nI (2 * (x - 2 ^ c)) := by decide
theorem sumT_upd {f g : Nat → Nat} {h a : Nat} : ∀ {n : Nat}, h < n → g h + a = f h → (∀ k, k ≠ h → g k = f k) → sumT n g + a = sumT n f
  | 0, hn, _, _ => absurd hn (Nat.not_lt_zero _)
  | n + 1, hn, e, ek => by
    simp only [sumT]
    by_cases hh : h = n
    · subst hh
      rw [sumT_cg (f := g) (g := f) (fun k hk => ek k (by omega))]
      omega
    · have := sumT_upd (n := n) (show h < n by omega) e ek
      rw [ek n (fun z => hh z.symm)]
      omega
theorem okS.stk {s : SS} {l h c : Nat} (hs : okS s) (hl : l < 8) (hh : h < 12) (h1 : 1 ≤ c) (h3 : c ≤ 3) (hb : (s.1 h).testBit (c - 1) = true) : okS (stk s l h c) ∧ s.2.length < 36 := by
  obtain ⟨a1, a2, a3⟩ := hs
  obtain ⟨p1, p2, -, -⟩ := p8_strike (s.1 h) (a1 h hh) (c - 1) (by omega) hb
  have ht : totL (updN s.1 h (s.1 h - 2 ^ (c - 1))) + 1 = totL s.1 := sumT_upd hh (by unfold updN; rw [if_pos rfl]; exact p2) (fun k hk => by unfold updN; rw [if_neg hk])
  refine ⟨⟨fun k hk => ?_, ?_, fun x hx => ?_⟩, by omega⟩
  · show updN s.1 h (s.1 h - 2 ^ (c - 1)) k < 8
    unfold updN
    by_cases e : k = h
    · rw [if_pos e]; exact p1
    · rw [if_neg e]; exact a1 k hk
  · show (s.2 ++ [48 * l + 4 * h + c]).length + totL (updN s.1 h (s.1 h - 2 ^ (c - 1))) = 36
    rw [List.length_append, List.length_singleton]
    omega
  · rcases List.mem_append.mp hx with z | z
    · exact a3 x z
    · rw [List.mem_singleton] at z; omega
theorem sk1_emp {K : Nat → Nat} {tb : Nat → Nat → Nat} {l i c : Nat} {o : Bool} {s : SS} (h : emp s.1) : sk1 K tb l i o c s = s := by
  unfold sk1; rw [bP_f (fun z => z.1 h), cond_false]
theorem skN_emp {K : Nat → Nat} {tb : Nat → Nat → Nat} {l i : Nat} {o : Bool} {s : SS} {k : Nat} (h : emp (skN K tb l i o s k).1) : ∀ j, skN K tb l i o s (k + j) = skN K tb l i o s k
  | 0 => rfl
  | j + 1 => by
    show sk1 K tb l i o (k + j + 1) (skN K tb l i o s (k + j)) = _
    rw [skN_emp h j]
    exact sk1_emp h
/-! on both sides -/
def ShC (s : SS) (M : IM) : Prop := (∀ h, h < 12 → M 63 h = nI (s.1 h)) ∧ M 62 2 = nI s.2.length ∧ (∀ j, j < s.2.length → M 64 j = nI (s.2.getD j 0)) ∧ ((M 62 3 = 1 ∧ emp s.1) ∨ (M 62 3 = 0 ∧ ¬ emp s.1))
def ShL (s : SS) (M : IM) : Prop := ∀ h, h < 12 → M 91 h = nI (2 * s.1 h)
def ShR (s : SS) (M : IM) : Prop := ShL s M ∧ M 77 25 = nI s.2.length ∧ ∀ j, j < s.2.length → M 92 j = nI (s.2.getD j 0)
theorem ln63 : ln 63 = 12 := by decide
section SHOW
variable {n l i c : Nat} {K P : Nat → Nat} {tb : Nat → Nat → Nat} {M : IM} {s : SS}
theorem gOn_n {o : Bool} {L : Nat → Nat} (hp : pr (K l) = false) : gOn K tb l i o c L ↔ okL tb l i c c := by
  unfold gOn
  rw [hp]
  exact ⟨fun z => z.1 rfl, fun z => ⟨fun _ => z, fun q => absurd q (by decide), fun q => absurd q (by decide)⟩⟩
theorem gOn_f {L : Nat → Nat} (hp : pr (K l) = true) : gOn K tb l i false c L ↔ ∃ d, 1 ≤ d ∧ d ≤ 3 ∧ okL tb l i c d ∧ (L (fb (K l) i)).testBit (d - 1) = true := by
  unfold gOn
  rw [hp]
  exact ⟨fun z => z.2.1 rfl rfl, fun z => ⟨fun q => absurd q (by decide), fun _ _ => z, fun _ q => absurd q (by decide)⟩⟩
theorem gOn_t {L : Nat → Nat} (hp : pr (K l) = true) : gOn K tb l i true c L ↔ ∃ d, 1 ≤ d ∧ d ≤ 3 ∧ okL tb l i d c ∧ (L (fa (K l) i)).testBit (d - 1) = true := by
  unfold gOn
  rw [hp]
  exact ⟨fun z => z.2.2 rfl rfl, fun z => ⟨fun q => absurd q (by decide), fun _ q => absurd q (by decide), fun _ _ => z⟩⟩
theorem f42 (hW : LW n K P tb) (hC : LC 1 n K P tb M) (hs : ShC s M) (ho : okS s) (hl : l < n) (hi : i < mny (K l)) (h1 : 1 ≤ c) (h3 : c ≤ 3) : (F_42 (1 + 5 + 2 * l) (nI i) (nI c) M = some 0 ∧ gOn K tb l i false c s.1) ∨ (F_42 (1 + 5 + 2 * l) (nI i) (nI c) M = some 1 ∧ ¬ gOn K tb l i false c s.1) := by
  have hk := (hW.2 l hl).1
  have hm := mny_lt hk
  have hb := ((hW.2 l hl).2.2 i hi).1
  have c0 : M (1 + 5 + 2 * l) 0 = nI (K l) := (hC.2 l hl).1
  have f2 := fb_lt _ hk i hi
  unfold F_42 J_42_36
  rw [gw_ok hW hC hl hi h1 h3, c0, E_1 _ hk]
  dsimp only
  cases hp : pr (K l)
  · have hu := ((hW.2 l hl).2.2 i hi).2 hp
    have r0 := row_0 _ hb c h1 h3 (fun d d1 d3 => hu c h1 h3 d d1 d3)
    have ok := okL_np hW hl hi hp h1 h3 h1 h3
    simp only [Bool.false_eq_true, Bool.true_eq_false, if_false, if_true]
    rw [gOn_n hp]
    cases hx : (tb l i).testBit (3 * c - 3)
    · rw [if_pos (r0.mpr hx)]
      exact Or.inr ⟨rfl, fun z => by have := ok.mp z; rw [hx] at this; cases this⟩
    · rw [if_neg (fun z => by rw [r0.mp z] at hx; cases hx)]
      exact Or.inl ⟨rfl, ok.mpr hx⟩
  · rw [E_3 _ hk i hi]
    simp only [if_true, one_ne, if_false]
    rw [if_pos ((inb_nI (by omega)).mpr f2), ni_cl (by omega), hs.1 _ f2, ni_and, gOn_f hp]
    have hbt : bt3 (tb l i >>> (3 * (c - 1)) &&& 7 &&& s.1 (fb (K l) i)) (fun d => (tb l i).testBit (3 * c + d - 4) = true ∧ (s.1 (fb (K l) i)).testBit (d - 1) = true) := (gw_b (b := tb l i) h1).and ⟨ho.1 _ f2, fun d _ _ => Iff.rfl⟩
    by_cases hz : (tb l i >>> (3 * (c - 1)) &&& 7) &&& s.1 (fb (K l) i) = 0
    · rw [hz, if_pos (show nI 0 = 0 from rfl)]
      exact Or.inr ⟨rfl, fun z => by obtain ⟨d, d1, d3, d4⟩ := z; exact hbt.zero.mp hz d d1 d3 d4⟩
    · rw [if_neg (nI_ne0 (by omega) (by have := hbt.1; omega))]
      refine Or.inl ⟨rfl, ?_⟩
      apply Classical.byContradiction
      intro z
      exact hz (hbt.zero.mpr (fun d d1 d3 d4 => z ⟨d, d1, d3, d4⟩))
theorem f43 (hW : LW n K P tb) (hC : LC 1 n K P tb M) (hs : ShC s M) (ho : okS s) (hl : l < n) (hi : i < mny (K l)) (h1 : 1 ≤ c) (h3 : c ≤ 3) : (pr (K l) = false ∧ F_43 (1 + 5 + 2 * l) (nI i) (nI c) M = some 0) ∨ (pr (K l) = true ∧ ((F_43 (1 + 5 + 2 * l) (nI i) (nI c) M = some 0 ∧ gOn K tb l i true c s.1) ∨ (F_43 (1 + 5 + 2 * l) (nI i) (nI c) M = some 1 ∧ ¬ gOn K tb l i true c s.1))) := by
  have hk := (hW.2 l hl).1
  have hm := mny_lt hk
  have hb := ((hW.2 l hl).2.2 i hi).1
  have c0 : M (1 + 5 + 2 * l) 0 = nI (K l) := (hC.2 l hl).1
  have ct : M (1 + 5 + 2 * l + 1) i = nI (tb l i) := by rw [show 1 + 5 + 2 * l + 1 = 1 + 6 + 2 * l by omega]; exact (hC.2 l hl).2.2 i hi
  have f1 := fa_lt _ hk i hi
  unfold F_43
  rw [c0, E_1 _ hk]
  cases hp : pr (K l)
  · exact Or.inl ⟨rfl, by simp only [Bool.false_eq_true, Bool.true_eq_false, if_false, if_true]⟩
  · refine Or.inr ⟨rfl, ?_⟩
    obtain ⟨w1, w2⟩ := cw_b (d := c) hb h1 h3
    simp only [if_true, one_ne, if_false]
    rw [f19_ok (d := c) (by omega) ct, w1, E_2 _ hk i hi]
    dsimp only
    rw [if_pos ((inb_nI (by omega)).mpr f1), ni_cl (by omega), hs.1 _ f1, ni_and, gOn_t hp]
    have hbt : bt3 (cwN (tb l i) c &&& s.1 (fa (K l) i)) (fun d => (tb l i).testBit (3 * d + c - 4) = true ∧ (s.1 (fa (K l) i)).testBit (d - 1) = true) := w2.and ⟨ho.1 _ f1, fun d _ _ => Iff.rfl⟩
    by_cases hz : cwN (tb l i) c &&& s.1 (fa (K l) i) = 0
    · rw [hz, if_pos (show nI 0 = 0 from rfl)]
      exact Or.inr ⟨rfl, fun z => by obtain ⟨d, d1, d3, d4⟩ := z; exact hbt.zero.mp hz d d1 d3 d4⟩
    · rw [if_neg (nI_ne0 (by omega) (by have := hbt.1; omega))]
      refine Or.inl ⟨rfl, ?_⟩
      apply Classical.byContradiction
      intro z
      exact hz (hbt.zero.mpr (fun d d1 d3 d4 => z ⟨d, d1, d3, d4⟩))
theorem emp_upd {h : Nat} (hh : h < 12) (hnz : s.1 h ≠ 0) : emp (stk s l h c).1 ↔ emp s.1 ∨ s.1 h - 2 ^ (c - 1) = 0 := by
  constructor
  · rintro ⟨k, k1, k2⟩
    have k2 : updN s.1 h (s.1 h - 2 ^ (c - 1)) k = 0 := k2
    unfold updN at k2
    by_cases e : k = h
    · rw [if_pos e] at k2; exact Or.inr k2
    · rw [if_neg e] at k2; exact Or.inl ⟨k, k1, k2⟩
  · rintro (⟨k, k1, k2⟩ | z)
    · refine ⟨k, k1, ?_⟩
      show updN s.1 h (s.1 h - 2 ^ (c - 1)) k = 0
      unfold updN
      rw [if_neg (fun q => hnz (by rw [← q]; exact k2))]
      exact k2
    · refine ⟨h, hh, ?_⟩
      show updN s.1 h (s.1 h - 2 ^ (c - 1)) h = 0
      unfold updN
      rw [if_pos rfl]
      exact z
theorem getD_app (T : List Nat) (x j : Nat) : (T ++ [x]).getD j 0 = if j < T.length then T.getD j 0 else if j = T.length then x else 0 := by
  rw [List.getD_eq_getElem?_getD, List.getD_eq_getElem?_getD]
  by_cases h : j < T.length
  · rw [if_pos h, List.getElem?_append_left h]
  · rw [if_neg h, List.getElem?_append_right (by omega)]
    by_cases e : j = T.length
    · rw [if_pos e, e, Nat.sub_self]; rfl
    · rw [if_neg e, List.getElem?_eq_none (by simp only [List.length_singleton]; omega)]; rfl
theorem f44 {h : Nat} (hs : ShC s M) (ho : okS s) (hl : l < 8) (hh : h < 12) (h1 : 1 ≤ c) (h3 : c ≤ 3) (hb : (s.1 h).testBit (c - 1) = true) : ∃ M', F_44 (nI l) (nI h) (nI c) M = some M' ∧ Chg 62 64 M M' ∧ ShC (stk s l h c) M' := by
  obtain ⟨s1, s2, s3, s4⟩ := hs
  obtain ⟨o1, o2⟩ := ho.stk hl hh h1 h3 hb
  obtain ⟨p1, p2, p3, -⟩ := p8_strike (s.1 h) (ho.1 h hh) (c - 1) (by omega) hb
  rw [show c - 1 + 1 = c by omega] at p3
  have hnz : s.1 h ≠ 0 := fun z => by rw [z, Nat.zero_testBit] at hb; cases hb
  have i1 : inb (nI h) 12 = true := (inb_nI (by omega)).mpr hh
  have i2 : (nI h).toNatClampNeg = h := ni_cl (by omega)
  have i3 : (48 : Int32) * nI l + 4 * nI h + nI c = nI (48 * l + 4 * h + c) := by
    rw [show (48 : Int32) * nI l = nI (48 * l) from ni_mul 48 l, show (4 : Int32) * nI h = nI (4 * h) from ni_mul 4 h, ni_add, ni_add]
  unfold F_44
  simp only [i1, i2, if_true, s1 h hh, p3]
  have k62 : (iset M 63 h (nI (s.1 h - 2 ^ (c - 1)))) 62 2 = nI s.2.length := by rw [iset_k (by decide)]; exact s2
  simp only [k62]
  rw [if_neg (show ¬ (36 : Int32) ≤ nI s.2.length from nI_ge (b := 36) o2 (by decide)), if_pos ((inb_nI (by omega)).mpr o2), ni_cl (by omega), i3]
  have k62b : (iset (iset M 63 h (nI (s.1 h - 2 ^ (c - 1)))) 64 s.2.length (nI (48 * l + 4 * h + c))) 62 2 = nI s.2.length := by rw [iset_k (by decide)]; exact k62
  rw [k62b, ni_add1]
  generalize hB : iset (iset (iset M 63 h (nI (s.1 h - 2 ^ (c - 1)))) 64 s.2.length (nI (48 * l + 4 * h + c))) 62 2 (nI (s.2.length + 1)) = B
  have b1 : ∀ k, k < 12 → B 63 k = nI ((stk s l h c).1 k) := fun k hk => by
    rw [← hB, iset_k (by decide), iset_k (by decide)]
    show _ = nI (updN s.1 h (s.1 h - 2 ^ (c - 1)) k)
    unfold updN
    by_cases e : k = h
    · rw [e, iset_same, if_pos rfl]
    · rw [iset_j e, if_neg e]; exact s1 k hk
  have b2 : B 62 2 = nI (stk s l h c).2.length := by
    rw [← hB, iset_same]
    show _ = nI (s.2 ++ [48 * l + 4 * h + c]).length
    rw [List.length_append, List.length_singleton]
  have b3 : ∀ j, j < (stk s l h c).2.length → B 64 j = nI ((stk s l h c).2.getD j 0) := fun j hj => by
    have hj : j < (s.2 ++ [48 * l + 4 * h + c]).length := hj
    rw [List.length_append, List.length_singleton] at hj
    show _ = nI ((s.2 ++ [48 * l + 4 * h + c]).getD j 0)
    rw [← hB, iset_k (by decide), getD_app]
    by_cases e : j < s.2.length
    · rw [iset_j (by omega), iset_k (by decide), if_pos e]; exact s3 j e
    · obtain rfl : j = s.2.length := by omega
      rw [iset_same, if_neg e, if_pos rfl]
  have b4 : B 62 3 = M 62 3 := by rw [← hB, iset_j (by decide), iset_k (by decide), iset_k (by decide)]
  have bc : Chg 62 64 M B := by rw [← hB]; exact (((Chg.rf 62 64 M).set (by decide) (by decide)).set (by decide) (by decide)).set (by decide) (by decide)
  have b63 : B 63 h = nI (s.1 h - 2 ^ (c - 1)) := by
    rw [b1 h hh]
    show nI (updN s.1 h (s.1 h - 2 ^ (c - 1)) h) = _
    unfold updN; rw [if_pos rfl]
  have fin : ∀ x : Int32, ((x = 1 ∧ emp (stk s l h c).1) ∨ (x = 0 ∧ ¬ emp (stk s l h c).1)) → ShC (stk s l h c) (iset B 62 3 x) := fun x hx => ⟨fun k hk => by rw [iset_k (by decide)]; exact b1 k hk, by rw [iset_j (by decide)]; exact b2, fun j hj => by rw [iset_k (by decide)]; exact b3 j hj, by rw [iset_same]; exact hx⟩
  unfold J_44_53 J_44_70 J_44_75
  rw [b4]
  rcases s4 with ⟨e1, e2⟩ | ⟨e1, e2⟩
  · rw [e1, if_neg one_ne]
    exact ⟨_, rfl, bc.set (by decide) (by decide), fin 1 (Or.inl ⟨rfl, (emp_upd hh hnz).mpr (Or.inl e2)⟩)⟩
  · rw [e1, if_pos rfl, if_pos i1, i2, b63]
    by_cases hz : s.1 h - 2 ^ (c - 1) = 0
    · rw [hz, if_pos (show nI 0 = 0 from rfl)]
      exact ⟨_, rfl, bc.set (by decide) (by decide), fin 1 (Or.inl ⟨rfl, (emp_upd hh hnz).mpr (Or.inr hz)⟩)⟩
    · rw [if_neg (nI_ne0 (by omega) (by omega))]
      exact ⟨_, rfl, bc.set (by decide) (by decide), fin 0 (Or.inr ⟨rfl, fun z => by
        rcases (emp_upd hh hnz).mp z with q | q
        · exact e2 q
        · exact hz q⟩)⟩
end SHOW
