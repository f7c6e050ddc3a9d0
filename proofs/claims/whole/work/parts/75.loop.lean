/-! the law, over every script -/
abbrev LSt : Type := (Int32 × IM) ⊕ ((Int32 × IM) ⊕ (Int32 × IM))
def GoX (i : Nat) (o : Option LSt) : Prop := ∃ M2, o = some (.inl (nI (i + 6), M2)) ∧ Inv M2
theorem GoX.br {i : Nat} {c : Prop} [Decidable c] {x y : Option LSt} (h1 : GoX i x) (h2 : GoX i y) : GoX i (if c then x else y) := by
  by_cases z : c
  · rw [if_pos z]; exact h1
  · rw [if_neg z]; exact h2
theorem go_end {X : AX} {i : Nat} {M : IM} (hI : Inv M) : GoX i (J_258_1392_18 X (nI i) M) := ⟨M, by unfold J_258_1392_18; rw [show nI i + 6 = nI (i + 6) from ni_add i 6], hI⟩
theorem go_in {L i k : Nat} (hi : i + 6 ≤ L) (hL : L ≤ 384) (hk : k ≤ 5) : inb (nI i + nI k) L = true := by
  rw [ni_add, inb_nI (by omega)]; omega
theorem lg_rf (x : Int64) : lg_cmp x x = 0 := by
  unfold lg_cmp
  simp
theorem g_hall {X : AX} {i : Nat} {M : IM} (hi : i + 6 ≤ X.1) (hX : X.1 ≤ 384) (hI : Inv M) : GoX i (J_258_204_18 X (nI i) M) := by
  have b1 : inb (nI i + 1) X.1 = true := go_in (k := 1) hi hX (by decide)
  have b2 : inb (nI i + 2) X.1 = true := go_in (k := 2) hi hX (by decide)
  obtain ⟨r, M1, M2, h1, h2, h3⟩ := B_hall (X.2 (nI i + 1).toNatClampNeg) (X.2 (nI i + 2).toNatClampNeg) M hI
  unfold J_258_204_18
  rw [if_pos b1, if_pos b2, h1]
  dsimp only
  rw [if_pos b1, if_pos b2, h2]
  dsimp only
  rw [if_pos rfl]
  exact go_end h3
theorem g_moved {X : AX} {i : Nat} {M : IM} (hi : i + 6 ≤ X.1) (hX : X.1 ≤ 384) (hI : Inv M) : GoX i (J_258_237_18 X (nI i) M) := by
  have b1 : inb (nI i + 1) X.1 = true := go_in (k := 1) hi hX (by decide)
  have b2 : inb (nI i + 2) X.1 = true := go_in (k := 2) hi hX (by decide)
  obtain ⟨r, M1, M2, h1, h2, h3⟩ := B_moved (X.2 (nI i + 1).toNatClampNeg) (X.2 (nI i + 2).toNatClampNeg) M hI
  unfold J_258_237_18
  rw [if_pos b1, if_pos b2, h1]
  dsimp only
  rw [if_pos b1, if_pos b2, h2]
  dsimp only
  rw [if_pos rfl]
  exact go_end h3
theorem g_choose {X : AX} {i : Nat} {M : IM} (hi : i + 6 ≤ X.1) (hX : X.1 ≤ 384) (hI : Inv M) : GoX i (J_258_270_18 X (nI i) M) := by
  have b1 : inb (nI i + 1) X.1 = true := go_in (k := 1) hi hX (by decide)
  have b2 : inb (nI i + 2) X.1 = true := go_in (k := 2) hi hX (by decide)
  obtain ⟨r, M1, M2, h1, h2, h3⟩ := B_choose (X.2 (nI i + 1).toNatClampNeg) (X.2 (nI i + 2).toNatClampNeg) M hI
  unfold J_258_270_18
  rw [if_pos b1, if_pos b2, h1]
  dsimp only
  rw [if_pos b1, if_pos b2, h2]
  dsimp only
  rw [if_pos rfl]
  exact go_end h3
theorem g_chosen {X : AX} {i : Nat} {M : IM} (hi : i + 6 ≤ X.1) (hX : X.1 ≤ 384) (hI : Inv M) : GoX i (J_258_303_18 X (nI i) M) := by
  have b1 : inb (nI i + 1) X.1 = true := go_in (k := 1) hi hX (by decide)
  obtain ⟨r, M1, M2, h1, h2, h3⟩ := B_chosen (X.2 (nI i + 1).toNatClampNeg) M hI
  unfold J_258_303_18
  rw [if_pos b1, h1]
  dsimp only
  rw [if_pos b1, h2]
  dsimp only
  rw [if_pos rfl]
  exact go_end h3
theorem g_block {X : AX} {i : Nat} {M : IM} (hi : i + 6 ≤ X.1) (hX : X.1 ≤ 384) (hI : Inv M) : GoX i (J_258_326_18 X (nI i) M) := by
  have b1 : inb (nI i + 1) X.1 = true := go_in (k := 1) hi hX (by decide)
  obtain ⟨r, M1, M2, h1, h2, h3⟩ := B_block (X.2 (nI i + 1).toNatClampNeg) M hI
  unfold J_258_326_18
  rw [if_pos b1, h1]
  dsimp only
  rw [if_pos b1, h2]
  dsimp only
  rw [if_pos rfl]
  exact go_end h3
theorem g_form {X : AX} {i : Nat} {M : IM} (hi : i + 6 ≤ X.1) (hX : X.1 ≤ 384) (hI : Inv M) : GoX i (J_258_349_18 X (nI i) M) := by
  have b1 : inb (nI i + 1) X.1 = true := go_in (k := 1) hi hX (by decide)
  obtain ⟨r, M1, M2, h1, h2, h3⟩ := B_form (X.2 (nI i + 1).toNatClampNeg) M hI
  unfold J_258_349_18
  rw [if_pos b1, h1]
  dsimp only
  rw [if_pos b1, h2]
  dsimp only
  rw [if_pos rfl]
  exact go_end h3
theorem g_feed {X : AX} {i : Nat} {M : IM} (hi : i + 6 ≤ X.1) (hX : X.1 ≤ 384) (hI : Inv M) : GoX i (J_258_372_18 X (nI i) M) := by
  have b1 : inb (nI i + 1) X.1 = true := go_in (k := 1) hi hX (by decide)
  have b2 : inb (nI i + 2) X.1 = true := go_in (k := 2) hi hX (by decide)
  have b3 : inb (nI i + 3) X.1 = true := go_in (k := 3) hi hX (by decide)
  obtain ⟨r, M1, M2, h1, h2, h3⟩ := B_feed ((((X.2 (nI i + 1).toNatClampNeg).toInt64) <<< ((32 : Int32).toInt64 &&& 63)) ||| (((X.2 (nI i + 2).toNatClampNeg).toInt64) &&& 4294967295)) (X.2 (nI i + 3).toNatClampNeg) M hI
  unfold J_258_372_18
  rw [if_pos b1, if_pos b2, if_pos b3, h1]
  dsimp only
  rw [if_pos b1, if_pos b2, if_pos b3, h2]
  dsimp only
  rw [if_pos rfl]
  exact go_end h3
theorem g_law {X : AX} {i : Nat} {M : IM} (hi : i + 6 ≤ X.1) (hX : X.1 ≤ 384) (hI : Inv M) : GoX i (J_258_435_18 X (nI i) M) := by
  have b1 : inb (nI i + 1) X.1 = true := go_in (k := 1) hi hX (by decide)
  have b2 : inb (nI i + 2) X.1 = true := go_in (k := 2) hi hX (by decide)
  obtain ⟨r, M1, M2, h1, h2, h3⟩ := B_law (X.2 (nI i + 1).toNatClampNeg) (X.2 (nI i + 2).toNatClampNeg) M hI
  unfold J_258_435_18
  rw [if_pos b1, if_pos b2, h1]
  dsimp only
  rw [if_pos b1, if_pos b2, h2]
  dsimp only
  rw [if_pos rfl]
  exact go_end h3
theorem g_price {X : AX} {i : Nat} {M : IM} (hi : i + 6 ≤ X.1) (hX : X.1 ≤ 384) (hI : Inv M) : GoX i (J_258_468_18 X (nI i) M) := by
  have b1 : inb (nI i + 1) X.1 = true := go_in (k := 1) hi hX (by decide)
  have b2 : inb (nI i + 2) X.1 = true := go_in (k := 2) hi hX (by decide)
  obtain ⟨r, M1, M2, h1, h2, h3⟩ := B_price (X.2 (nI i + 1).toNatClampNeg) (X.2 (nI i + 2).toNatClampNeg) M hI
  unfold J_258_468_18
  rw [if_pos b1, if_pos b2, h1]
  dsimp only
  rw [if_pos b1, if_pos b2, h2]
  dsimp only
  rw [if_pos rfl]
  exact go_end h3
theorem g_as {X : AX} {i : Nat} {M : IM} (hi : i + 6 ≤ X.1) (hX : X.1 ≤ 384) (hI : Inv M) : GoX i (J_258_501_18 X (nI i) M) := by
  have b1 : inb (nI i + 1) X.1 = true := go_in (k := 1) hi hX (by decide)
  have b2 : inb (nI i + 2) X.1 = true := go_in (k := 2) hi hX (by decide)
  obtain ⟨r, M1, M2, h1, h2, h3⟩ := B_as (X.2 (nI i + 1).toNatClampNeg) (X.2 (nI i + 2).toNatClampNeg) M hI
  unfold J_258_501_18
  rw [if_pos b1, if_pos b2, h1]
  dsimp only
  rw [if_pos b1, if_pos b2, h2]
  dsimp only
  rw [if_pos rfl]
  exact go_end h3
theorem g_part {X : AX} {i : Nat} {M : IM} (hi : i + 6 ≤ X.1) (hX : X.1 ≤ 384) (hI : Inv M) : GoX i (J_258_534_18 X (nI i) M) := by
  have b1 : inb (nI i + 1) X.1 = true := go_in (k := 1) hi hX (by decide)
  have b2 : inb (nI i + 2) X.1 = true := go_in (k := 2) hi hX (by decide)
  have b3 : inb (nI i + 3) X.1 = true := go_in (k := 3) hi hX (by decide)
  obtain ⟨r, M1, M2, h1, h2, h3⟩ := B_part (X.2 (nI i + 1).toNatClampNeg) (X.2 (nI i + 2).toNatClampNeg) (X.2 (nI i + 3).toNatClampNeg) M hI
  unfold J_258_534_18
  rw [if_pos b1, if_pos b2, if_pos b3, h1]
  dsimp only
  rw [if_pos b1, if_pos b2, if_pos b3, h2]
  dsimp only
  rw [if_pos rfl]
  exact go_end h3
theorem g_so {X : AX} {i : Nat} {M : IM} (hi : i + 6 ≤ X.1) (hX : X.1 ≤ 384) (hI : Inv M) : GoX i (J_258_577_18 X (nI i) M) := by
  have b1 : inb (nI i + 1) X.1 = true := go_in (k := 1) hi hX (by decide)
  have b2 : inb (nI i + 2) X.1 = true := go_in (k := 2) hi hX (by decide)
  have b3 : inb (nI i + 3) X.1 = true := go_in (k := 3) hi hX (by decide)
  have b4 : inb (nI i + 4) X.1 = true := go_in (k := 4) hi hX (by decide)
  obtain ⟨r, M1, M2, h1, h2, h3⟩ := B_so (X.2 (nI i + 1).toNatClampNeg) (X.2 (nI i + 2).toNatClampNeg) (X.2 (nI i + 3).toNatClampNeg) (X.2 (nI i + 4).toNatClampNeg) M hI
  unfold J_258_577_18
  rw [if_pos b1, if_pos b2, if_pos b3, if_pos b4, h1]
  dsimp only
  rw [if_pos b1, if_pos b2, if_pos b3, if_pos b4, h2]
  dsimp only
  rw [if_pos rfl]
  exact go_end h3
theorem g_breach {X : AX} {i : Nat} {M : IM} (hi : i + 6 ≤ X.1) (hX : X.1 ≤ 384) (hI : Inv M) : GoX i (J_258_630_18 X (nI i) M) := by
  have b1 : inb (nI i + 1) X.1 = true := go_in (k := 1) hi hX (by decide)
  obtain ⟨r, M1, M2, h1, h2, h3⟩ := B_breach (X.2 (nI i + 1).toNatClampNeg) M hI
  unfold J_258_630_18
  rw [if_pos b1, h1]
  dsimp only
  rw [if_pos b1, h2]
  dsimp only
  rw [if_pos rfl]
  exact go_end h3
theorem g_kept {X : AX} {i : Nat} {M : IM} (hi : i + 6 ≤ X.1) (hX : X.1 ≤ 384) (hI : Inv M) : GoX i (J_258_653_18 X (nI i) M) := by
  obtain ⟨r, h1, h2⟩ := B_kept hI
  unfold J_258_653_18
  rw [h1]
  dsimp only
  rw [h2]
  dsimp only
  rw [if_pos rfl]
  exact go_end hI
theorem g_find {X : AX} {i : Nat} {M : IM} (hi : i + 6 ≤ X.1) (hX : X.1 ≤ 384) (hI : Inv M) : GoX i (J_258_666_18 X (nI i) M) := by
  have b1 : inb (nI i + 1) X.1 = true := go_in (k := 1) hi hX (by decide)
  have b2 : inb (nI i + 2) X.1 = true := go_in (k := 2) hi hX (by decide)
  obtain ⟨r, M1, M2, h1, h2, h3⟩ := B_find (X.2 (nI i + 1).toNatClampNeg) (X.2 (nI i + 2).toNatClampNeg) M hI
  unfold J_258_666_18
  rw [if_pos b1, if_pos b2, h1]
  dsimp only
  rw [if_pos b1, if_pos b2, h2]
  dsimp only
  rw [if_pos rfl]
  exact go_end h3
theorem g_write {X : AX} {i : Nat} {M : IM} (hi : i + 6 ≤ X.1) (hX : X.1 ≤ 384) (hI : Inv M) : GoX i (J_258_699_18 X (nI i) M) := by
  have b1 : inb (nI i + 1) X.1 = true := go_in (k := 1) hi hX (by decide)
  obtain ⟨r, M1, M2, h1, h2, h3⟩ := B_write (X.2 (nI i + 1).toNatClampNeg) M hI
  unfold J_258_699_18
  rw [if_pos b1, h1]
  dsimp only
  rw [if_pos b1, h2]
  dsimp only
  rw [if_pos rfl]
  exact go_end h3
theorem g_rules {X : AX} {i : Nat} {M : IM} (hi : i + 6 ≤ X.1) (hX : X.1 ≤ 384) (hI : Inv M) : GoX i (J_258_722_18 X (nI i) M) := by
  have b1 : inb (nI i + 1) X.1 = true := go_in (k := 1) hi hX (by decide)
  obtain ⟨r, M1, M2, h1, h2, h3⟩ := B_rules (X.2 (nI i + 1).toNatClampNeg) M hI
  unfold J_258_722_18
  rw [if_pos b1, h1]
  dsimp only
  rw [if_pos b1, h2]
  dsimp only
  rw [if_pos (lg_rf r)]
  exact go_end h3
theorem g_may {X : AX} {i : Nat} {M : IM} (hi : i + 6 ≤ X.1) (hX : X.1 ≤ 384) (hI : Inv M) : GoX i (J_258_746_18 X (nI i) M) := by
  have b1 : inb (nI i + 1) X.1 = true := go_in (k := 1) hi hX (by decide)
  have b2 : inb (nI i + 2) X.1 = true := go_in (k := 2) hi hX (by decide)
  obtain ⟨r, M1, M2, h1, h2, h3⟩ := B_may (X.2 (nI i + 1).toNatClampNeg) (X.2 (nI i + 2).toNatClampNeg) M hI
  unfold J_258_746_18
  rw [if_pos b1, if_pos b2, h1]
  dsimp only
  rw [if_pos b1, if_pos b2, h2]
  dsimp only
  rw [if_pos rfl]
  exact go_end h3
theorem g_near {X : AX} {i : Nat} {M : IM} (hi : i + 6 ≤ X.1) (hX : X.1 ≤ 384) (hI : Inv M) : GoX i (J_258_779_18 X (nI i) M) := by
  have b1 : inb (nI i + 1) X.1 = true := go_in (k := 1) hi hX (by decide)
  obtain ⟨r, M1, M2, h1, h2, h3⟩ := B_near (X.2 (nI i + 1).toNatClampNeg) M hI
  unfold J_258_779_18
  rw [if_pos b1, h1]
  dsimp only
  rw [if_pos b1, h2]
  dsimp only
  rw [if_pos rfl]
  exact go_end h3
theorem g_word {X : AX} {i : Nat} {M : IM} (hi : i + 6 ≤ X.1) (hX : X.1 ≤ 384) (hI : Inv M) : GoX i (J_258_802_18 X (nI i) M) := by
  have b1 : inb (nI i + 1) X.1 = true := go_in (k := 1) hi hX (by decide)
  obtain ⟨r, M1, M2, h1, h2, h3⟩ := B_word (X.2 (nI i + 1).toNatClampNeg) M hI
  unfold J_258_802_18
  rw [if_pos b1, h1]
  dsimp only
  rw [if_pos b1, h2]
  dsimp only
  rw [if_pos rfl]
  exact go_end h3
theorem g_show {X : AX} {i : Nat} {M : IM} (hi : i + 6 ≤ X.1) (hX : X.1 ≤ 384) (hI : Inv M) : GoX i (J_258_825_18 X (nI i) M) := by
  have b1 : inb (nI i + 1) X.1 = true := go_in (k := 1) hi hX (by decide)
  have b2 : inb (nI i + 2) X.1 = true := go_in (k := 2) hi hX (by decide)
  obtain ⟨r, M1, M2, h1, h2, h3⟩ := B_show (X.2 (nI i + 1).toNatClampNeg) (X.2 (nI i + 2).toNatClampNeg) M hI
  unfold J_258_825_18
  rw [if_pos b1, if_pos b2, h1]
  dsimp only
  rw [if_pos b1, if_pos b2, h2]
  dsimp only
  rw [if_pos rfl]
  exact go_end h3
theorem g_check {X : AX} {i : Nat} {M : IM} (hi : i + 6 ≤ X.1) (hX : X.1 ≤ 384) (hI : Inv M) : GoX i (J_258_858_18 X (nI i) M) := by
  have b1 : inb (nI i + 1) X.1 = true := go_in (k := 1) hi hX (by decide)
  have b2 : inb (nI i + 2) X.1 = true := go_in (k := 2) hi hX (by decide)
  obtain ⟨r, M1, M2, h1, h2, h3⟩ := B_check (X.2 (nI i + 1).toNatClampNeg) (X.2 (nI i + 2).toNatClampNeg) M hI
  unfold J_258_858_18
  rw [if_pos b1, if_pos b2, h1]
  dsimp only
  rw [if_pos b1, if_pos b2, h2]
  dsimp only
  rw [if_pos rfl]
  exact go_end h3
theorem g_small {X : AX} {i : Nat} {M : IM} (hi : i + 6 ≤ X.1) (hX : X.1 ≤ 384) (hI : Inv M) : GoX i (J_258_891_18 X (nI i) M) := by
  have b1 : inb (nI i + 1) X.1 = true := go_in (k := 1) hi hX (by decide)
  obtain ⟨r, M1, M2, h1, h2, h3⟩ := B_small (X.2 (nI i + 1).toNatClampNeg) M hI
  unfold J_258_891_18
  rw [if_pos b1, h1]
  dsimp only
  rw [if_pos b1, h2]
  dsimp only
  rw [if_pos rfl]
  exact go_end h3
theorem g_few {X : AX} {i : Nat} {M : IM} (hi : i + 6 ≤ X.1) (hX : X.1 ≤ 384) (hI : Inv M) : GoX i (J_258_914_18 X (nI i) M) := by
  have b1 : inb (nI i + 1) X.1 = true := go_in (k := 1) hi hX (by decide)
  obtain ⟨r, M1, M2, h1, h2, h3⟩ := B_few (X.2 (nI i + 1).toNatClampNeg) M hI
  unfold J_258_914_18
  rw [if_pos b1, h1]
  dsimp only
  rw [if_pos b1, h2]
  dsimp only
  rw [if_pos rfl]
  exact go_end h3
theorem g_give {X : AX} {i : Nat} {M : IM} (hi : i + 6 ≤ X.1) (hX : X.1 ≤ 384) (hI : Inv M) : GoX i (J_258_937_18 X (nI i) M) := by
  have b1 : inb (nI i + 1) X.1 = true := go_in (k := 1) hi hX (by decide)
  have b2 : inb (nI i + 2) X.1 = true := go_in (k := 2) hi hX (by decide)
  obtain ⟨r, M1, M2, h1, h2, h3⟩ := B_give (X.2 (nI i + 1).toNatClampNeg) (X.2 (nI i + 2).toNatClampNeg) M hI
  unfold J_258_937_18
  rw [if_pos b1, if_pos b2, h1]
  dsimp only
  rw [if_pos b1, if_pos b2, h2]
  dsimp only
  rw [if_pos rfl]
  exact go_end h3
theorem g_follows {X : AX} {i : Nat} {M : IM} (hi : i + 6 ≤ X.1) (hX : X.1 ≤ 384) (hI : Inv M) : GoX i (J_258_970_18 X (nI i) M) := by
  have b1 : inb (nI i + 1) X.1 = true := go_in (k := 1) hi hX (by decide)
  have b2 : inb (nI i + 2) X.1 = true := go_in (k := 2) hi hX (by decide)
  obtain ⟨r, M1, M2, h1, h2, h3⟩ := B_follows (X.2 (nI i + 1).toNatClampNeg) (X.2 (nI i + 2).toNatClampNeg) M hI
  unfold J_258_970_18
  rw [if_pos b1, if_pos b2, h1]
  dsimp only
  rw [if_pos b1, if_pos b2, h2]
  dsimp only
  rw [if_pos rfl]
  exact go_end h3
theorem g_spare {X : AX} {i : Nat} {M : IM} (hi : i + 6 ≤ X.1) (hX : X.1 ≤ 384) (hI : Inv M) : GoX i (J_258_1003_18 X (nI i) M) := by
  have b1 : inb (nI i + 1) X.1 = true := go_in (k := 1) hi hX (by decide)
  obtain ⟨r, M1, M2, h1, h2, h3⟩ := B_spare (X.2 (nI i + 1).toNatClampNeg) M hI
  unfold J_258_1003_18
  rw [if_pos b1, h1]
  dsimp only
  rw [if_pos b1, h2]
  dsimp only
  rw [if_pos rfl]
  exact go_end h3
theorem g_same {X : AX} {i : Nat} {M : IM} (hi : i + 6 ≤ X.1) (hX : X.1 ≤ 384) (hI : Inv M) : GoX i (J_258_1026_18 X (nI i) M) := by
  have b1 : inb (nI i + 1) X.1 = true := go_in (k := 1) hi hX (by decide)
  have b2 : inb (nI i + 2) X.1 = true := go_in (k := 2) hi hX (by decide)
  obtain ⟨r, M1, M2, h1, h2, h3⟩ := B_same (X.2 (nI i + 1).toNatClampNeg) (X.2 (nI i + 2).toNatClampNeg) M hI
  unfold J_258_1026_18
  rw [if_pos b1, if_pos b2, h1]
  dsimp only
  rw [if_pos b1, if_pos b2, h2]
  dsimp only
  rw [if_pos rfl]
  exact go_end h3
theorem g_voice {X : AX} {i : Nat} {M : IM} (hi : i + 6 ≤ X.1) (hX : X.1 ≤ 384) (hI : Inv M) : GoX i (J_258_1059_18 X (nI i) M) := by
  have b1 : inb (nI i + 1) X.1 = true := go_in (k := 1) hi hX (by decide)
  have b2 : inb (nI i + 2) X.1 = true := go_in (k := 2) hi hX (by decide)
  have b3 : inb (nI i + 3) X.1 = true := go_in (k := 3) hi hX (by decide)
  obtain ⟨r, M1, M2, h1, h2, h3⟩ := B_voice (X.2 (nI i + 1).toNatClampNeg) (X.2 (nI i + 2).toNatClampNeg) (X.2 (nI i + 3).toNatClampNeg) M hI
  unfold J_258_1059_18
  rw [if_pos b1, if_pos b2, if_pos b3, h1]
  dsimp only
  rw [if_pos b1, if_pos b2, if_pos b3, h2]
  dsimp only
  rw [if_pos rfl]
  exact go_end h3
theorem g_trace {X : AX} {i : Nat} {M : IM} (hi : i + 6 ≤ X.1) (hX : X.1 ≤ 384) (hI : Inv M) : GoX i (J_258_1102_18 X (nI i) M) := by
  have b1 : inb (nI i + 1) X.1 = true := go_in (k := 1) hi hX (by decide)
  obtain ⟨r, M1, M2, h1, h2, h3⟩ := B_trace (X.2 (nI i + 1).toNatClampNeg) M hI
  unfold J_258_1102_18
  rw [if_pos b1, h1]
  dsimp only
  rw [if_pos b1, h2]
  dsimp only
  rw [if_pos rfl]
  exact go_end h3
theorem g_sheet {X : AX} {i : Nat} {M : IM} (hi : i + 6 ≤ X.1) (hX : X.1 ≤ 384) (hI : Inv M) : GoX i (J_258_1125_18 X (nI i) M) := by
  have b1 : inb (nI i + 1) X.1 = true := go_in (k := 1) hi hX (by decide)
  have b2 : inb (nI i + 2) X.1 = true := go_in (k := 2) hi hX (by decide)
  have b3 : inb (nI i + 3) X.1 = true := go_in (k := 3) hi hX (by decide)
  obtain ⟨r, M1, M2, h1, h2, h3⟩ := B_sheet (X.2 (nI i + 1).toNatClampNeg) (X.2 (nI i + 2).toNatClampNeg) (X.2 (nI i + 3).toNatClampNeg) M hI
  unfold J_258_1125_18
  rw [if_pos b1, if_pos b2, if_pos b3, h1]
  dsimp only
  rw [if_pos b1, if_pos b2, if_pos b3, h2]
  dsimp only
  rw [if_pos rfl]
  exact go_end h3
theorem g_put {X : AX} {i : Nat} {M : IM} (hi : i + 6 ≤ X.1) (hX : X.1 ≤ 384) (hI : Inv M) : GoX i (J_258_1168_18 X (nI i) M) := by
  have b1 : inb (nI i + 1) X.1 = true := go_in (k := 1) hi hX (by decide)
  have b2 : inb (nI i + 2) X.1 = true := go_in (k := 2) hi hX (by decide)
  have b3 : inb (nI i + 3) X.1 = true := go_in (k := 3) hi hX (by decide)
  obtain ⟨r, M1, M2, h1, h2, h3⟩ := B_put (X.2 (nI i + 1).toNatClampNeg) (X.2 (nI i + 2).toNatClampNeg) (X.2 (nI i + 3).toNatClampNeg) M hI
  unfold J_258_1168_18
  rw [if_pos b1, if_pos b2, if_pos b3, h1]
  dsimp only
  rw [if_pos b1, if_pos b2, if_pos b3, h2]
  dsimp only
  rw [if_pos rfl]
  exact go_end h3
theorem g_move {X : AX} {i : Nat} {M : IM} (hi : i + 6 ≤ X.1) (hX : X.1 ≤ 384) (hI : Inv M) : GoX i (J_258_1211_18 X (nI i) M) := by
  have b1 : inb (nI i + 1) X.1 = true := go_in (k := 1) hi hX (by decide)
  have b2 : inb (nI i + 2) X.1 = true := go_in (k := 2) hi hX (by decide)
  have b3 : inb (nI i + 3) X.1 = true := go_in (k := 3) hi hX (by decide)
  have b4 : inb (nI i + 4) X.1 = true := go_in (k := 4) hi hX (by decide)
  have b5 : inb (nI i + 5) X.1 = true := go_in (k := 5) hi hX (by decide)
  obtain ⟨r, M1, M2, h1, h2, h3⟩ := B_move (X.2 (nI i + 1).toNatClampNeg) (X.2 (nI i + 2).toNatClampNeg) (X.2 (nI i + 3).toNatClampNeg) (X.2 (nI i + 4).toNatClampNeg) (X.2 (nI i + 5).toNatClampNeg) M hI
  unfold J_258_1211_18
  rw [if_pos b1, if_pos b2, if_pos b3, if_pos b4, if_pos b5, h1]
  dsimp only
  rw [if_pos b1, if_pos b2, if_pos b3, if_pos b4, if_pos b5, h2]
  dsimp only
  rw [if_pos rfl]
  exact go_end h3
theorem g_image {X : AX} {i : Nat} {M : IM} (hi : i + 6 ≤ X.1) (hX : X.1 ≤ 384) (hI : Inv M) : GoX i (J_258_1274_18 X (nI i) M) := by
  obtain ⟨r, M1, M2, h1, h2, h3⟩ := B_image  M hI
  unfold J_258_1274_18
  rw [h1]
  dsimp only
  rw [h2]
  dsimp only
  rw [if_pos rfl]
  exact go_end h3
theorem g_restore {X : AX} {i : Nat} {M : IM} (hi : i + 6 ≤ X.1) (hX : X.1 ≤ 384) (hI : Inv M) : GoX i (J_258_1287_18 X (nI i) M) := by
  obtain ⟨r, M1, M2, h1, h2, h3⟩ := B_restore  M hI
  unfold J_258_1287_18
  rw [h1]
  dsimp only
  rw [h2]
  dsimp only
  rw [if_pos rfl]
  exact go_end h3
theorem g_tell {X : AX} {i : Nat} {M : IM} (hi : i + 6 ≤ X.1) (hX : X.1 ≤ 384) (hI : Inv M) : GoX i (J_258_1300_18 X (nI i) M) := by
  have b1 : inb (nI i + 1) X.1 = true := go_in (k := 1) hi hX (by decide)
  obtain ⟨r, M1, M2, h1, h2, h3⟩ := B_tell (X.2 (nI i + 1).toNatClampNeg) M hI
  unfold J_258_1300_18
  rw [if_pos b1, h1]
  dsimp only
  rw [if_pos b1, h2]
  dsimp only
  rw [if_pos rfl]
  exact go_end h3
theorem g_learn {X : AX} {i : Nat} {M : IM} (hi : i + 6 ≤ X.1) (hX : X.1 ≤ 384) (hI : Inv M) : GoX i (J_258_1323_18 X (nI i) M) := by
  have b1 : inb (nI i + 1) X.1 = true := go_in (k := 1) hi hX (by decide)
  obtain ⟨r, M1, M2, h1, h2, h3⟩ := B_learn (X.2 (nI i + 1).toNatClampNeg) M hI
  unfold J_258_1323_18
  rw [if_pos b1, h1]
  dsimp only
  rw [if_pos b1, h2]
  dsimp only
  rw [if_pos rfl]
  exact go_end h3
theorem g_count {X : AX} {i : Nat} {M : IM} (hi : i + 6 ≤ X.1) (hX : X.1 ≤ 384) (hI : Inv M) : GoX i (J_258_1346_18 X (nI i) M) := by
  have b1 : inb (nI i + 1) X.1 = true := go_in (k := 1) hi hX (by decide)
  obtain ⟨r, M1, M2, h1, h2, h3⟩ := B_count (X.2 (nI i + 1).toNatClampNeg) M hI
  unfold J_258_1346_18
  rw [if_pos b1, h1]
  dsimp only
  rw [if_pos b1, h2]
  dsimp only
  rw [if_pos rfl]
  exact go_end h3
theorem g_told {X : AX} {i : Nat} {M : IM} (hi : i + 6 ≤ X.1) (hX : X.1 ≤ 384) (hI : Inv M) : GoX i (J_258_1369_18 X (nI i) M) := by
  have b1 : inb (nI i + 1) X.1 = true := go_in (k := 1) hi hX (by decide)
  obtain ⟨r, M1, M2, h1, h2, h3⟩ := B_told (X.2 (nI i + 1).toNatClampNeg) M hI
  unfold J_258_1369_18
  rw [if_pos b1, h1]
  dsimp only
  rw [if_pos b1, h2]
  dsimp only
  rw [if_pos rfl]
  exact go_end h3
theorem go_all {X : AX} {i : Nat} {M : IM} (hi : i + 6 ≤ X.1) (hX : X.1 ≤ 384) (hI : Inv M) : GoX i (B_258_18 X (nI i, M)) := by
  show GoX i (if nI X.1 - nI 6 < nI i then _ else (if inb (nI i) X.1 = true then _ else _))
  rw [ni_sub (by omega), ie_lt (by omega) (by omega), if_neg (by omega), ie_in (by omega), if_pos (by omega)]
  refine GoX.br (g_hall hi hX hI) ?_
  refine GoX.br (g_moved hi hX hI) ?_
  refine GoX.br (g_choose hi hX hI) ?_
  refine GoX.br (g_chosen hi hX hI) ?_
  refine GoX.br (g_block hi hX hI) ?_
  refine GoX.br (g_form hi hX hI) ?_
  refine GoX.br (g_feed hi hX hI) ?_
  refine GoX.br (g_law hi hX hI) ?_
  refine GoX.br (g_price hi hX hI) ?_
  refine GoX.br (g_as hi hX hI) ?_
  refine GoX.br (g_part hi hX hI) ?_
  refine GoX.br (g_so hi hX hI) ?_
  refine GoX.br (g_breach hi hX hI) ?_
  refine GoX.br (g_kept hi hX hI) ?_
  refine GoX.br (g_find hi hX hI) ?_
  refine GoX.br (g_write hi hX hI) ?_
  refine GoX.br (g_rules hi hX hI) ?_
  refine GoX.br (g_may hi hX hI) ?_
  refine GoX.br (g_near hi hX hI) ?_
  refine GoX.br (g_word hi hX hI) ?_
  refine GoX.br (g_show hi hX hI) ?_
  refine GoX.br (g_check hi hX hI) ?_
  refine GoX.br (g_small hi hX hI) ?_
  refine GoX.br (g_few hi hX hI) ?_
  refine GoX.br (g_give hi hX hI) ?_
  refine GoX.br (g_follows hi hX hI) ?_
  refine GoX.br (g_spare hi hX hI) ?_
  refine GoX.br (g_same hi hX hI) ?_
  refine GoX.br (g_voice hi hX hI) ?_
  refine GoX.br (g_trace hi hX hI) ?_
  refine GoX.br (g_sheet hi hX hI) ?_
  refine GoX.br (g_put hi hX hI) ?_
  refine GoX.br (g_move hi hX hI) ?_
  refine GoX.br (g_image hi hX hI) ?_
  refine GoX.br (g_restore hi hX hI) ?_
  refine GoX.br (g_tell hi hX hI) ?_
  refine GoX.br (g_learn hi hX hI) ?_
  refine GoX.br (g_count hi hX hI) ?_
  refine GoX.br (g_told hi hX hI) ?_
  exact go_end hI
theorem few_lt : ∀ n, n < 6 → nI n - nI 6 < nI 0 := by decide
theorem loop_all {X : AX} (hX : X.1 ≤ 384) {M : IM} (hI : Inv M) : ∃ i M1, L_258_18 X 0 M = some (.inl (i, M1)) := by
  obtain ⟨r, h1, i, M1, h2⟩ := loopF (body := B_258_18 X) (fun k s => ∃ M, s = (nI (6 * k), M) ∧ Inv M ∧ (k = 0 ∨ 6 * k ≤ X.1)) (fun r => ∃ i M1, r = .inl (i, M1)) 64 (by decide) (s := (nI 0, M)) ⟨M, rfl, hI, Or.inl rfl⟩ (fun k s hk hIk => by
    obtain ⟨M2, rfl, hI2, hk2⟩ := hIk
    by_cases z : 6 * k + 6 ≤ X.1
    · obtain ⟨M3, g1, g2⟩ := go_all z hX hI2
      exact Or.inr ⟨by omega, _, g1, M3, by rw [show 6 * (k + 1) = 6 * k + 6 by omega], g2, Or.inr (by omega)⟩
    · refine Or.inl ⟨.inl (nI (6 * k), M2), ?_, _, _, rfl⟩
      show (if nI X.1 - nI 6 < nI (6 * k) then _ else _) = _
      rw [if_pos]
      by_cases y : X.1 < 6
      · obtain rfl : k = 0 := by omega
        exact few_lt X.1 y
      · rw [ni_sub (by omega), ni_lti (by omega) (by omega)]
        omega)
  exact ⟨i, M1, by rw [← h2]; exact h1⟩
