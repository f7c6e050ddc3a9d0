/-! methods as functions, printed by wip/gen/emit.py -/
theorem vh_1 : VilH 1 := (by decide : 1 ∈ ([1, 22] : List Nat))
theorem lh_6 : LawH 6 := (by decide : 6 ∈ ([6, 8, 10, 12, 14, 16, 18, 20, 27, 29, 31, 33, 35, 37, 39, 41] : List Nat))
theorem lh_8 : LawH 8 := (by decide : 8 ∈ ([6, 8, 10, 12, 14, 16, 18, 20, 27, 29, 31, 33, 35, 37, 39, 41] : List Nat))
theorem lh_10 : LawH 10 := (by decide : 10 ∈ ([6, 8, 10, 12, 14, 16, 18, 20, 27, 29, 31, 33, 35, 37, 39, 41] : List Nat))
theorem lh_12 : LawH 12 := (by decide : 12 ∈ ([6, 8, 10, 12, 14, 16, 18, 20, 27, 29, 31, 33, 35, 37, 39, 41] : List Nat))
theorem lh_14 : LawH 14 := (by decide : 14 ∈ ([6, 8, 10, 12, 14, 16, 18, 20, 27, 29, 31, 33, 35, 37, 39, 41] : List Nat))
theorem lh_16 : LawH 16 := (by decide : 16 ∈ ([6, 8, 10, 12, 14, 16, 18, 20, 27, 29, 31, 33, 35, 37, 39, 41] : List Nat))
theorem lh_18 : LawH 18 := (by decide : 18 ∈ ([6, 8, 10, 12, 14, 16, 18, 20, 27, 29, 31, 33, 35, 37, 39, 41] : List Nat))
theorem lh_20 : LawH 20 := (by decide : 20 ∈ ([6, 8, 10, 12, 14, 16, 18, 20, 27, 29, 31, 33, 35, 37, 39, 41] : List Nat))
theorem vh_22 : VilH 22 := (by decide : 22 ∈ ([1, 22] : List Nat))
theorem lh_27 : LawH 27 := (by decide : 27 ∈ ([6, 8, 10, 12, 14, 16, 18, 20, 27, 29, 31, 33, 35, 37, 39, 41] : List Nat))
theorem lh_29 : LawH 29 := (by decide : 29 ∈ ([6, 8, 10, 12, 14, 16, 18, 20, 27, 29, 31, 33, 35, 37, 39, 41] : List Nat))
theorem lh_31 : LawH 31 := (by decide : 31 ∈ ([6, 8, 10, 12, 14, 16, 18, 20, 27, 29, 31, 33, 35, 37, 39, 41] : List Nat))
theorem lh_33 : LawH 33 := (by decide : 33 ∈ ([6, 8, 10, 12, 14, 16, 18, 20, 27, 29, 31, 33, 35, 37, 39, 41] : List Nat))
theorem lh_35 : LawH 35 := (by decide : 35 ∈ ([6, 8, 10, 12, 14, 16, 18, 20, 27, 29, 31, 33, 35, 37, 39, 41] : List Nat))
theorem lh_37 : LawH 37 := (by decide : 37 ∈ ([6, 8, 10, 12, 14, 16, 18, 20, 27, 29, 31, 33, 35, 37, 39, 41] : List Nat))
theorem lh_39 : LawH 39 := (by decide : 39 ∈ ([6, 8, 10, 12, 14, 16, 18, 20, 27, 29, 31, 33, 35, 37, 39, 41] : List Nat))
theorem lh_41 : LawH 41 := (by decide : 41 ∈ ([6, 8, 10, 12, 14, 16, 18, 20, 27, 29, 31, 33, 35, 37, 39, 41] : List Nat))
theorem sh_69 : ShH 69 := (by decide : 69 ∈ ([69, 71, 73, 75] : List Nat))
theorem sh_71 : ShH 71 := (by decide : 71 ∈ ([69, 71, 73, 75] : List Nat))
theorem sh_73 : ShH 73 := (by decide : 73 ∈ ([69, 71, 73, 75] : List Nat))
theorem sh_75 : ShH 75 := (by decide : 75 ∈ ([69, 71, 73, 75] : List Nat))
/-! 68: NineDemands$Text.readClosing -/
def F_68 (M : IM) : Option (IM) := (match F_69 M with | none => none | some c1 => (if c1 = 41 then (some (iset M 45 2 ((M 45 2) + 1))) else (some (F_70 M))))
theorem TF_68 {X : AX} {d : Nat} (hd : 1 ≤ d) {M : IM} {v : Option Value} {M' : IM} {o : IM} (h : F_68 M = some o) (hC : v = none ∧ M' = o) : Rc X d 68 0 [some (.ref (45))] [] M v M' := by
  obtain ⟨d, rfl⟩ : ∃ e, d = e + 1 := ⟨d - 1, by omega⟩
  unfold F_68 at h
  refine Rc.run tb_68 1 (pc' := 1) (ls' := [some (.ref (45))]) (st' := [.ref (45)]) rfl rfl ?_
  cases hc1 : F_69 M with
  | none => rw [hc1] at h; cases h
  | some c1 =>
    rw [hc1] at h
    dsimp only at h
    have hq1 := T_69 (X := X) (d := d) (by omega) (M := M) hc1
    refine Rc.callV tb_68 rfl rfl rfl mS_69 mP_69 mL_69 mO_69 rfl rfl ob_45 rfl rfl hq1 ?_
    refine Rc.run tb_68 1 (pc' := 6) (ls' := [some (.ref (45))]) (st' := [.int (41), .int (c1)]) rfl rfl ?_
    refine Rc.icmp_ne (pc1 := 22) tb_68 rfl rfl (by decide) (by decide) (fun hb3 => ?_) (fun hb3 => ?_)
    · rw [if_pos hb3] at h
      refine Rc.run tb_68 2 (pc' := 11) (ls' := [some (.ref (45))]) (st' := [.ref (45), .ref (45)]) rfl rfl ?_
      refine Rc.getI tb_68 rfl rfl ob_45 (by decide +kernel) tg_45_2 ?_
      refine Rc.run tb_68 2 (pc' := 16) (ls' := [some (.ref (45))]) (st' := [.int ((M 45 2) + 1), .ref (45)]) rfl rfl ?_
      refine Rc.putI tb_68 rfl rfl ob_45 (by decide +kernel) tg_45_2 rfl ?_
      refine Rc.run tb_68 1 (pc' := 26) (ls' := [some (.ref (45))]) (st' := []) rfl rfl ?_
      obtain rfl := Option.some.inj h
      obtain ⟨rfl, rfl⟩ := hC
      exact Rc.vret tb_68 rfl mR_68
    · rw [if_neg hb3] at h
      refine Rc.run tb_68 1 (pc' := 23) (ls' := [some (.ref (45))]) (st' := [.ref (45)]) rfl rfl ?_
      have hq2 := T_70 (X := X) (d := d) (by omega) M
      refine Rc.callV tb_68 rfl rfl rfl mS_70 mP_70 mL_70 mO_70 rfl rfl ob_45 rfl rfl hq2 ?_
      obtain rfl := Option.some.inj h
      obtain ⟨rfl, rfl⟩ := hC
      exact Rc.vret tb_68 rfl mR_68
theorem T_68 {X : AX} {d : Nat} (hd : 1 ≤ d) {M : IM} {M1 : IM} (h : F_68 M = some M1) : Rc X d 68 0 [some (.ref (45))] [] M none M1 := TF_68 hd h ⟨rfl, rfl⟩
/-! 72: NineDemands$Text.nameOf -/
def B_72_2 (x1 : Int32) (M : IM) : (Int32) → Option ((Int32) ⊕ ((Int32) ⊕ (Int32))) := fun x2 => if M 45 4 ≤ x2 then (some (Sum.inr (Sum.inl x2))) else (if (10 : Int32) ≤ x2 then (some (Sum.inr (Sum.inl x2))) else (if inb x2 10 = true then (if sT 0 x2.toNatClampNeg = x1 then (some (Sum.inr (Sum.inr x2))) else (some (Sum.inl (x2 + 1)))) else none))
def L_72_2 (x1 : Int32) (M : IM) (x2 : Int32) : Option ((Int32) ⊕ (Int32)) := loopN (B_72_2 x1 M) FU x2
def F_72 (a1 : Int32) (M : IM) : Option (Int32) := (match L_72_2 a1 M 0 with | none => none | some (.inl x2_5) => (some ((-1))) | some (.inr q) => some (q))
theorem TB_72_2 {X : AX} {d : Nat} (hd : 0 ≤ d) {x1 : Int32} {M : IM} {v : Option Value} {M' : IM} : ∀ (s : Int32) (o : (Int32) ⊕ ((Int32) ⊕ (Int32))), B_72_2 x1 M s = some o → (∀ s', o = .inl s' → (fun x2 => Rc X d 72 2 [some (.ref (45)), some (.int (x1)), some (.int (x2))] [] M v M') s') → (∀ r, o = .inr r → (fun r => match r with | .inl x2 => Rc X d 72 35 [none, none, none] [] M v M' | .inr q => v = some (.int q) ∧ M' = M) r) → (fun x2 => Rc X d 72 2 [some (.ref (45)), some (.int (x1)), some (.int (x2))] [] M v M') s := by
  intro x2 o h hP hE
  show Rc X d 72 2 [some (.ref (45)), some (.int (x1)), some (.int (x2))] [] M v M'
  unfold B_72_2 at h
  dsimp only at h hP hE
  refine Rc.run tb_72 2 (pc' := 4) (ls' := [some (.ref (45)), some (.int (x1)), some (.int (x2))]) (st' := [.ref (45), .int (x2)]) rfl rfl ?_
  refine Rc.getI tb_72 rfl rfl ob_45 (by decide +kernel) tg_45_4 ?_
  refine Rc.icmp_ge (pc1 := 35) tb_72 rfl rfl (by decide) (by decide) (fun hb4 => ?_) (fun hb4 => ?_)
  · rw [if_pos hb4] at h
    refine Rc.mask (b := 0) ((tb_72.2 35).trans rfl) (ls' := [none, none, none]) rfl ?_
    obtain rfl := Option.some.inj h
    exact hE _ rfl
  · rw [if_neg hb4] at h
    refine Rc.run tb_72 2 (pc' := 14) (ls' := [some (.ref (45)), some (.int (x1)), some (.int (x2))]) (st' := [.ref (1000), .int (x2)]) rfl rfl ?_
    refine Rc.slen tb_72 rfl rfl (q := 0) (n := 10) (x := 10) (by decide) (by decide +kernel) ?_
    refine Rc.icmp_ge (pc1 := 35) tb_72 rfl rfl (by decide) (by decide) (fun hb3 => ?_) (fun hb3 => ?_)
    · rw [if_pos hb3] at h
      refine Rc.mask (b := 0) ((tb_72.2 35).trans rfl) (ls' := [none, none, none]) rfl ?_
      obtain rfl := Option.some.inj h
      exact hE _ rfl
    · rw [if_neg hb3] at h
      refine Rc.run tb_72 2 (pc' := 22) (ls' := [some (.ref (45)), some (.int (x1)), some (.int (x2))]) (st' := [.int (x2), .ref (1000)]) rfl rfl ?_
      by_cases hb2 : inb x2 10 = true
      · rw [if_pos hb2] at h
        refine Rc.sald tb_72 rfl rfl (q := 0) (by decide) hb2 ?_
        refine Rc.run tb_72 1 (pc' := 24) (ls' := [some (.ref (45)), some (.int (x1)), some (.int (x2))]) (st' := [.int (x1), .int (sT 0 x2.toNatClampNeg)]) rfl rfl ?_
        refine Rc.icmp_ne (pc1 := 29) tb_72 rfl rfl (by decide) (by decide) (fun hb1 => ?_) (fun hb1 => ?_)
        · rw [if_pos hb1] at h
          refine Rc.run tb_72 1 (pc' := 28) (ls' := [some (.ref (45)), some (.int (x1)), some (.int (x2))]) (st' := [.int (x2)]) rfl rfl ?_
          obtain rfl := Option.some.inj h
          obtain ⟨rfl, rfl⟩ := hE _ rfl
          exact Rc.iret (ins := .ireturn) tb_72 rfl mR_72
        · rw [if_neg hb1] at h
          refine Rc.run tb_72 2 (pc' := 2) (ls' := [some (.ref (45)), some (.int (x1)), some (.int (x2 + 1))]) (st' := []) rfl rfl ?_
          refine Rc.mask (b := 7) ((tb_72.2 2).trans rfl) (ls' := [some (.ref (45)), some (.int (x1)), some (.int (x2 + 1))]) rfl ?_
          obtain rfl := Option.some.inj h
          exact hP _ rfl
      · rw [if_neg hb2] at h
        cases h
theorem TL_72_2 {X : AX} {d : Nat} (hd : 0 ≤ d) {x1 : Int32} {M : IM} {x2 : Int32} {v : Option Value} {M' : IM} {r : (Int32) ⊕ (Int32)} (h : L_72_2 x1 M x2 = some r) (hE : (fun r => match r with | .inl x2 => Rc X d 72 35 [none, none, none] [] M v M' | .inr q => v = some (.int q) ∧ M' = M) r) : Rc X d 72 2 [some (.ref (45)), some (.int (x1)), some (.int (x2))] [] M v M' := by
  exact loopN_rc (P := fun x2 => Rc X d 72 2 [some (.ref (45)), some (.int (x1)), some (.int (x2))] [] M v M') (E := fun r => match r with | .inl x2 => Rc X d 72 35 [none, none, none] [] M v M' | .inr q => v = some (.int q) ∧ M' = M) (TB_72_2 (X := X) hd) FU _ r h hE
theorem TF_72 {X : AX} {d : Nat} (hd : 0 ≤ d) {a1 : Int32} {M : IM} {v : Option Value} {M' : IM} {o : Int32} (h : F_72 a1 M = some o) (hC : v = some (.int o) ∧ M' = M) : Rc X d 72 0 [some (.ref (45)), some (.int (a1)), none] [] M v M' := by
  unfold F_72 at h
  refine Rc.run tb_72 2 (pc' := 2) (ls' := [some (.ref (45)), some (.int (a1)), some (.int (0))]) (st' := []) rfl rfl ?_
  refine Rc.mask (b := 7) ((tb_72.2 2).trans rfl) (ls' := [some (.ref (45)), some (.int (a1)), some (.int (0))]) rfl ?_
  cases hl5 : L_72_2 a1 M 0 with
  | none => rw [hl5] at h; cases h
  | some rr5 =>
    rw [hl5] at h
    cases rr5 with
    | inl x2_5 =>
      dsimp only at h
      refine TL_72_2 (X := X) (d := d) (by omega) hl5 ?_
      refine Rc.run tb_72 1 (pc' := 36) (ls' := [none, none, none]) (st' := [.int ((-1))]) rfl rfl ?_
      obtain rfl := Option.some.inj h
      obtain ⟨rfl, rfl⟩ := hC
      exact Rc.iret (ins := .ireturn) tb_72 rfl mR_72
    | inr q =>
      dsimp only at h
      refine TL_72_2 (X := X) (d := d) (by omega) hl5 ?_
      obtain rfl := Option.some.inj h
      obtain ⟨rfl, rfl⟩ := hC
      exact ⟨rfl, rfl⟩
theorem T_72 {X : AX} {d : Nat} (hd : 0 ≤ d) {a1 : Int32} {M : IM} {x : Int32} (h : F_72 a1 M = some x) : Rc X d 72 0 [some (.ref (45)), some (.int (a1)), none] [] M (some (.int x)) M := TF_72 hd h ⟨rfl, rfl⟩
/-! 80: NineDemands$Text.truth -/
def F_80 (a1 : Int32) : Int32 := if a1 = 0 then 0 else 1
theorem TF_80 {X : AX} {d : Nat} (hd : 0 ≤ d) {a1 : Int32} {M : IM} {v : Option Value} {M' : IM} {o : Int32} (h : F_80 a1 = o) (hC : v = some (.int o) ∧ M' = M) : Rc X d 80 0 [some (.int (a1))] [] M v M' := by
  unfold F_80 at h
  refine Rc.run tb_80 1 (pc' := 1) (ls' := [some (.int (a1))]) (st' := [.int (a1)]) rfl rfl ?_
  refine Rc.if_eq (pc1 := 8) tb_80 rfl rfl (by decide) (by decide) (fun hb1 => ?_) (fun hb1 => ?_)
  · rw [if_pos hb1] at h
    refine Rc.run tb_80 1 (pc' := 9) (ls' := [some (.int (a1))]) (st' := [.int (0)]) rfl rfl ?_
    subst h
    obtain ⟨rfl, rfl⟩ := hC
    exact Rc.iret (ins := .ireturn) tb_80 rfl mR_80
  · rw [if_neg hb1] at h
    refine Rc.run tb_80 2 (pc' := 9) (ls' := [some (.int (a1))]) (st' := [.int (1)]) rfl rfl ?_
    subst h
    obtain ⟨rfl, rfl⟩ := hC
    exact Rc.iret (ins := .ireturn) tb_80 rfl mR_80
theorem T_80 {X : AX} {d : Nat} (hd : 0 ≤ d) (a1 : Int32) (M : IM) : Rc X d 80 0 [some (.int (a1))] [] M (some (.int (F_80 a1))) M := TF_80 hd rfl ⟨rfl, rfl⟩
/-! 79: NineDemands$Text.join -/
def J_79_97 (s0 : Int32) : Option (Int32) := some (F_80 s0)
def J_79_92 : Option (Int32) := J_79_97 (1 : Int32)
def J_79_156 (s0 : Int32) : Option (Int32) := some (F_80 s0)
def J_79_142 (s0 : Int32) : Option (Int32) := some (F_80 s0)
def J_79_128 (s0 : Int32) : Option (Int32) := some (F_80 s0)
def J_79_114 (s0 : Int32) : Option (Int32) := some (F_80 s0)
def J_79_113 : Option (Int32) := J_79_114 (0 : Int32)
def F_79 (a1 : Int32) (a2 : Int32) (a3 : Int32) : Option (Int32) := if a1 = 38 then (if a2 = 0 then J_79_113 else (if a3 = 0 then J_79_113 else (J_79_114 (1 : Int32)))) else (if a1 = 42 then (some (a2 * a3)) else (if a1 = 43 then (some (a2 + a3)) else (if a1 = 45 then (some (a2 - a3)) else (if a1 = 47 then (if a3 = 0 then (some (0)) else (if a3 = 0 then none else (some (a2 / a3)))) else (if a1 = 60 then (if a3 ≤ a2 then (J_79_128 (0 : Int32)) else (J_79_128 (1 : Int32))) else (if a1 = 61 then (if a2 = a3 then (J_79_142 (1 : Int32)) else (J_79_142 (0 : Int32))) else (if a1 = 62 then (if a2 ≤ a3 then (J_79_156 (0 : Int32)) else (J_79_156 (1 : Int32))) else (if a1 = 124 then (if a2 = 0 then (if a3 = 0 then (J_79_97 (0 : Int32)) else J_79_92) else J_79_92) else (if a3 = 0 then (some (0)) else (if a3 = 0 then none else (some (a2 - a2 / a3 * a3))))))))))))
theorem TJ_79_97 {X : AX} {d : Nat} (hd : 1 ≤ d) {s0 : Int32} {M : IM} (hs0 : s0 = 0 ∨ s0 = 1) {v : Option Value} {M' : IM} {o : Int32} (h : J_79_97 s0 = some o) (hC : v = some (.int o) ∧ M' = M) : Rc X d 79 97 [none, none, none] [.int (s0)] M v M' := by
  obtain ⟨d, rfl⟩ : ∃ e, d = e + 1 := ⟨d - 1, by omega⟩
  unfold J_79_97 at h
  have hq12 := T_80 (X := X) (d := d) (by omega) s0 M
  refine Rc.callS tb_79 rfl rfl rfl mS_80 mP_80 mL_80 rfl rfl rfl hq12 ?_
  obtain rfl := Option.some.inj h
  obtain ⟨rfl, rfl⟩ := hC
  exact Rc.iret (ins := .ireturn) tb_79 rfl mR_79
theorem TJ_79_92 {X : AX} {d : Nat} (hd : 1 ≤ d) {M : IM} {v : Option Value} {M' : IM} {o : Int32} (h : J_79_92 = some o) (hC : v = some (.int o) ∧ M' = M) : Rc X d 79 92 [none, none, none] [] M v M' := by
  obtain ⟨d, rfl⟩ : ∃ e, d = e + 1 := ⟨d - 1, by omega⟩
  unfold J_79_92 at h
  refine Rc.run tb_79 2 (pc' := 97) (ls' := [none, none, none]) (st' := [.int (1)]) rfl rfl ?_
  refine Rc.mask (b := 0) ((tb_79.2 97).trans rfl) (ls' := [none, none, none]) rfl ?_
  exact TJ_79_97 (X := X) (d := d + 1) (by omega) (Or.inr rfl) h hC
theorem TJ_79_156 {X : AX} {d : Nat} (hd : 1 ≤ d) {s0 : Int32} {M : IM} (hs0 : s0 = 0 ∨ s0 = 1) {v : Option Value} {M' : IM} {o : Int32} (h : J_79_156 s0 = some o) (hC : v = some (.int o) ∧ M' = M) : Rc X d 79 156 [none, none, none] [.int (s0)] M v M' := by
  obtain ⟨d, rfl⟩ : ∃ e, d = e + 1 := ⟨d - 1, by omega⟩
  unfold J_79_156 at h
  have hq15 := T_80 (X := X) (d := d) (by omega) s0 M
  refine Rc.callS tb_79 rfl rfl rfl mS_80 mP_80 mL_80 rfl rfl rfl hq15 ?_
  obtain rfl := Option.some.inj h
  obtain ⟨rfl, rfl⟩ := hC
  exact Rc.iret (ins := .ireturn) tb_79 rfl mR_79
theorem TJ_79_142 {X : AX} {d : Nat} (hd : 1 ≤ d) {s0 : Int32} {M : IM} (hs0 : s0 = 0 ∨ s0 = 1) {v : Option Value} {M' : IM} {o : Int32} (h : J_79_142 s0 = some o) (hC : v = some (.int o) ∧ M' = M) : Rc X d 79 142 [none, none, none] [.int (s0)] M v M' := by
  obtain ⟨d, rfl⟩ : ∃ e, d = e + 1 := ⟨d - 1, by omega⟩
  unfold J_79_142 at h
  have hq17 := T_80 (X := X) (d := d) (by omega) s0 M
  refine Rc.callS tb_79 rfl rfl rfl mS_80 mP_80 mL_80 rfl rfl rfl hq17 ?_
  obtain rfl := Option.some.inj h
  obtain ⟨rfl, rfl⟩ := hC
  exact Rc.iret (ins := .ireturn) tb_79 rfl mR_79
theorem TJ_79_128 {X : AX} {d : Nat} (hd : 1 ≤ d) {s0 : Int32} {M : IM} (hs0 : s0 = 0 ∨ s0 = 1) {v : Option Value} {M' : IM} {o : Int32} (h : J_79_128 s0 = some o) (hC : v = some (.int o) ∧ M' = M) : Rc X d 79 128 [none, none, none] [.int (s0)] M v M' := by
  obtain ⟨d, rfl⟩ : ∃ e, d = e + 1 := ⟨d - 1, by omega⟩
  unfold J_79_128 at h
  have hq19 := T_80 (X := X) (d := d) (by omega) s0 M
  refine Rc.callS tb_79 rfl rfl rfl mS_80 mP_80 mL_80 rfl rfl rfl hq19 ?_
  obtain rfl := Option.some.inj h
  obtain ⟨rfl, rfl⟩ := hC
  exact Rc.iret (ins := .ireturn) tb_79 rfl mR_79
theorem TJ_79_114 {X : AX} {d : Nat} (hd : 1 ≤ d) {s0 : Int32} {M : IM} (hs0 : s0 = 0 ∨ s0 = 1) {v : Option Value} {M' : IM} {o : Int32} (h : J_79_114 s0 = some o) (hC : v = some (.int o) ∧ M' = M) : Rc X d 79 114 [none, none, none] [.int (s0)] M v M' := by
  obtain ⟨d, rfl⟩ : ∃ e, d = e + 1 := ⟨d - 1, by omega⟩
  unfold J_79_114 at h
  have hq23 := T_80 (X := X) (d := d) (by omega) s0 M
  refine Rc.callS tb_79 rfl rfl rfl mS_80 mP_80 mL_80 rfl rfl rfl hq23 ?_
  obtain rfl := Option.some.inj h
  obtain ⟨rfl, rfl⟩ := hC
  exact Rc.iret (ins := .ireturn) tb_79 rfl mR_79
theorem TJ_79_113 {X : AX} {d : Nat} (hd : 1 ≤ d) {M : IM} {v : Option Value} {M' : IM} {o : Int32} (h : J_79_113 = some o) (hC : v = some (.int o) ∧ M' = M) : Rc X d 79 113 [none, none, none] [] M v M' := by
  obtain ⟨d, rfl⟩ : ∃ e, d = e + 1 := ⟨d - 1, by omega⟩
  unfold J_79_113 at h
  refine Rc.run tb_79 1 (pc' := 114) (ls' := [none, none, none]) (st' := [.int (0)]) rfl rfl ?_
  refine Rc.mask (b := 0) ((tb_79.2 114).trans rfl) (ls' := [none, none, none]) rfl ?_
  exact TJ_79_114 (X := X) (d := d + 1) (by omega) (Or.inl rfl) h hC
theorem TF_79 {X : AX} {d : Nat} (hd : 1 ≤ d) {a1 : Int32} {a2 : Int32} {a3 : Int32} {M : IM} {v : Option Value} {M' : IM} {o : Int32} (h : F_79 a1 a2 a3 = some o) (hC : v = some (.int o) ∧ M' = M) : Rc X d 79 0 [some (.int (a1)), some (.int (a2)), some (.int (a3))] [] M v M' := by
  obtain ⟨d, rfl⟩ : ∃ e, d = e + 1 := ⟨d - 1, by omega⟩
  unfold F_79 at h
  refine Rc.run tb_79 1 (pc' := 1) (ls' := [some (.int (a1)), some (.int (a2)), some (.int (a3))]) (st' := [.int (a1)]) rfl rfl ?_
  by_cases hk3 : a1 = 38
  · rw [if_pos hk3] at h
    refine Rc.look (off := 100) (pc1 := 101) tb_79 rfl rfl (by decide +kernel) (by rw [hk3]; decide +kernel) (by decide) (by decide) ?_
    refine Rc.run tb_79 1 (pc' := 102) (ls' := [some (.int (a1)), some (.int (a2)), some (.int (a3))]) (st' := [.int (a2)]) rfl rfl ?_
    refine Rc.if_eq (pc1 := 113) tb_79 rfl rfl (by decide) (by decide) (fun hb25 => ?_) (fun hb25 => ?_)
    · rw [if_pos hb25] at h
      refine Rc.mask (b := 0) ((tb_79.2 113).trans rfl) (ls' := [none, none, none]) rfl ?_
      exact TJ_79_113 (X := X) (d := d + 1) (by omega) h hC
    · rw [if_neg hb25] at h
      refine Rc.run tb_79 1 (pc' := 106) (ls' := [some (.int (a1)), some (.int (a2)), some (.int (a3))]) (st' := [.int (a3)]) rfl rfl ?_
      refine Rc.if_eq (pc1 := 113) tb_79 rfl rfl (by decide) (by decide) (fun hb24 => ?_) (fun hb24 => ?_)
      · rw [if_pos hb24] at h
        refine Rc.mask (b := 0) ((tb_79.2 113).trans rfl) (ls' := [none, none, none]) rfl ?_
        exact TJ_79_113 (X := X) (d := d + 1) (by omega) h hC
      · rw [if_neg hb24] at h
        refine Rc.run tb_79 2 (pc' := 114) (ls' := [some (.int (a1)), some (.int (a2)), some (.int (a3))]) (st' := [.int (1)]) rfl rfl ?_
        refine Rc.mask (b := 0) ((tb_79.2 114).trans rfl) (ls' := [none, none, none]) rfl ?_
        exact TJ_79_114 (X := X) (d := d + 1) (by omega) (Or.inr rfl) h hC
  · rw [if_neg hk3] at h
    by_cases hk4 : a1 = 42
    · rw [if_pos hk4] at h
      refine Rc.look (off := 167) (pc1 := 168) tb_79 rfl rfl (by decide +kernel) (by rw [hk4]; decide +kernel) (by decide) (by decide) ?_
      refine Rc.run tb_79 3 (pc' := 171) (ls' := [some (.int (a1)), some (.int (a2)), some (.int (a3))]) (st' := [.int (a2 * a3)]) rfl rfl ?_
      obtain rfl := Option.some.inj h
      obtain ⟨rfl, rfl⟩ := hC
      exact Rc.iret (ins := .ireturn) tb_79 rfl mR_79
    · rw [if_neg hk4] at h
      by_cases hk5 : a1 = 43
      · rw [if_pos hk5] at h
        refine Rc.look (off := 159) (pc1 := 160) tb_79 rfl rfl (by decide +kernel) (by rw [hk5]; decide +kernel) (by decide) (by decide) ?_
        refine Rc.run tb_79 3 (pc' := 163) (ls' := [some (.int (a1)), some (.int (a2)), some (.int (a3))]) (st' := [.int (a2 + a3)]) rfl rfl ?_
        obtain rfl := Option.some.inj h
        obtain ⟨rfl, rfl⟩ := hC
        exact Rc.iret (ins := .ireturn) tb_79 rfl mR_79
      · rw [if_neg hk5] at h
        by_cases hk6 : a1 = 45
        · rw [if_pos hk6] at h
          refine Rc.look (off := 163) (pc1 := 164) tb_79 rfl rfl (by decide +kernel) (by rw [hk6]; decide +kernel) (by decide) (by decide) ?_
          refine Rc.run tb_79 3 (pc' := 167) (ls' := [some (.int (a1)), some (.int (a2)), some (.int (a3))]) (st' := [.int (a2 - a3)]) rfl rfl ?_
          obtain rfl := Option.some.inj h
          obtain ⟨rfl, rfl⟩ := hC
          exact Rc.iret (ins := .ireturn) tb_79 rfl mR_79
        · rw [if_neg hk6] at h
          by_cases hk7 : a1 = 47
          · rw [if_pos hk7] at h
            refine Rc.look (off := 171) (pc1 := 172) tb_79 rfl rfl (by decide +kernel) (by rw [hk7]; decide +kernel) (by decide) (by decide) ?_
            refine Rc.run tb_79 1 (pc' := 173) (ls' := [some (.int (a1)), some (.int (a2)), some (.int (a3))]) (st' := [.int (a3)]) rfl rfl ?_
            refine Rc.if_ne (pc1 := 180) tb_79 rfl rfl (by decide) (by decide) (fun hb22 => ?_) (fun hb22 => ?_)
            · rw [if_pos hb22] at h
              refine Rc.run tb_79 2 (pc' := 183) (ls' := [some (.int (a1)), some (.int (a2)), some (.int (a3))]) (st' := [.int (0)]) rfl rfl ?_
              obtain rfl := Option.some.inj h
              obtain ⟨rfl, rfl⟩ := hC
              exact Rc.iret (ins := .ireturn) tb_79 rfl mR_79
            · rw [if_neg hb22] at h
              refine Rc.run tb_79 2 (pc' := 182) (ls' := [some (.int (a1)), some (.int (a2)), some (.int (a3))]) (st' := [.int (a3), .int (a2)]) rfl rfl ?_
              by_cases hb21 : a3 = 0
              · rw [if_pos hb21] at h
                cases h
              · rw [if_neg hb21] at h
                refine Rc.idiv tb_79 rfl rfl hb21 ?_
                obtain rfl := Option.some.inj h
                obtain ⟨rfl, rfl⟩ := hC
                exact Rc.iret (ins := .ireturn) tb_79 rfl mR_79
          · rw [if_neg hk7] at h
            by_cases hk8 : a1 = 60
            · rw [if_pos hk8] at h
              refine Rc.look (off := 117) (pc1 := 118) tb_79 rfl rfl (by decide +kernel) (by rw [hk8]; decide +kernel) (by decide) (by decide) ?_
              refine Rc.run tb_79 2 (pc' := 120) (ls' := [some (.int (a1)), some (.int (a2)), some (.int (a3))]) (st' := [.int (a3), .int (a2)]) rfl rfl ?_
              refine Rc.icmp_ge (pc1 := 127) tb_79 rfl rfl (by decide) (by decide) (fun hb20 => ?_) (fun hb20 => ?_)
              · rw [if_pos hb20] at h
                refine Rc.run tb_79 1 (pc' := 128) (ls' := [some (.int (a1)), some (.int (a2)), some (.int (a3))]) (st' := [.int (0)]) rfl rfl ?_
                refine Rc.mask (b := 0) ((tb_79.2 128).trans rfl) (ls' := [none, none, none]) rfl ?_
                exact TJ_79_128 (X := X) (d := d + 1) (by omega) (Or.inl rfl) h hC
              · rw [if_neg hb20] at h
                refine Rc.run tb_79 2 (pc' := 128) (ls' := [some (.int (a1)), some (.int (a2)), some (.int (a3))]) (st' := [.int (1)]) rfl rfl ?_
                refine Rc.mask (b := 0) ((tb_79.2 128).trans rfl) (ls' := [none, none, none]) rfl ?_
                exact TJ_79_128 (X := X) (d := d + 1) (by omega) (Or.inr rfl) h hC
            · rw [if_neg hk8] at h
              by_cases hk9 : a1 = 61
              · rw [if_pos hk9] at h
                refine Rc.look (off := 131) (pc1 := 132) tb_79 rfl rfl (by decide +kernel) (by rw [hk9]; decide +kernel) (by decide) (by decide) ?_
                refine Rc.run tb_79 2 (pc' := 134) (ls' := [some (.int (a1)), some (.int (a2)), some (.int (a3))]) (st' := [.int (a3), .int (a2)]) rfl rfl ?_
                refine Rc.icmp_ne (pc1 := 141) tb_79 rfl rfl (by decide) (by decide) (fun hb18 => ?_) (fun hb18 => ?_)
                · rw [if_pos hb18] at h
                  refine Rc.run tb_79 2 (pc' := 142) (ls' := [some (.int (a1)), some (.int (a2)), some (.int (a3))]) (st' := [.int (1)]) rfl rfl ?_
                  refine Rc.mask (b := 0) ((tb_79.2 142).trans rfl) (ls' := [none, none, none]) rfl ?_
                  exact TJ_79_142 (X := X) (d := d + 1) (by omega) (Or.inr rfl) h hC
                · rw [if_neg hb18] at h
                  refine Rc.run tb_79 1 (pc' := 142) (ls' := [some (.int (a1)), some (.int (a2)), some (.int (a3))]) (st' := [.int (0)]) rfl rfl ?_
                  refine Rc.mask (b := 0) ((tb_79.2 142).trans rfl) (ls' := [none, none, none]) rfl ?_
                  exact TJ_79_142 (X := X) (d := d + 1) (by omega) (Or.inl rfl) h hC
              · rw [if_neg hk9] at h
                by_cases hk10 : a1 = 62
                · rw [if_pos hk10] at h
                  refine Rc.look (off := 145) (pc1 := 146) tb_79 rfl rfl (by decide +kernel) (by rw [hk10]; decide +kernel) (by decide) (by decide) ?_
                  refine Rc.run tb_79 2 (pc' := 148) (ls' := [some (.int (a1)), some (.int (a2)), some (.int (a3))]) (st' := [.int (a3), .int (a2)]) rfl rfl ?_
                  refine Rc.icmp_le (pc1 := 155) tb_79 rfl rfl (by decide) (by decide) (fun hb16 => ?_) (fun hb16 => ?_)
                  · rw [if_pos hb16] at h
                    refine Rc.run tb_79 1 (pc' := 156) (ls' := [some (.int (a1)), some (.int (a2)), some (.int (a3))]) (st' := [.int (0)]) rfl rfl ?_
                    refine Rc.mask (b := 0) ((tb_79.2 156).trans rfl) (ls' := [none, none, none]) rfl ?_
                    exact TJ_79_156 (X := X) (d := d + 1) (by omega) (Or.inl rfl) h hC
                  · rw [if_neg hb16] at h
                    refine Rc.run tb_79 2 (pc' := 156) (ls' := [some (.int (a1)), some (.int (a2)), some (.int (a3))]) (st' := [.int (1)]) rfl rfl ?_
                    refine Rc.mask (b := 0) ((tb_79.2 156).trans rfl) (ls' := [none, none, none]) rfl ?_
                    exact TJ_79_156 (X := X) (d := d + 1) (by omega) (Or.inr rfl) h hC
                · rw [if_neg hk10] at h
                  by_cases hk11 : a1 = 124
                  · rw [if_pos hk11] at h
                    refine Rc.look (off := 83) (pc1 := 84) tb_79 rfl rfl (by decide +kernel) (by rw [hk11]; decide +kernel) (by decide) (by decide) ?_
                    refine Rc.run tb_79 1 (pc' := 85) (ls' := [some (.int (a1)), some (.int (a2)), some (.int (a3))]) (st' := [.int (a2)]) rfl rfl ?_
                    refine Rc.if_ne (pc1 := 92) tb_79 rfl rfl (by decide) (by decide) (fun hb14 => ?_) (fun hb14 => ?_)
                    · rw [if_pos hb14] at h
                      refine Rc.run tb_79 1 (pc' := 89) (ls' := [some (.int (a1)), some (.int (a2)), some (.int (a3))]) (st' := [.int (a3)]) rfl rfl ?_
                      refine Rc.if_eq (pc1 := 96) tb_79 rfl rfl (by decide) (by decide) (fun hb13 => ?_) (fun hb13 => ?_)
                      · rw [if_pos hb13] at h
                        refine Rc.run tb_79 1 (pc' := 97) (ls' := [some (.int (a1)), some (.int (a2)), some (.int (a3))]) (st' := [.int (0)]) rfl rfl ?_
                        refine Rc.mask (b := 0) ((tb_79.2 97).trans rfl) (ls' := [none, none, none]) rfl ?_
                        exact TJ_79_97 (X := X) (d := d + 1) (by omega) (Or.inl rfl) h hC
                      · rw [if_neg hb13] at h
                        refine Rc.mask (b := 0) ((tb_79.2 92).trans rfl) (ls' := [none, none, none]) rfl ?_
                        exact TJ_79_92 (X := X) (d := d + 1) (by omega) h hC
                    · rw [if_neg hb14] at h
                      refine Rc.mask (b := 0) ((tb_79.2 92).trans rfl) (ls' := [none, none, none]) rfl ?_
                      exact TJ_79_92 (X := X) (d := d + 1) (by omega) h hC
                  · rw [if_neg hk11] at h
                    refine Rc.look (off := 183) (pc1 := 184) tb_79 rfl rfl (by decide +kernel) (lks_df [38, 42, 43, 45, 47, 60, 61, 62, 124] (by decide +kernel) (fun k hk => by simp only [List.mem_cons, List.not_mem_nil, or_false] at hk; rcases hk with rfl | rfl | rfl | rfl | rfl | rfl | rfl | rfl | rfl <;> assumption)) (by decide) (by decide) ?_
                    refine Rc.run tb_79 1 (pc' := 185) (ls' := [some (.int (a1)), some (.int (a2)), some (.int (a3))]) (st' := [.int (a3)]) rfl rfl ?_
                    refine Rc.if_ne (pc1 := 192) tb_79 rfl rfl (by decide) (by decide) (fun hb2 => ?_) (fun hb2 => ?_)
                    · rw [if_pos hb2] at h
                      refine Rc.run tb_79 2 (pc' := 195) (ls' := [some (.int (a1)), some (.int (a2)), some (.int (a3))]) (st' := [.int (0)]) rfl rfl ?_
                      obtain rfl := Option.some.inj h
                      obtain ⟨rfl, rfl⟩ := hC
                      exact Rc.iret (ins := .ireturn) tb_79 rfl mR_79
                    · rw [if_neg hb2] at h
                      refine Rc.run tb_79 2 (pc' := 194) (ls' := [some (.int (a1)), some (.int (a2)), some (.int (a3))]) (st' := [.int (a3), .int (a2)]) rfl rfl ?_
                      by_cases hb1 : a3 = 0
                      · rw [if_pos hb1] at h
                        cases h
                      · rw [if_neg hb1] at h
                        refine Rc.irem tb_79 rfl rfl hb1 ?_
                        obtain rfl := Option.some.inj h
                        obtain ⟨rfl, rfl⟩ := hC
                        exact Rc.iret (ins := .ireturn) tb_79 rfl mR_79
theorem T_79 {X : AX} {d : Nat} (hd : 1 ≤ d) {a1 : Int32} {a2 : Int32} {a3 : Int32} {M : IM} {x : Int32} (h : F_79 a1 a2 a3 = some x) : Rc X d 79 0 [some (.int (a1)), some (.int (a2)), some (.int (a3))] [] M (some (.int x)) M := TF_79 hd h ⟨rfl, rfl⟩
/-! 78: NineDemands$Text.apply -/
def J_78_40 (x1 : Int32) (x2 : Int32) (M : IM) : Option (Int32 × IM) := if (2 : Int32) ≤ x2 then (if inb (x2 - 2) 50 = true then (if inb (x2 - 1) 50 = true then (match F_79 x1 (M 48 (x2 - 2).toNatClampNeg) (M 48 (x2 - 1).toNatClampNeg) with | none => none | some c1 => (if inb (x2 - 2) 50 = true then (some ((x2 - 1, iset M 48 (x2 - 2).toNatClampNeg c1))) else none)) else none) else none) else (some ((x2, M)))
def J_78_34 (x2 : Int32) (s0 : Int32) (s1 : Int32) (M : IM) : Option (Int32 × IM) := if inb s1 50 = true then (some ((x2, iset M 48 s1.toNatClampNeg (F_80 s0)))) else none
def F_78 (a1 : Int32) (a2 : Int32) (M : IM) : Option (Int32 × IM) := if a1 = 33 then (if a2 < 1 then (J_78_40 a1 a2 M) else (if inb (a2 - 1) 50 = true then (if M 48 (a2 - 1).toNatClampNeg = 0 then (J_78_34 a2 (1 : Int32) (a2 - 1) M) else (J_78_34 a2 (0 : Int32) (a2 - 1) M)) else none)) else (J_78_40 a1 a2 M)
theorem TJ_78_40 {X : AX} {d : Nat} (hd : 2 ≤ d) {x1 : Int32} {x2 : Int32} {M : IM} {v : Option Value} {M' : IM} {o : Int32 × IM} (h : J_78_40 x1 x2 M = some o) (hC : v = some (.int o.1) ∧ M' = o.2) : Rc X d 78 40 [some (.ref (45)), some (.int (x1)), some (.int (x2))] [] M v M' := by
  obtain ⟨d, rfl⟩ : ∃ e, d = e + 1 := ⟨d - 1, by omega⟩
  unfold J_78_40 at h
  refine Rc.run tb_78 2 (pc' := 42) (ls' := [some (.ref (45)), some (.int (x1)), some (.int (x2))]) (st' := [.int (2), .int (x2)]) rfl rfl ?_
  refine Rc.icmp_ge (pc1 := 47) tb_78 rfl rfl (by decide) (by decide) (fun hb5 => ?_) (fun hb5 => ?_)
  · rw [if_pos hb5] at h
    refine Rc.run tb_78 1 (pc' := 48) (ls' := [some (.ref (45)), some (.int (x1)), some (.int (x2))]) (st' := [.ref (45)]) rfl rfl ?_
    refine Rc.getR tb_78 rfl rfl ob_45 (by decide +kernel) tg_45_7 (by decide) ?_
    refine Rc.run tb_78 5 (pc' := 56) (ls' := [some (.ref (45)), some (.int (x1)), some (.int (x2))]) (st' := [.ref (45), .int (x1), .int (x2 - 2), .ref (48)]) rfl rfl ?_
    refine Rc.getR tb_78 rfl rfl ob_45 (by decide +kernel) tg_45_7 (by decide) ?_
    refine Rc.run tb_78 3 (pc' := 62) (ls' := [some (.ref (45)), some (.int (x1)), some (.int (x2))]) (st' := [.int (x2 - 2), .ref (48), .int (x1), .int (x2 - 2), .ref (48)]) rfl rfl ?_
    by_cases hb4 : inb (x2 - 2) 50 = true
    · rw [if_pos hb4] at h
      refine Rc.iald tb_78 rfl rfl ia_48 hb4 ?_
      refine Rc.run tb_78 1 (pc' := 64) (ls' := [some (.ref (45)), some (.int (x1)), some (.int (x2))]) (st' := [.ref (45), .int (M 48 (x2 - 2).toNatClampNeg), .int (x1), .int (x2 - 2), .ref (48)]) rfl rfl ?_
      refine Rc.getR tb_78 rfl rfl ob_45 (by decide +kernel) tg_45_7 (by decide) ?_
      refine Rc.run tb_78 3 (pc' := 70) (ls' := [some (.ref (45)), some (.int (x1)), some (.int (x2))]) (st' := [.int (x2 - 1), .ref (48), .int (M 48 (x2 - 2).toNatClampNeg), .int (x1), .int (x2 - 2), .ref (48)]) rfl rfl ?_
      by_cases hb3 : inb (x2 - 1) 50 = true
      · rw [if_pos hb3] at h
        refine Rc.iald tb_78 rfl rfl ia_48 hb3 ?_
        cases hc1 : F_79 x1 (M 48 (x2 - 2).toNatClampNeg) (M 48 (x2 - 1).toNatClampNeg) with
        | none => rw [hc1] at h; cases h
        | some c1 =>
          rw [hc1] at h
          dsimp only at h
          have hq1 := T_79 (X := X) (d := d) (by omega) (M := M) hc1
          refine Rc.callS tb_78 rfl rfl rfl mS_79 mP_79 mL_79 rfl rfl rfl hq1 ?_
          by_cases hb2 : inb (x2 - 2) 50 = true
          · rw [if_pos hb2] at h
            refine Rc.iast tb_78 rfl rfl ia_48 hb2 ?_
            refine Rc.run tb_78 3 (pc' := 78) (ls' := [some (.ref (45)), some (.int (x1)), some (.int (x2))]) (st' := [.int (x2 - 1)]) rfl rfl ?_
            obtain rfl := Option.some.inj h
            obtain ⟨rfl, rfl⟩ := hC
            exact Rc.iret (ins := .ireturn) tb_78 rfl mR_78
          · rw [if_neg hb2] at h
            cases h
      · rw [if_neg hb3] at h
        cases h
    · rw [if_neg hb4] at h
      cases h
  · rw [if_neg hb5] at h
    refine Rc.run tb_78 1 (pc' := 46) (ls' := [some (.ref (45)), some (.int (x1)), some (.int (x2))]) (st' := [.int (x2)]) rfl rfl ?_
    obtain rfl := Option.some.inj h
    obtain ⟨rfl, rfl⟩ := hC
    exact Rc.iret (ins := .ireturn) tb_78 rfl mR_78
theorem TJ_78_34 {X : AX} {d : Nat} (hd : 2 ≤ d) {x2 : Int32} {s0 : Int32} {s1 : Int32} {M : IM} (hs0 : s0 = 0 ∨ s0 = 1) {v : Option Value} {M' : IM} {o : Int32 × IM} (h : J_78_34 x2 s0 s1 M = some o) (hC : v = some (.int o.1) ∧ M' = o.2) : Rc X d 78 34 [none, none, some (.int (x2))] [.int (s0), .int (s1), .ref (48)] M v M' := by
  obtain ⟨d, rfl⟩ : ∃ e, d = e + 1 := ⟨d - 1, by omega⟩
  unfold J_78_34 at h
  have hq6 := T_80 (X := X) (d := d) (by omega) s0 M
  refine Rc.callS tb_78 rfl rfl rfl mS_80 mP_80 mL_80 rfl rfl rfl hq6 ?_
  by_cases hb7 : inb s1 50 = true
  · rw [if_pos hb7] at h
    refine Rc.iast tb_78 rfl rfl ia_48 hb7 ?_
    refine Rc.run tb_78 1 (pc' := 39) (ls' := [none, none, some (.int (x2))]) (st' := [.int (x2)]) rfl rfl ?_
    obtain rfl := Option.some.inj h
    obtain ⟨rfl, rfl⟩ := hC
    exact Rc.iret (ins := .ireturn) tb_78 rfl mR_78
  · rw [if_neg hb7] at h
    cases h
theorem TF_78 {X : AX} {d : Nat} (hd : 2 ≤ d) {a1 : Int32} {a2 : Int32} {M : IM} {v : Option Value} {M' : IM} {o : Int32 × IM} (h : F_78 a1 a2 M = some o) (hC : v = some (.int o.1) ∧ M' = o.2) : Rc X d 78 0 [some (.ref (45)), some (.int (a1)), some (.int (a2))] [] M v M' := by
  obtain ⟨d, rfl⟩ : ∃ e, d = e + 1 := ⟨d - 1, by omega⟩
  unfold F_78 at h
  refine Rc.run tb_78 2 (pc' := 3) (ls' := [some (.ref (45)), some (.int (a1)), some (.int (a2))]) (st' := [.int (33), .int (a1)]) rfl rfl ?_
  refine Rc.icmp_ne (pc1 := 40) tb_78 rfl rfl (by decide) (by decide) (fun hb11 => ?_) (fun hb11 => ?_)
  · rw [if_pos hb11] at h
    refine Rc.run tb_78 2 (pc' := 8) (ls' := [some (.ref (45)), some (.int (a1)), some (.int (a2))]) (st' := [.int (1), .int (a2)]) rfl rfl ?_
    refine Rc.icmp_lt (pc1 := 40) tb_78 rfl rfl (by decide) (by decide) (fun hb10 => ?_) (fun hb10 => ?_)
    · rw [if_pos hb10] at h
      refine Rc.mask (b := 7) ((tb_78.2 40).trans rfl) (ls' := [some (.ref (45)), some (.int (a1)), some (.int (a2))]) rfl ?_
      exact TJ_78_40 (X := X) (d := d + 1) (by omega) h hC
    · rw [if_neg hb10] at h
      refine Rc.run tb_78 1 (pc' := 12) (ls' := [some (.ref (45)), some (.int (a1)), some (.int (a2))]) (st' := [.ref (45)]) rfl rfl ?_
      refine Rc.getR tb_78 rfl rfl ob_45 (by decide +kernel) tg_45_7 (by decide) ?_
      refine Rc.run tb_78 4 (pc' := 19) (ls' := [some (.ref (45)), some (.int (a1)), some (.int (a2))]) (st' := [.ref (45), .int (a2 - 1), .ref (48)]) rfl rfl ?_
      refine Rc.getR tb_78 rfl rfl ob_45 (by decide +kernel) tg_45_7 (by decide) ?_
      refine Rc.run tb_78 3 (pc' := 25) (ls' := [some (.ref (45)), some (.int (a1)), some (.int (a2))]) (st' := [.int (a2 - 1), .ref (48), .int (a2 - 1), .ref (48)]) rfl rfl ?_
      by_cases hb9 : inb (a2 - 1) 50 = true
      · rw [if_pos hb9] at h
        refine Rc.iald tb_78 rfl rfl ia_48 hb9 ?_
        refine Rc.if_ne (pc1 := 33) tb_78 rfl rfl (by decide) (by decide) (fun hb8 => ?_) (fun hb8 => ?_)
        · rw [if_pos hb8] at h
          refine Rc.run tb_78 2 (pc' := 34) (ls' := [some (.ref (45)), some (.int (a1)), some (.int (a2))]) (st' := [.int (1), .int (a2 - 1), .ref (48)]) rfl rfl ?_
          refine Rc.mask (b := 4) ((tb_78.2 34).trans rfl) (ls' := [none, none, some (.int (a2))]) rfl ?_
          exact TJ_78_34 (X := X) (d := d + 1) (by omega) (Or.inr rfl) h hC
        · rw [if_neg hb8] at h
          refine Rc.run tb_78 1 (pc' := 34) (ls' := [some (.ref (45)), some (.int (a1)), some (.int (a2))]) (st' := [.int (0), .int (a2 - 1), .ref (48)]) rfl rfl ?_
          refine Rc.mask (b := 4) ((tb_78.2 34).trans rfl) (ls' := [none, none, some (.int (a2))]) rfl ?_
          exact TJ_78_34 (X := X) (d := d + 1) (by omega) (Or.inl rfl) h hC
      · rw [if_neg hb9] at h
        cases h
  · rw [if_neg hb11] at h
    refine Rc.mask (b := 7) ((tb_78.2 40).trans rfl) (ls' := [some (.ref (45)), some (.int (a1)), some (.int (a2))]) rfl ?_
    exact TJ_78_40 (X := X) (d := d + 1) (by omega) h hC
theorem T_78 {X : AX} {d : Nat} (hd : 2 ≤ d) {a1 : Int32} {a2 : Int32} {M : IM} {x : Int32} {M1 : IM} (h : F_78 a1 a2 M = some (x, M1)) : Rc X d 78 0 [some (.ref (45)), some (.int (a1)), some (.int (a2))] [] M (some (.int x)) M1 := TF_78 hd h ⟨rfl, rfl⟩
/-! 77: NineDemands$Text.work -/
def J_77_79_4 (x1 : Int32) (x2 : Int32) (M : IM) : Option ((Int32 × Int32 × IM) ⊕ (Int32 × Int32 × IM)) := some (Sum.inl (x1, x2 + 1, M))
def J_77_75_4 (x1 : Int32) (x2 : Int32) (s0 : Int32) (s1 : Int32) (M : IM) : Option ((Int32 × Int32 × IM) ⊕ (Int32 × Int32 × IM)) := if inb s1 50 = true then (J_77_79_4 (x1 + 1) x2 (iset M 48 s1.toNatClampNeg s0)) else none
def B_77_4 : (Int32 × Int32 × IM) → Option ((Int32 × Int32 × IM) ⊕ (Int32 × Int32 × IM)) := fun (x1, x2, M) => if M 45 6 ≤ x2 then (some (Sum.inr (x1, x2, M))) else (if inb x2 50 = true then (if M 47 x2.toNatClampNeg < 20000 then (if Int32.ofNat 50 ≤ x1 then (J_77_79_4 x1 x2 M) else (if M 47 x2.toNatClampNeg < 10000 then (J_77_75_4 x1 x2 (M 47 x2.toNatClampNeg) x1 M) else (if inb ((M 47 x2.toNatClampNeg) - 10000) 10 = true then (J_77_75_4 x1 x2 (M 49 ((M 47 x2.toNatClampNeg) - 10000).toNatClampNeg) x1 M) else none))) else (match F_78 ((M 47 x2.toNatClampNeg) - 20000) x1 M with | none => none | some (c5, M5) => (J_77_79_4 c5 x2 M5))) else none)
def L_77_4 (x1 : Int32) (x2 : Int32) (M : IM) : Option (Int32 × Int32 × IM) := loopN (B_77_4) FU (x1, x2, M)
def J_77_85 (M : IM) : Option (Int32 × IM) := some ((M 48 (0 : Int32).toNatClampNeg, M))
def F_77 (M : IM) : Option (Int32 × IM) := (match L_77_4 0 0 M with | none => none | some (x1_9, x2_9, M9) => (J_77_85 M9))
theorem TJ_77_79_4 {X : AX} {d : Nat} (hd : 3 ≤ d) {x1 : Int32} {x2 : Int32} {M : IM} {v : Option Value} {M' : IM} {o : (Int32 × Int32 × IM) ⊕ (Int32 × Int32 × IM)} (h : J_77_79_4 x1 x2 M = some o) (hP : ∀ s', o = .inl s' → (fun (x1, x2, M) => Rc X d 77 4 [some (.ref (45)), some (.int (x1)), some (.int (x2)), none] [] M v M') s') (hE : ∀ r, o = .inr r → (fun (x1, x2, M) => Rc X d 77 85 [some (.ref (45)), none, none, none] [] M v M') r) : Rc X d 77 79 [some (.ref (45)), some (.int (x1)), some (.int (x2)), none] [] M v M' := by
  obtain ⟨d, rfl⟩ : ∃ e, d = e + 1 := ⟨d - 1, by omega⟩
  unfold J_77_79_4 at h
  dsimp only at hP hE
  refine Rc.run tb_77 2 (pc' := 4) (ls' := [some (.ref (45)), some (.int (x1)), some (.int (x2 + 1)), none]) (st' := []) rfl rfl ?_
  refine Rc.mask (b := 7) ((tb_77.2 4).trans rfl) (ls' := [some (.ref (45)), some (.int (x1)), some (.int (x2 + 1)), none]) rfl ?_
  obtain rfl := Option.some.inj h
  exact hP _ rfl
theorem TJ_77_75_4 {X : AX} {d : Nat} (hd : 3 ≤ d) {x1 : Int32} {x2 : Int32} {s0 : Int32} {s1 : Int32} {M : IM} {v : Option Value} {M' : IM} {o : (Int32 × Int32 × IM) ⊕ (Int32 × Int32 × IM)} (h : J_77_75_4 x1 x2 s0 s1 M = some o) (hP : ∀ s', o = .inl s' → (fun (x1, x2, M) => Rc X d 77 4 [some (.ref (45)), some (.int (x1)), some (.int (x2)), none] [] M v M') s') (hE : ∀ r, o = .inr r → (fun (x1, x2, M) => Rc X d 77 85 [some (.ref (45)), none, none, none] [] M v M') r) : Rc X d 77 75 [some (.ref (45)), some (.int (x1)), some (.int (x2)), none] [.int (s0), .int (s1), .ref (48)] M v M' := by
  obtain ⟨d, rfl⟩ : ∃ e, d = e + 1 := ⟨d - 1, by omega⟩
  unfold J_77_75_4 at h
  dsimp only at hP hE
  by_cases hb1 : inb s1 50 = true
  · rw [if_pos hb1] at h
    refine Rc.iast tb_77 rfl rfl ia_48 hb1 ?_
    refine Rc.run tb_77 1 (pc' := 79) (ls' := [some (.ref (45)), some (.int (x1 + 1)), some (.int (x2)), none]) (st' := []) rfl rfl ?_
    refine Rc.mask (b := 7) ((tb_77.2 79).trans rfl) (ls' := [some (.ref (45)), some (.int (x1 + 1)), some (.int (x2)), none]) rfl ?_
    exact TJ_77_79_4 (X := X) (d := d + 1) (by omega) h hP hE
  · rw [if_neg hb1] at h
    cases h
theorem TB_77_4 {X : AX} {d : Nat} (hd : 3 ≤ d) {v : Option Value} {M' : IM} : ∀ (s : Int32 × Int32 × IM) (o : (Int32 × Int32 × IM) ⊕ (Int32 × Int32 × IM)), B_77_4 s = some o → (∀ s', o = .inl s' → (fun (x1, x2, M) => Rc X d 77 4 [some (.ref (45)), some (.int (x1)), some (.int (x2)), none] [] M v M') s') → (∀ r, o = .inr r → (fun (x1, x2, M) => Rc X d 77 85 [some (.ref (45)), none, none, none] [] M v M') r) → (fun (x1, x2, M) => Rc X d 77 4 [some (.ref (45)), some (.int (x1)), some (.int (x2)), none] [] M v M') s := by
  rintro ⟨x1, x2, M⟩ o h hP hE
  show Rc X d 77 4 [some (.ref (45)), some (.int (x1)), some (.int (x2)), none] [] M v M'
  obtain ⟨d, rfl⟩ : ∃ e, d = e + 1 := ⟨d - 1, by omega⟩
  unfold B_77_4 at h
  dsimp only at h hP hE
  refine Rc.run tb_77 2 (pc' := 6) (ls' := [some (.ref (45)), some (.int (x1)), some (.int (x2)), none]) (st' := [.ref (45), .int (x2)]) rfl rfl ?_
  refine Rc.getI tb_77 rfl rfl ob_45 (by decide +kernel) tg_45_6 ?_
  refine Rc.icmp_ge (pc1 := 85) tb_77 rfl rfl (by decide) (by decide) (fun hb8 => ?_) (fun hb8 => ?_)
  · rw [if_pos hb8] at h
    refine Rc.mask (b := 1) ((tb_77.2 85).trans rfl) (ls' := [some (.ref (45)), none, none, none]) rfl ?_
    obtain rfl := Option.some.inj h
    exact hE _ rfl
  · rw [if_neg hb8] at h
    refine Rc.run tb_77 1 (pc' := 13) (ls' := [some (.ref (45)), some (.int (x1)), some (.int (x2)), none]) (st' := [.ref (45)]) rfl rfl ?_
    refine Rc.getR tb_77 rfl rfl ob_45 (by decide +kernel) tg_45_5 (by decide) ?_
    refine Rc.run tb_77 1 (pc' := 17) (ls' := [some (.ref (45)), some (.int (x1)), some (.int (x2)), none]) (st' := [.int (x2), .ref (47)]) rfl rfl ?_
    by_cases hb7 : inb x2 50 = true
    · rw [if_pos hb7] at h
      refine Rc.iald tb_77 rfl rfl ia_47 hb7 ?_
      refine Rc.run tb_77 3 (pc' := 23) (ls' := [some (.ref (45)), some (.int (x1)), some (.int (x2)), some (.int (M 47 x2.toNatClampNeg))]) (st' := [.int (20000), .int (M 47 x2.toNatClampNeg)]) rfl rfl ?_
      refine Rc.icmp_lt (pc1 := 40) tb_77 rfl rfl (by decide) (by decide) (fun hb6 => ?_) (fun hb6 => ?_)
      · rw [if_pos hb6] at h
        refine Rc.run tb_77 2 (pc' := 42) (ls' := [some (.ref (45)), some (.int (x1)), some (.int (x2)), some (.int (M 47 x2.toNatClampNeg))]) (st' := [.ref (45), .int (x1)]) rfl rfl ?_
        refine Rc.getR tb_77 rfl rfl ob_45 (by decide +kernel) tg_45_7 (by decide) ?_
        refine Rc.alen tb_77 rfl rfl ia_48 ?_
        refine Rc.icmp_ge (pc1 := 79) tb_77 rfl rfl (by decide) (by decide) (fun hb4 => ?_) (fun hb4 => ?_)
        · rw [if_pos hb4] at h
          refine Rc.mask (b := 7) ((tb_77.2 79).trans rfl) (ls' := [some (.ref (45)), some (.int (x1)), some (.int (x2)), none]) rfl ?_
          exact TJ_77_79_4 (X := X) (d := d + 1) (by omega) h hP hE
        · rw [if_neg hb4] at h
          refine Rc.run tb_77 1 (pc' := 50) (ls' := [some (.ref (45)), some (.int (x1)), some (.int (x2)), some (.int (M 47 x2.toNatClampNeg))]) (st' := [.ref (45)]) rfl rfl ?_
          refine Rc.getR tb_77 rfl rfl ob_45 (by decide +kernel) tg_45_7 (by decide) ?_
          refine Rc.run tb_77 3 (pc' := 58) (ls' := [some (.ref (45)), some (.int (x1)), some (.int (x2)), some (.int (M 47 x2.toNatClampNeg))]) (st' := [.int (10000), .int (M 47 x2.toNatClampNeg), .int (x1), .ref (48)]) rfl rfl ?_
          refine Rc.icmp_lt (pc1 := 74) tb_77 rfl rfl (by decide) (by decide) (fun hb3 => ?_) (fun hb3 => ?_)
          · rw [if_pos hb3] at h
            refine Rc.run tb_77 1 (pc' := 75) (ls' := [some (.ref (45)), some (.int (x1)), some (.int (x2)), some (.int (M 47 x2.toNatClampNeg))]) (st' := [.int (M 47 x2.toNatClampNeg), .int (x1), .ref (48)]) rfl rfl ?_
            refine Rc.mask (b := 7) ((tb_77.2 75).trans rfl) (ls' := [some (.ref (45)), some (.int (x1)), some (.int (x2)), none]) rfl ?_
            exact TJ_77_75_4 (X := X) (d := d + 1) (by omega) h hP hE
          · rw [if_neg hb3] at h
            refine Rc.run tb_77 1 (pc' := 62) (ls' := [some (.ref (45)), some (.int (x1)), some (.int (x2)), some (.int (M 47 x2.toNatClampNeg))]) (st' := [.ref (45), .int (x1), .ref (48)]) rfl rfl ?_
            refine Rc.getR tb_77 rfl rfl ob_45 (by decide +kernel) tg_45_8 (by decide) ?_
            refine Rc.run tb_77 3 (pc' := 70) (ls' := [some (.ref (45)), some (.int (x1)), some (.int (x2)), some (.int (M 47 x2.toNatClampNeg))]) (st' := [.int ((M 47 x2.toNatClampNeg) - 10000), .ref (49), .int (x1), .ref (48)]) rfl rfl ?_
            by_cases hb2 : inb ((M 47 x2.toNatClampNeg) - 10000) 10 = true
            · rw [if_pos hb2] at h
              refine Rc.iald tb_77 rfl rfl ia_49 hb2 ?_
              refine Rc.run tb_77 1 (pc' := 75) (ls' := [some (.ref (45)), some (.int (x1)), some (.int (x2)), some (.int (M 47 x2.toNatClampNeg))]) (st' := [.int (M 49 ((M 47 x2.toNatClampNeg) - 10000).toNatClampNeg), .int (x1), .ref (48)]) rfl rfl ?_
              refine Rc.mask (b := 7) ((tb_77.2 75).trans rfl) (ls' := [some (.ref (45)), some (.int (x1)), some (.int (x2)), none]) rfl ?_
              exact TJ_77_75_4 (X := X) (d := d + 1) (by omega) h hP hE
            · rw [if_neg hb2] at h
              cases h
      · rw [if_neg hb6] at h
        refine Rc.run tb_77 5 (pc' := 33) (ls' := [some (.ref (45)), some (.int (x1)), some (.int (x2)), some (.int (M 47 x2.toNatClampNeg))]) (st' := [.int (x1), .int ((M 47 x2.toNatClampNeg) - 20000), .ref (45)]) rfl rfl ?_
        cases hc5 : F_78 ((M 47 x2.toNatClampNeg) - 20000) x1 M with
        | none => rw [hc5] at h; cases h
        | some r5 =>
          obtain ⟨c5, M5⟩ := r5
          rw [hc5] at h
          dsimp only at h
          have hq5 := T_78 (X := X) (d := d) (by omega) (M := M) hc5
          refine Rc.callV tb_77 rfl rfl rfl mS_78 mP_78 mL_78 mO_78 rfl rfl ob_45 rfl rfl hq5 ?_
          refine Rc.run tb_77 2 (pc' := 79) (ls' := [some (.ref (45)), some (.int (c5)), some (.int (x2)), some (.int (M 47 x2.toNatClampNeg))]) (st' := []) rfl rfl ?_
          refine Rc.mask (b := 7) ((tb_77.2 79).trans rfl) (ls' := [some (.ref (45)), some (.int (c5)), some (.int (x2)), none]) rfl ?_
          exact TJ_77_79_4 (X := X) (d := d + 1) (by omega) h hP hE
    · rw [if_neg hb7] at h
      cases h
theorem TL_77_4 {X : AX} {d : Nat} (hd : 3 ≤ d) {x1 : Int32} {x2 : Int32} {M : IM} {v : Option Value} {M' : IM} {r : Int32 × Int32 × IM} (h : L_77_4 x1 x2 M = some r) (hE : (fun (x1, x2, M) => Rc X d 77 85 [some (.ref (45)), none, none, none] [] M v M') r) : Rc X d 77 4 [some (.ref (45)), some (.int (x1)), some (.int (x2)), none] [] M v M' := by
  exact loopN_rc (P := fun (x1, x2, M) => Rc X d 77 4 [some (.ref (45)), some (.int (x1)), some (.int (x2)), none] [] M v M') (E := fun (x1, x2, M) => Rc X d 77 85 [some (.ref (45)), none, none, none] [] M v M') (TB_77_4 (X := X) hd) FU _ r h hE
theorem TJ_77_85 {X : AX} {d : Nat} (hd : 3 ≤ d) {M : IM} {v : Option Value} {M' : IM} {o : Int32 × IM} (h : J_77_85 M = some o) (hC : v = some (.int o.1) ∧ M' = o.2) : Rc X d 77 85 [some (.ref (45)), none, none, none] [] M v M' := by
  obtain ⟨d, rfl⟩ : ∃ e, d = e + 1 := ⟨d - 1, by omega⟩
  unfold J_77_85 at h
  refine Rc.run tb_77 1 (pc' := 86) (ls' := [some (.ref (45)), none, none, none]) (st' := [.ref (45)]) rfl rfl ?_
  refine Rc.getR tb_77 rfl rfl ob_45 (by decide +kernel) tg_45_7 (by decide) ?_
  refine Rc.run tb_77 1 (pc' := 90) (ls' := [some (.ref (45)), none, none, none]) (st' := [.int (0), .ref (48)]) rfl rfl ?_
  refine Rc.iald tb_77 rfl rfl ia_48 (by decide) ?_
  obtain rfl := Option.some.inj h
  obtain ⟨rfl, rfl⟩ := hC
  exact Rc.iret (ins := .ireturn) tb_77 rfl mR_77
theorem TF_77 {X : AX} {d : Nat} (hd : 3 ≤ d) {M : IM} {v : Option Value} {M' : IM} {o : Int32 × IM} (h : F_77 M = some o) (hC : v = some (.int o.1) ∧ M' = o.2) : Rc X d 77 0 [some (.ref (45)), none, none, none] [] M v M' := by
  obtain ⟨d, rfl⟩ : ∃ e, d = e + 1 := ⟨d - 1, by omega⟩
  unfold F_77 at h
  refine Rc.run tb_77 4 (pc' := 4) (ls' := [some (.ref (45)), some (.int (0)), some (.int (0)), none]) (st' := []) rfl rfl ?_
  refine Rc.mask (b := 7) ((tb_77.2 4).trans rfl) (ls' := [some (.ref (45)), some (.int (0)), some (.int (0)), none]) rfl ?_
  cases hl9 : L_77_4 0 0 M with
  | none => rw [hl9] at h; cases h
  | some r9 =>
    obtain ⟨x1_9, x2_9, M9⟩ := r9
    rw [hl9] at h
    dsimp only at h
    refine TL_77_4 (X := X) (d := d + 1) (by omega) hl9 ?_
    refine Rc.mask (b := 1) ((tb_77.2 85).trans rfl) (ls' := [some (.ref (45)), none, none, none]) rfl ?_
    exact TJ_77_85 (X := X) (d := d + 1) (by omega) h hC
theorem T_77 {X : AX} {d : Nat} (hd : 3 ≤ d) {M : IM} {x : Int32} {M1 : IM} (h : F_77 M = some (x, M1)) : Rc X d 77 0 [some (.ref (45)), none, none, none] [] M (some (.int x)) M1 := TF_77 hd h ⟨rfl, rfl⟩
/-! 75: NineDemands$Text.row -/
def J_75_52_25 (x2 : Int32) (x3 : Int32) (M : IM) : Option ((Int32 × Int32 × IM) ⊕ (Int32 × Int32 × IM)) := some (Sum.inl (x2, x3 + 1, M))
def B_75_25 : (Int32 × Int32 × IM) → Option ((Int32 × Int32 × IM) ⊕ (Int32 × Int32 × IM)) := fun (x2, x3, M) => if (3 : Int32) < x3 then (some (Sum.inr (x2, x3, M))) else (match F_77 (iset M 49 (7 : Int32).toNatClampNeg x3) with | none => none | some (c4, M4) => (if c4 = 0 then (J_75_52_25 x2 x3 M4) else (J_75_52_25 (x2 ||| (F_142 x3)) x3 M4)))
def L_75_25 (x2 : Int32) (x3 : Int32) (M : IM) : Option (Int32 × Int32 × IM) := loopN (B_75_25) FU (x2, x3, M)
def F_75 (a1 : Int32) (M : IM) : Option (Int32 × IM) := if F_1 a1 = 0 then (match F_77 M with | none => none | some (c2, M2) => (if c2 = 0 then (some ((0, M2))) else (some ((7, M2))))) else (match L_75_25 0 1 M with | none => none | some (x2_9, x3_9, M9) => (some ((x2_9, M9))))
theorem TJ_75_52_25 {X : AX} {d : Nat} (hd : 4 ≤ d) {x2 : Int32} {x3 : Int32} {M : IM} {v : Option Value} {M' : IM} {o : (Int32 × Int32 × IM) ⊕ (Int32 × Int32 × IM)} (h : J_75_52_25 x2 x3 M = some o) (hP : ∀ s', o = .inl s' → (fun (x2, x3, M) => Rc X d 75 25 [some (.ref (45)), none, some (.int (x2)), some (.int (x3))] [] M v M') s') (hE : ∀ r, o = .inr r → (fun (x2, x3, M) => Rc X d 75 58 [none, none, some (.int (x2)), none] [] M v M') r) : Rc X d 75 52 [some (.ref (45)), none, some (.int (x2)), some (.int (x3))] [] M v M' := by
  obtain ⟨d, rfl⟩ : ∃ e, d = e + 1 := ⟨d - 1, by omega⟩
  unfold J_75_52_25 at h
  dsimp only at hP hE
  refine Rc.run tb_75 2 (pc' := 25) (ls' := [some (.ref (45)), none, some (.int (x2)), some (.int (x3 + 1))]) (st' := []) rfl rfl ?_
  refine Rc.mask (b := 13) ((tb_75.2 25).trans rfl) (ls' := [some (.ref (45)), none, some (.int (x2)), some (.int (x3 + 1))]) rfl ?_
  obtain rfl := Option.some.inj h
  exact hP _ rfl
theorem TB_75_25 {X : AX} {d : Nat} (hd : 4 ≤ d) {v : Option Value} {M' : IM} : ∀ (s : Int32 × Int32 × IM) (o : (Int32 × Int32 × IM) ⊕ (Int32 × Int32 × IM)), B_75_25 s = some o → (∀ s', o = .inl s' → (fun (x2, x3, M) => Rc X d 75 25 [some (.ref (45)), none, some (.int (x2)), some (.int (x3))] [] M v M') s') → (∀ r, o = .inr r → (fun (x2, x3, M) => Rc X d 75 58 [none, none, some (.int (x2)), none] [] M v M') r) → (fun (x2, x3, M) => Rc X d 75 25 [some (.ref (45)), none, some (.int (x2)), some (.int (x3))] [] M v M') s := by
  rintro ⟨x2, x3, M⟩ o h hP hE
  show Rc X d 75 25 [some (.ref (45)), none, some (.int (x2)), some (.int (x3))] [] M v M'
  obtain ⟨d, rfl⟩ : ∃ e, d = e + 1 := ⟨d - 1, by omega⟩
  unfold B_75_25 at h
  dsimp only at h hP hE
  refine Rc.run tb_75 2 (pc' := 27) (ls' := [some (.ref (45)), none, some (.int (x2)), some (.int (x3))]) (st' := [.int (3), .int (x3)]) rfl rfl ?_
  refine Rc.icmp_gt (pc1 := 58) tb_75 rfl rfl (by decide) (by decide) (fun hb8 => ?_) (fun hb8 => ?_)
  · rw [if_pos hb8] at h
    refine Rc.mask (b := 4) ((tb_75.2 58).trans rfl) (ls' := [none, none, some (.int (x2)), none]) rfl ?_
    obtain rfl := Option.some.inj h
    exact hE _ rfl
  · rw [if_neg hb8] at h
    refine Rc.run tb_75 1 (pc' := 31) (ls' := [some (.ref (45)), none, some (.int (x2)), some (.int (x3))]) (st' := [.ref (45)]) rfl rfl ?_
    refine Rc.getR tb_75 rfl rfl ob_45 (by decide +kernel) tg_45_8 (by decide) ?_
    refine Rc.run tb_75 2 (pc' := 37) (ls' := [some (.ref (45)), none, some (.int (x2)), some (.int (x3))]) (st' := [.int (x3), .int (7), .ref (49)]) rfl rfl ?_
    refine Rc.iast tb_75 rfl rfl ia_49 (by decide) ?_
    refine Rc.run tb_75 1 (pc' := 39) (ls' := [some (.ref (45)), none, some (.int (x2)), some (.int (x3))]) (st' := [.ref (45)]) rfl rfl ?_
    cases hc4 : F_77 (iset M 49 (7 : Int32).toNatClampNeg x3) with
    | none => rw [hc4] at h; cases h
    | some r4 =>
      obtain ⟨c4, M4⟩ := r4
      rw [hc4] at h
      dsimp only at h
      have hq4 := T_77 (X := X) (d := d) (by omega) (M := iset M 49 (7 : Int32).toNatClampNeg x3) hc4
      refine Rc.callV tb_75 rfl rfl rfl mS_77 mP_77 mL_77 mO_77 rfl rfl ob_45 rfl rfl hq4 ?_
      refine Rc.if_eq (pc1 := 52) tb_75 rfl rfl (by decide) (by decide) (fun hb6 => ?_) (fun hb6 => ?_)
      · rw [if_pos hb6] at h
        refine Rc.mask (b := 13) ((tb_75.2 52).trans rfl) (ls' := [some (.ref (45)), none, some (.int (x2)), some (.int (x3))]) rfl ?_
        exact TJ_75_52_25 (X := X) (d := d + 1) (by omega) h hP hE
      · rw [if_neg hb6] at h
        refine Rc.run tb_75 2 (pc' := 47) (ls' := [some (.ref (45)), none, some (.int (x2)), some (.int (x3))]) (st' := [.int (x3), .int (x2)]) rfl rfl ?_
        have hq5 := T_142 (X := X) (d := d) (by omega) x3 M4
        refine Rc.callS tb_75 rfl rfl rfl mS_142 mP_142 mL_142 rfl rfl rfl hq5 ?_
        refine Rc.run tb_75 2 (pc' := 52) (ls' := [some (.ref (45)), none, some (.int (x2 ||| (F_142 x3))), some (.int (x3))]) (st' := []) rfl rfl ?_
        refine Rc.mask (b := 13) ((tb_75.2 52).trans rfl) (ls' := [some (.ref (45)), none, some (.int (x2 ||| (F_142 x3))), some (.int (x3))]) rfl ?_
        exact TJ_75_52_25 (X := X) (d := d + 1) (by omega) h hP hE
theorem TL_75_25 {X : AX} {d : Nat} (hd : 4 ≤ d) {x2 : Int32} {x3 : Int32} {M : IM} {v : Option Value} {M' : IM} {r : Int32 × Int32 × IM} (h : L_75_25 x2 x3 M = some r) (hE : (fun (x2, x3, M) => Rc X d 75 58 [none, none, some (.int (x2)), none] [] M v M') r) : Rc X d 75 25 [some (.ref (45)), none, some (.int (x2)), some (.int (x3))] [] M v M' := by
  exact loopN_rc (P := fun (x2, x3, M) => Rc X d 75 25 [some (.ref (45)), none, some (.int (x2)), some (.int (x3))] [] M v M') (E := fun (x2, x3, M) => Rc X d 75 58 [none, none, some (.int (x2)), none] [] M v M') (TB_75_25 (X := X) hd) FU _ r h hE
theorem TF_75 {X : AX} {d : Nat} (hd : 4 ≤ d) {a1 : Int32} {M : IM} {v : Option Value} {M' : IM} {o : Int32 × IM} (h : F_75 a1 M = some o) (hC : v = some (.int o.1) ∧ M' = o.2) : Rc X d 75 0 [some (.ref (45)), some (.int (a1)), none, none] [] M v M' := by
  obtain ⟨d, rfl⟩ : ∃ e, d = e + 1 := ⟨d - 1, by omega⟩
  unfold F_75 at h
  refine Rc.run tb_75 1 (pc' := 1) (ls' := [some (.ref (45)), some (.int (a1)), none, none]) (st' := [.int (a1)]) rfl rfl ?_
  have hq1 := T_1 (X := X) (d := d) (by omega) a1 M
  have hz1 := Rc.bool mR_1 hq1
  refine Rc.callS tb_75 rfl rfl rfl mS_1 mP_1 mL_1 rfl rfl rfl hq1 ?_
  refine Rc.if_ne (pc1 := 21) tb_75 rfl rfl (by decide) (by decide) (fun hb10 => ?_) (fun hb10 => ?_)
  · rw [if_pos hb10] at h
    refine Rc.run tb_75 1 (pc' := 8) (ls' := [some (.ref (45)), some (.int (a1)), none, none]) (st' := [.ref (45)]) rfl rfl ?_
    cases hc2 : F_77 M with
    | none => rw [hc2] at h; cases h
    | some r2 =>
      obtain ⟨c2, M2⟩ := r2
      rw [hc2] at h
      dsimp only at h
      have hq2 := T_77 (X := X) (d := d) (by omega) (M := M) hc2
      refine Rc.callV tb_75 rfl rfl rfl mS_77 mP_77 mL_77 mO_77 rfl rfl ob_45 rfl rfl hq2 ?_
      refine Rc.if_eq (pc1 := 19) tb_75 rfl rfl (by decide) (by decide) (fun hb3 => ?_) (fun hb3 => ?_)
      · rw [if_pos hb3] at h
        refine Rc.run tb_75 1 (pc' := 20) (ls' := [some (.ref (45)), some (.int (a1)), none, none]) (st' := [.int (0)]) rfl rfl ?_
        obtain rfl := Option.some.inj h
        obtain ⟨rfl, rfl⟩ := hC
        exact Rc.iret (ins := .ireturn) tb_75 rfl mR_75
      · rw [if_neg hb3] at h
        refine Rc.run tb_75 2 (pc' := 20) (ls' := [some (.ref (45)), some (.int (a1)), none, none]) (st' := [.int (7)]) rfl rfl ?_
        obtain rfl := Option.some.inj h
        obtain ⟨rfl, rfl⟩ := hC
        exact Rc.iret (ins := .ireturn) tb_75 rfl mR_75
  · rw [if_neg hb10] at h
    refine Rc.run tb_75 4 (pc' := 25) (ls' := [some (.ref (45)), some (.int (a1)), some (.int (0)), some (.int (1))]) (st' := []) rfl rfl ?_
    refine Rc.mask (b := 13) ((tb_75.2 25).trans rfl) (ls' := [some (.ref (45)), none, some (.int (0)), some (.int (1))]) rfl ?_
    cases hl9 : L_75_25 0 1 M with
    | none => rw [hl9] at h; cases h
    | some r9 =>
      obtain ⟨x2_9, x3_9, M9⟩ := r9
      rw [hl9] at h
      dsimp only at h
      refine TL_75_25 (X := X) (d := d + 1) (by omega) hl9 ?_
      refine Rc.run tb_75 1 (pc' := 59) (ls' := [none, none, some (.int (x2_9)), none]) (st' := [.int (x2_9)]) rfl rfl ?_
      obtain rfl := Option.some.inj h
      obtain ⟨rfl, rfl⟩ := hC
      exact Rc.iret (ins := .ireturn) tb_75 rfl mR_75
theorem T_75 {X : AX} {d : Nat} (hd : 4 ≤ d) {a1 : Int32} {M : IM} {x : Int32} {M1 : IM} (h : F_75 a1 M = some (x, M1)) : Rc X d 75 0 [some (.ref (45)), some (.int (a1)), none, none] [] M (some (.int x)) M1 := TF_75 hd h ⟨rfl, rfl⟩
/-! 76: NineDemands$Text.name -/
def J_76_104 (x1 : Int32) (x2 : Int32) (M : IM) : Option (IM) := if x1 = 4 then (match F_3 x1 x2 with | none => none | some c10 => (some (iset M 49 (8 : Int32).toNatClampNeg (F_8 c10 (2 : Int32))))) else (some (M))
def F_76 (a1 : Int32) (a2 : Int32) (M : IM) : Option (IM) := (match F_2 a1 a2 with | none => none | some c1 => (if a1 = 1 then (J_76_104 a1 a2 (iset (iset (iset (iset (iset (iset (iset (iset M 49 (0 : Int32).toNatClampNeg (F_10 c1)) 49 (1 : Int32).toNatClampNeg (F_9 c1)) 49 (3 : Int32).toNatClampNeg (F_6 c1)) 49 (4 : Int32).toNatClampNeg (F_8 c1 (0 : Int32))) 49 (5 : Int32).toNatClampNeg (F_8 c1 (1 : Int32))) 49 (6 : Int32).toNatClampNeg (F_8 c1 (2 : Int32))) 49 (9 : Int32).toNatClampNeg (F_4 a2)) 49 (8 : Int32).toNatClampNeg (F_8 c1 ((iset (iset (iset (iset (iset (iset (iset M 49 (0 : Int32).toNatClampNeg (F_10 c1)) 49 (1 : Int32).toNatClampNeg (F_9 c1)) 49 (3 : Int32).toNatClampNeg (F_6 c1)) 49 (4 : Int32).toNatClampNeg (F_8 c1 (0 : Int32))) 49 (5 : Int32).toNatClampNeg (F_8 c1 (1 : Int32))) 49 (6 : Int32).toNatClampNeg (F_8 c1 (2 : Int32))) 49 (9 : Int32).toNatClampNeg (F_4 a2)) 49 (9 : Int32).toNatClampNeg)))) else (J_76_104 a1 a2 (iset (iset (iset (iset (iset (iset M 49 (0 : Int32).toNatClampNeg (F_10 c1)) 49 (1 : Int32).toNatClampNeg (F_9 c1)) 49 (3 : Int32).toNatClampNeg (F_6 c1)) 49 (4 : Int32).toNatClampNeg (F_8 c1 (0 : Int32))) 49 (5 : Int32).toNatClampNeg (F_8 c1 (1 : Int32))) 49 (6 : Int32).toNatClampNeg (F_8 c1 (2 : Int32))))))
theorem TJ_76_104 {X : AX} {d : Nat} (hd : 3 ≤ d) {x1 : Int32} {x2 : Int32} {M : IM} {v : Option Value} {M' : IM} {o : IM} (h : J_76_104 x1 x2 M = some o) (hC : v = none ∧ M' = o) : Rc X d 76 104 [some (.ref (45)), some (.int (x1)), some (.int (x2)), none] [] M v M' := by
  obtain ⟨d, rfl⟩ : ∃ e, d = e + 1 := ⟨d - 1, by omega⟩
  unfold J_76_104 at h
  refine Rc.run tb_76 2 (pc' := 106) (ls' := [some (.ref (45)), some (.int (x1)), some (.int (x2)), none]) (st' := [.int (4), .int (x1)]) rfl rfl ?_
  refine Rc.icmp_ne (pc1 := 125) tb_76 rfl rfl (by decide) (by decide) (fun hb13 => ?_) (fun hb13 => ?_)
  · rw [if_pos hb13] at h
    refine Rc.run tb_76 1 (pc' := 110) (ls' := [some (.ref (45)), some (.int (x1)), some (.int (x2)), none]) (st' := [.ref (45)]) rfl rfl ?_
    refine Rc.getR tb_76 rfl rfl ob_45 (by decide +kernel) tg_45_8 (by decide) ?_
    refine Rc.run tb_76 3 (pc' := 117) (ls' := [some (.ref (45)), some (.int (x1)), some (.int (x2)), none]) (st' := [.int (x2), .int (x1), .int (8), .ref (49)]) rfl rfl ?_
    cases hc10 : F_3 x1 x2 with
    | none => rw [hc10] at h; cases h
    | some c10 =>
      rw [hc10] at h
      dsimp only at h
      have hq10 := T_3 (X := X) (d := d) (by omega) (M := M) hc10
      refine Rc.callS tb_76 rfl rfl rfl mS_3 mP_3 mL_3 rfl rfl rfl hq10 ?_
      refine Rc.run tb_76 1 (pc' := 121) (ls' := [some (.ref (45)), some (.int (x1)), some (.int (x2)), none]) (st' := [.int (2), .int (c10), .int (8), .ref (49)]) rfl rfl ?_
      have hq11 := T_8 (X := X) (d := d) (by omega) c10 (2 : Int32) M
      refine Rc.callS tb_76 rfl rfl rfl mS_8 mP_8 mL_8 rfl rfl rfl hq11 ?_
      refine Rc.iast tb_76 rfl rfl ia_49 (by decide) ?_
      obtain rfl := Option.some.inj h
      obtain ⟨rfl, rfl⟩ := hC
      exact Rc.vret tb_76 rfl mR_76
  · rw [if_neg hb13] at h
    obtain rfl := Option.some.inj h
    obtain ⟨rfl, rfl⟩ := hC
    exact Rc.vret tb_76 rfl mR_76
theorem TF_76 {X : AX} {d : Nat} (hd : 3 ≤ d) {a1 : Int32} {a2 : Int32} {M : IM} {v : Option Value} {M' : IM} {o : IM} (h : F_76 a1 a2 M = some o) (hC : v = none ∧ M' = o) : Rc X d 76 0 [some (.ref (45)), some (.int (a1)), some (.int (a2)), none] [] M v M' := by
  obtain ⟨d, rfl⟩ : ∃ e, d = e + 1 := ⟨d - 1, by omega⟩
  unfold F_76 at h
  refine Rc.run tb_76 2 (pc' := 2) (ls' := [some (.ref (45)), some (.int (a1)), some (.int (a2)), none]) (st' := [.int (a2), .int (a1)]) rfl rfl ?_
  cases hc1 : F_2 a1 a2 with
  | none => rw [hc1] at h; cases h
  | some c1 =>
    rw [hc1] at h
    dsimp only at h
    have hq1 := T_2 (X := X) (d := d) (by omega) (M := M) hc1
    refine Rc.callS tb_76 rfl rfl rfl mS_2 mP_2 mL_2 rfl rfl rfl hq1 ?_
    refine Rc.run tb_76 2 (pc' := 7) (ls' := [some (.ref (45)), some (.int (a1)), some (.int (a2)), some (.int (c1))]) (st' := [.ref (45)]) rfl rfl ?_
    refine Rc.getR tb_76 rfl rfl ob_45 (by decide +kernel) tg_45_8 (by decide) ?_
    refine Rc.run tb_76 2 (pc' := 12) (ls' := [some (.ref (45)), some (.int (a1)), some (.int (a2)), some (.int (c1))]) (st' := [.int (c1), .int (0), .ref (49)]) rfl rfl ?_
    have hq2 := T_10 (X := X) (d := d) (by omega) c1 M
    refine Rc.callS tb_76 rfl rfl rfl mS_10 mP_10 mL_10 rfl rfl rfl hq2 ?_
    refine Rc.iast tb_76 rfl rfl ia_49 (by decide) ?_
    refine Rc.run tb_76 1 (pc' := 17) (ls' := [some (.ref (45)), some (.int (a1)), some (.int (a2)), some (.int (c1))]) (st' := [.ref (45)]) rfl rfl ?_
    refine Rc.getR tb_76 rfl rfl ob_45 (by decide +kernel) tg_45_8 (by decide) ?_
    refine Rc.run tb_76 2 (pc' := 22) (ls' := [some (.ref (45)), some (.int (a1)), some (.int (a2)), some (.int (c1))]) (st' := [.int (c1), .int (1), .ref (49)]) rfl rfl ?_
    have hq3 := T_9 (X := X) (d := d) (by omega) c1 (iset M 49 (0 : Int32).toNatClampNeg (F_10 c1))
    refine Rc.callS tb_76 rfl rfl rfl mS_9 mP_9 mL_9 rfl rfl rfl hq3 ?_
    refine Rc.iast tb_76 rfl rfl ia_49 (by decide) ?_
    refine Rc.run tb_76 1 (pc' := 27) (ls' := [some (.ref (45)), some (.int (a1)), some (.int (a2)), some (.int (c1))]) (st' := [.ref (45)]) rfl rfl ?_
    refine Rc.getR tb_76 rfl rfl ob_45 (by decide +kernel) tg_45_8 (by decide) ?_
    refine Rc.run tb_76 2 (pc' := 32) (ls' := [some (.ref (45)), some (.int (a1)), some (.int (a2)), some (.int (c1))]) (st' := [.int (c1), .int (3), .ref (49)]) rfl rfl ?_
    have hq4 := T_6 (X := X) (d := d) (by omega) c1 (iset (iset M 49 (0 : Int32).toNatClampNeg (F_10 c1)) 49 (1 : Int32).toNatClampNeg (F_9 c1))
    refine Rc.callS tb_76 rfl rfl rfl mS_6 mP_6 mL_6 rfl rfl rfl hq4 ?_
    refine Rc.iast tb_76 rfl rfl ia_49 (by decide) ?_
    refine Rc.run tb_76 1 (pc' := 37) (ls' := [some (.ref (45)), some (.int (a1)), some (.int (a2)), some (.int (c1))]) (st' := [.ref (45)]) rfl rfl ?_
    refine Rc.getR tb_76 rfl rfl ob_45 (by decide +kernel) tg_45_8 (by decide) ?_
    refine Rc.run tb_76 3 (pc' := 43) (ls' := [some (.ref (45)), some (.int (a1)), some (.int (a2)), some (.int (c1))]) (st' := [.int (0), .int (c1), .int (4), .ref (49)]) rfl rfl ?_
    have hq5 := T_8 (X := X) (d := d) (by omega) c1 (0 : Int32) (iset (iset (iset M 49 (0 : Int32).toNatClampNeg (F_10 c1)) 49 (1 : Int32).toNatClampNeg (F_9 c1)) 49 (3 : Int32).toNatClampNeg (F_6 c1))
    refine Rc.callS tb_76 rfl rfl rfl mS_8 mP_8 mL_8 rfl rfl rfl hq5 ?_
    refine Rc.iast tb_76 rfl rfl ia_49 (by decide) ?_
    refine Rc.run tb_76 1 (pc' := 48) (ls' := [some (.ref (45)), some (.int (a1)), some (.int (a2)), some (.int (c1))]) (st' := [.ref (45)]) rfl rfl ?_
    refine Rc.getR tb_76 rfl rfl ob_45 (by decide +kernel) tg_45_8 (by decide) ?_
    refine Rc.run tb_76 3 (pc' := 54) (ls' := [some (.ref (45)), some (.int (a1)), some (.int (a2)), some (.int (c1))]) (st' := [.int (1), .int (c1), .int (5), .ref (49)]) rfl rfl ?_
    have hq6 := T_8 (X := X) (d := d) (by omega) c1 (1 : Int32) (iset (iset (iset (iset M 49 (0 : Int32).toNatClampNeg (F_10 c1)) 49 (1 : Int32).toNatClampNeg (F_9 c1)) 49 (3 : Int32).toNatClampNeg (F_6 c1)) 49 (4 : Int32).toNatClampNeg (F_8 c1 (0 : Int32)))
    refine Rc.callS tb_76 rfl rfl rfl mS_8 mP_8 mL_8 rfl rfl rfl hq6 ?_
    refine Rc.iast tb_76 rfl rfl ia_49 (by decide) ?_
    refine Rc.run tb_76 1 (pc' := 59) (ls' := [some (.ref (45)), some (.int (a1)), some (.int (a2)), some (.int (c1))]) (st' := [.ref (45)]) rfl rfl ?_
    refine Rc.getR tb_76 rfl rfl ob_45 (by decide +kernel) tg_45_8 (by decide) ?_
    refine Rc.run tb_76 3 (pc' := 66) (ls' := [some (.ref (45)), some (.int (a1)), some (.int (a2)), some (.int (c1))]) (st' := [.int (2), .int (c1), .int (6), .ref (49)]) rfl rfl ?_
    have hq7 := T_8 (X := X) (d := d) (by omega) c1 (2 : Int32) (iset (iset (iset (iset (iset M 49 (0 : Int32).toNatClampNeg (F_10 c1)) 49 (1 : Int32).toNatClampNeg (F_9 c1)) 49 (3 : Int32).toNatClampNeg (F_6 c1)) 49 (4 : Int32).toNatClampNeg (F_8 c1 (0 : Int32))) 49 (5 : Int32).toNatClampNeg (F_8 c1 (1 : Int32)))
    refine Rc.callS tb_76 rfl rfl rfl mS_8 mP_8 mL_8 rfl rfl rfl hq7 ?_
    refine Rc.iast tb_76 rfl rfl ia_49 (by decide) ?_
    refine Rc.run tb_76 2 (pc' := 72) (ls' := [some (.ref (45)), some (.int (a1)), some (.int (a2)), some (.int (c1))]) (st' := [.int (1), .int (a1)]) rfl rfl ?_
    refine Rc.icmp_ne (pc1 := 104) tb_76 rfl rfl (by decide) (by decide) (fun hb17 => ?_) (fun hb17 => ?_)
    · rw [if_pos hb17] at h
      refine Rc.run tb_76 1 (pc' := 76) (ls' := [some (.ref (45)), some (.int (a1)), some (.int (a2)), some (.int (c1))]) (st' := [.ref (45)]) rfl rfl ?_
      refine Rc.getR tb_76 rfl rfl ob_45 (by decide +kernel) tg_45_8 (by decide) ?_
      refine Rc.run tb_76 2 (pc' := 82) (ls' := [some (.ref (45)), some (.int (a1)), some (.int (a2)), some (.int (c1))]) (st' := [.int (a2), .int (9), .ref (49)]) rfl rfl ?_
      have hq8 := T_4 (X := X) (d := d) (by omega) a2 (iset (iset (iset (iset (iset (iset M 49 (0 : Int32).toNatClampNeg (F_10 c1)) 49 (1 : Int32).toNatClampNeg (F_9 c1)) 49 (3 : Int32).toNatClampNeg (F_6 c1)) 49 (4 : Int32).toNatClampNeg (F_8 c1 (0 : Int32))) 49 (5 : Int32).toNatClampNeg (F_8 c1 (1 : Int32))) 49 (6 : Int32).toNatClampNeg (F_8 c1 (2 : Int32)))
      refine Rc.callS tb_76 rfl rfl rfl mS_4 mP_4 mL_4 rfl rfl rfl hq8 ?_
      refine Rc.iast tb_76 rfl rfl ia_49 (by decide) ?_
      refine Rc.run tb_76 1 (pc' := 87) (ls' := [some (.ref (45)), some (.int (a1)), some (.int (a2)), some (.int (c1))]) (st' := [.ref (45)]) rfl rfl ?_
      refine Rc.getR tb_76 rfl rfl ob_45 (by decide +kernel) tg_45_8 (by decide) ?_
      refine Rc.run tb_76 3 (pc' := 94) (ls' := [some (.ref (45)), some (.int (a1)), some (.int (a2)), some (.int (c1))]) (st' := [.ref (45), .int (c1), .int (8), .ref (49)]) rfl rfl ?_
      refine Rc.getR tb_76 rfl rfl ob_45 (by decide +kernel) tg_45_8 (by decide) ?_
      refine Rc.run tb_76 1 (pc' := 99) (ls' := [some (.ref (45)), some (.int (a1)), some (.int (a2)), some (.int (c1))]) (st' := [.int (9), .ref (49), .int (c1), .int (8), .ref (49)]) rfl rfl ?_
      refine Rc.iald tb_76 rfl rfl ia_49 (by decide) ?_
      have hq9 := T_8 (X := X) (d := d) (by omega) c1 ((iset (iset (iset (iset (iset (iset (iset M 49 (0 : Int32).toNatClampNeg (F_10 c1)) 49 (1 : Int32).toNatClampNeg (F_9 c1)) 49 (3 : Int32).toNatClampNeg (F_6 c1)) 49 (4 : Int32).toNatClampNeg (F_8 c1 (0 : Int32))) 49 (5 : Int32).toNatClampNeg (F_8 c1 (1 : Int32))) 49 (6 : Int32).toNatClampNeg (F_8 c1 (2 : Int32))) 49 (9 : Int32).toNatClampNeg (F_4 a2)) 49 (9 : Int32).toNatClampNeg) (iset (iset (iset (iset (iset (iset (iset M 49 (0 : Int32).toNatClampNeg (F_10 c1)) 49 (1 : Int32).toNatClampNeg (F_9 c1)) 49 (3 : Int32).toNatClampNeg (F_6 c1)) 49 (4 : Int32).toNatClampNeg (F_8 c1 (0 : Int32))) 49 (5 : Int32).toNatClampNeg (F_8 c1 (1 : Int32))) 49 (6 : Int32).toNatClampNeg (F_8 c1 (2 : Int32))) 49 (9 : Int32).toNatClampNeg (F_4 a2))
      refine Rc.callS tb_76 rfl rfl rfl mS_8 mP_8 mL_8 rfl rfl rfl hq9 ?_
      refine Rc.iast tb_76 rfl rfl ia_49 (by decide) ?_
      refine Rc.mask (b := 7) ((tb_76.2 104).trans rfl) (ls' := [some (.ref (45)), some (.int (a1)), some (.int (a2)), none]) rfl ?_
      exact TJ_76_104 (X := X) (d := d + 1) (by omega) h hC
    · rw [if_neg hb17] at h
      refine Rc.mask (b := 7) ((tb_76.2 104).trans rfl) (ls' := [some (.ref (45)), some (.int (a1)), some (.int (a2)), none]) rfl ?_
      exact TJ_76_104 (X := X) (d := d + 1) (by omega) h hC
theorem T_76 {X : AX} {d : Nat} (hd : 3 ≤ d) {a1 : Int32} {a2 : Int32} {M : IM} {M1 : IM} (h : F_76 a1 a2 M = some M1) : Rc X d 76 0 [some (.ref (45)), some (.int (a1)), some (.int (a2)), none] [] M none M1 := TF_76 hd h ⟨rfl, rfl⟩
/-! 74: NineDemands$Text.pairs -/
def B_74_11 (x1 : Int32) : (Int32 × Int32 × IM) → Option ((Int32 × Int32 × IM) ⊕ (Int32 × Int32 × IM)) := fun (x3, x4, M) => if (3 : Int32) < x4 then (some (Sum.inr (x3, x4, M))) else (match F_75 x1 (iset M 49 (2 : Int32).toNatClampNeg x4) with | none => none | some (c2, M2) => (some (Sum.inl (x3 ||| (c2 <<< ((3 * (x4 - 1)) &&& 31)), x4 + 1, M2))))
def L_74_11 (x1 : Int32) (x3 : Int32) (x4 : Int32) (M : IM) : Option (Int32 × Int32 × IM) := loopN (B_74_11 x1) FU (x3, x4, M)
def F_74 (a1 : Int32) (a2 : Int32) (M : IM) : Option (Int32 × IM) := (match F_76 a1 a2 M with | none => none | some M1 => (match L_74_11 a1 0 1 M1 with | none => none | some (x3_5, x4_5, M5) => (some ((x3_5, M5)))))
theorem TB_74_11 {X : AX} {d : Nat} (hd : 5 ≤ d) {x1 : Int32} {v : Option Value} {M' : IM} : ∀ (s : Int32 × Int32 × IM) (o : (Int32 × Int32 × IM) ⊕ (Int32 × Int32 × IM)), B_74_11 x1 s = some o → (∀ s', o = .inl s' → (fun (x3, x4, M) => Rc X d 74 11 [some (.ref (45)), some (.int (x1)), none, some (.int (x3)), some (.int (x4))] [] M v M') s') → (∀ r, o = .inr r → (fun (x3, x4, M) => Rc X d 74 46 [none, none, none, some (.int (x3)), none] [] M v M') r) → (fun (x3, x4, M) => Rc X d 74 11 [some (.ref (45)), some (.int (x1)), none, some (.int (x3)), some (.int (x4))] [] M v M') s := by
  rintro ⟨x3, x4, M⟩ o h hP hE
  show Rc X d 74 11 [some (.ref (45)), some (.int (x1)), none, some (.int (x3)), some (.int (x4))] [] M v M'
  obtain ⟨d, rfl⟩ : ∃ e, d = e + 1 := ⟨d - 1, by omega⟩
  unfold B_74_11 at h
  dsimp only at h hP hE
  refine Rc.run tb_74 2 (pc' := 14) (ls' := [some (.ref (45)), some (.int (x1)), none, some (.int (x3)), some (.int (x4))]) (st' := [.int (3), .int (x4)]) rfl rfl ?_
  refine Rc.icmp_gt (pc1 := 46) tb_74 rfl rfl (by decide) (by decide) (fun hb4 => ?_) (fun hb4 => ?_)
  · rw [if_pos hb4] at h
    refine Rc.mask (b := 8) ((tb_74.2 46).trans rfl) (ls' := [none, none, none, some (.int (x3)), none]) rfl ?_
    obtain rfl := Option.some.inj h
    exact hE _ rfl
  · rw [if_neg hb4] at h
    refine Rc.run tb_74 1 (pc' := 18) (ls' := [some (.ref (45)), some (.int (x1)), none, some (.int (x3)), some (.int (x4))]) (st' := [.ref (45)]) rfl rfl ?_
    refine Rc.getR tb_74 rfl rfl ob_45 (by decide +kernel) tg_45_8 (by decide) ?_
    refine Rc.run tb_74 2 (pc' := 24) (ls' := [some (.ref (45)), some (.int (x1)), none, some (.int (x3)), some (.int (x4))]) (st' := [.int (x4), .int (2), .ref (49)]) rfl rfl ?_
    refine Rc.iast tb_74 rfl rfl ia_49 (by decide) ?_
    refine Rc.run tb_74 3 (pc' := 28) (ls' := [some (.ref (45)), some (.int (x1)), none, some (.int (x3)), some (.int (x4))]) (st' := [.int (x1), .ref (45), .int (x3)]) rfl rfl ?_
    cases hc2 : F_75 x1 (iset M 49 (2 : Int32).toNatClampNeg x4) with
    | none => rw [hc2] at h; cases h
    | some r2 =>
      obtain ⟨c2, M2⟩ := r2
      rw [hc2] at h
      dsimp only at h
      have hq2 := T_75 (X := X) (d := d) (by omega) (M := iset M 49 (2 : Int32).toNatClampNeg x4) hc2
      refine Rc.callV tb_74 rfl rfl rfl mS_75 mP_75 mL_75 mO_75 rfl rfl ob_45 rfl rfl hq2 ?_
      refine Rc.run tb_74 10 (pc' := 11) (ls' := [some (.ref (45)), some (.int (x1)), none, some (.int (x3 ||| (c2 <<< ((3 * (x4 - 1)) &&& 31)))), some (.int (x4 + 1))]) (st' := []) rfl rfl ?_
      refine Rc.mask (b := 27) ((tb_74.2 11).trans rfl) (ls' := [some (.ref (45)), some (.int (x1)), none, some (.int (x3 ||| (c2 <<< ((3 * (x4 - 1)) &&& 31)))), some (.int (x4 + 1))]) rfl ?_
      obtain rfl := Option.some.inj h
      exact hP _ rfl
theorem TL_74_11 {X : AX} {d : Nat} (hd : 5 ≤ d) {x1 : Int32} {x3 : Int32} {x4 : Int32} {M : IM} {v : Option Value} {M' : IM} {r : Int32 × Int32 × IM} (h : L_74_11 x1 x3 x4 M = some r) (hE : (fun (x3, x4, M) => Rc X d 74 46 [none, none, none, some (.int (x3)), none] [] M v M') r) : Rc X d 74 11 [some (.ref (45)), some (.int (x1)), none, some (.int (x3)), some (.int (x4))] [] M v M' := by
  exact loopN_rc (P := fun (x3, x4, M) => Rc X d 74 11 [some (.ref (45)), some (.int (x1)), none, some (.int (x3)), some (.int (x4))] [] M v M') (E := fun (x3, x4, M) => Rc X d 74 46 [none, none, none, some (.int (x3)), none] [] M v M') (TB_74_11 (X := X) hd) FU _ r h hE
theorem TF_74 {X : AX} {d : Nat} (hd : 5 ≤ d) {a1 : Int32} {a2 : Int32} {M : IM} {v : Option Value} {M' : IM} {o : Int32 × IM} (h : F_74 a1 a2 M = some o) (hC : v = some (.int o.1) ∧ M' = o.2) : Rc X d 74 0 [some (.ref (45)), some (.int (a1)), some (.int (a2)), none, none] [] M v M' := by
  obtain ⟨d, rfl⟩ : ∃ e, d = e + 1 := ⟨d - 1, by omega⟩
  unfold F_74 at h
  refine Rc.run tb_74 3 (pc' := 3) (ls' := [some (.ref (45)), some (.int (a1)), some (.int (a2)), none, none]) (st' := [.int (a2), .int (a1), .ref (45)]) rfl rfl ?_
  cases hc1 : F_76 a1 a2 M with
  | none => rw [hc1] at h; cases h
  | some M1 =>
    rw [hc1] at h
    dsimp only at h
    have hq1 := T_76 (X := X) (d := d) (by omega) (M := M) hc1
    refine Rc.callV tb_74 rfl rfl rfl mS_76 mP_76 mL_76 mO_76 rfl rfl ob_45 rfl rfl hq1 ?_
    refine Rc.run tb_74 4 (pc' := 11) (ls' := [some (.ref (45)), some (.int (a1)), some (.int (a2)), some (.int (0)), some (.int (1))]) (st' := []) rfl rfl ?_
    refine Rc.mask (b := 27) ((tb_74.2 11).trans rfl) (ls' := [some (.ref (45)), some (.int (a1)), none, some (.int (0)), some (.int (1))]) rfl ?_
    cases hl5 : L_74_11 a1 0 1 M1 with
    | none => rw [hl5] at h; cases h
    | some r5 =>
      obtain ⟨x3_5, x4_5, M5⟩ := r5
      rw [hl5] at h
      dsimp only at h
      refine TL_74_11 (X := X) (d := d + 1) (by omega) hl5 ?_
      refine Rc.run tb_74 1 (pc' := 47) (ls' := [none, none, none, some (.int (x3_5)), none]) (st' := [.int (x3_5)]) rfl rfl ?_
      obtain rfl := Option.some.inj h
      obtain ⟨rfl, rfl⟩ := hC
      exact Rc.iret (ins := .ireturn) tb_74 rfl mR_74
theorem T_74 {X : AX} {d : Nat} (hd : 5 ≤ d) {a1 : Int32} {a2 : Int32} {M : IM} {x : Int32} {M1 : IM} (h : F_74 a1 a2 M = some (x, M1)) : Rc X d 74 0 [some (.ref (45)), some (.int (a1)), some (.int (a2)), none, none] [] M (some (.int x)) M1 := TF_74 hd h ⟨rfl, rfl⟩
/-! 82: NineDemands$Village.becomeLike -/
def B_82_25 (t0 : Nat) (t1 : Nat) : (Int32 × IM) → Option ((Int32 × IM) ⊕ (Int32 × IM)) := fun (x2, M) => if M t0 2 ≤ x2 then (some (Sum.inr (x2, M))) else (if inb x2 8 = true then (if inb x2 8 = true then (some (Sum.inl (x2 + 1, F_17 (t0 + 5 + 2 * x2.toNatClampNeg) (t1 + 5 + 2 * x2.toNatClampNeg) M))) else none) else none)
def L_82_25 (t0 : Nat) (t1 : Nat) (x2 : Int32) (M : IM) : Option (Int32 × IM) := loopN (B_82_25 t0 t1) FU (x2, M)
def J_82_54 (t0 : Nat) (t1 : Nat) (M : IM) : Option (IM) := some (iset (icpy (iset (icpy M (t1 + 3) (0 : Int32).toNatClampNeg (t0 + 3) (0 : Int32).toNatClampNeg (50 : Int32).toNatClampNeg) t0 4 ((icpy M (t1 + 3) (0 : Int32).toNatClampNeg (t0 + 3) (0 : Int32).toNatClampNeg (50 : Int32).toNatClampNeg) t1 4)) (t1 + 4) (0 : Int32).toNatClampNeg (t0 + 4) (0 : Int32).toNatClampNeg (20 : Int32).toNatClampNeg) t0 6 ((icpy (iset (icpy M (t1 + 3) (0 : Int32).toNatClampNeg (t0 + 3) (0 : Int32).toNatClampNeg (50 : Int32).toNatClampNeg) t0 4 ((icpy M (t1 + 3) (0 : Int32).toNatClampNeg (t0 + 3) (0 : Int32).toNatClampNeg (50 : Int32).toNatClampNeg) t1 4)) (t1 + 4) (0 : Int32).toNatClampNeg (t0 + 4) (0 : Int32).toNatClampNeg (20 : Int32).toNatClampNeg) t1 6))
def F_82 (t0 : Nat) (t1 : Nat) (M : IM) : Option (IM) := (match L_82_25 t0 t1 0 (iset (icpy M (t1 + 1) (0 : Int32).toNatClampNeg (t0 + 1) (0 : Int32).toNatClampNeg (12 : Int32).toNatClampNeg) t0 2 ((icpy M (t1 + 1) (0 : Int32).toNatClampNeg (t0 + 1) (0 : Int32).toNatClampNeg (12 : Int32).toNatClampNeg) t1 2)) with | none => none | some (x2_5, M5) => (J_82_54 t0 t1 M5))
theorem TB_82_25 {X : AX} {d : Nat} (hd : 2 ≤ d) {t0 : Nat} {t1 : Nat} (ht0 : VilH t0) (ht1 : VilH t1) {v : Option Value} {M' : IM} : ∀ (s : Int32 × IM) (o : (Int32 × IM) ⊕ (Int32 × IM)), B_82_25 t0 t1 s = some o → (∀ s', o = .inl s' → (fun (x2, M) => Rc X d 82 25 [some (.ref (t0)), some (.ref (t1)), some (.int (x2))] [] M v M') s') → (∀ r, o = .inr r → (fun (x2, M) => Rc X d 82 54 [some (.ref (t0)), some (.ref (t1)), none] [] M v M') r) → (fun (x2, M) => Rc X d 82 25 [some (.ref (t0)), some (.ref (t1)), some (.int (x2))] [] M v M') s := by
  rintro ⟨x2, M⟩ o h hP hE
  show Rc X d 82 25 [some (.ref (t0)), some (.ref (t1)), some (.int (x2))] [] M v M'
  obtain ⟨d, rfl⟩ : ∃ e, d = e + 1 := ⟨d - 1, by omega⟩
  unfold B_82_25 at h
  dsimp only at h hP hE
  refine Rc.run tb_82 2 (pc' := 27) (ls' := [some (.ref (t0)), some (.ref (t1)), some (.int (x2))]) (st' := [.ref (t0), .int (x2)]) rfl rfl ?_
  refine Rc.getI tb_82 rfl rfl (VilH.ob ht0) (by decide +kernel) (VilH.f2 ht0) ?_
  refine Rc.icmp_ge (pc1 := 54) tb_82 rfl rfl (by decide) (by decide) (fun hb4 => ?_) (fun hb4 => ?_)
  · rw [if_pos hb4] at h
    refine Rc.mask (b := 3) ((tb_82.2 54).trans rfl) (ls' := [some (.ref (t0)), some (.ref (t1)), none]) rfl ?_
    obtain rfl := Option.some.inj h
    exact hE _ rfl
  · rw [if_neg hb4] at h
    refine Rc.run tb_82 1 (pc' := 34) (ls' := [some (.ref (t0)), some (.ref (t1)), some (.int (x2))]) (st' := [.ref (t0)]) rfl rfl ?_
    refine Rc.getR tb_82 rfl rfl (VilH.ob ht0) (by decide +kernel) (VilH.f1 ht0) (by have := VilH.lt ht0; omega) ?_
    refine Rc.run tb_82 1 (pc' := 38) (ls' := [some (.ref (t0)), some (.ref (t1)), some (.int (x2))]) (st' := [.int (x2), .ref ((t0 + 2))]) rfl rfl ?_
    by_cases hb1 : inb x2 8 = true
    · rw [if_pos hb1] at h
      refine Rc.aald tb_82 rfl rfl (VilH.lt98 ht0) (Or.inl (VilH.kd2 ht0)) (by rw [VilH.ln2 ht0]; exact hb1) (VilH.tg2 ht0 hb1) (LawH.lt0 (VilH.el ht0 hb1)) ?_
      refine Rc.run tb_82 1 (pc' := 40) (ls' := [some (.ref (t0)), some (.ref (t1)), some (.int (x2))]) (st' := [.ref (t1), .ref ((t0 + 5 + 2 * x2.toNatClampNeg))]) rfl rfl ?_
      refine Rc.getR tb_82 rfl rfl (VilH.ob ht1) (by decide +kernel) (VilH.f1 ht1) (by have := VilH.lt ht1; omega) ?_
      refine Rc.run tb_82 1 (pc' := 44) (ls' := [some (.ref (t0)), some (.ref (t1)), some (.int (x2))]) (st' := [.int (x2), .ref ((t1 + 2)), .ref ((t0 + 5 + 2 * x2.toNatClampNeg))]) rfl rfl ?_
      by_cases hb2 : inb x2 8 = true
      · rw [if_pos hb2] at h
        refine Rc.aald tb_82 rfl rfl (VilH.lt98 ht1) (Or.inl (VilH.kd2 ht1)) (by rw [VilH.ln2 ht1]; exact hb2) (VilH.tg2 ht1 hb2) (LawH.lt0 (VilH.el ht1 hb2)) ?_
        have hq3 := T_17 (X := X) (d := d) (by omega) (VilH.el ht0 hb1) (VilH.el ht1 hb2) M
        refine Rc.callV tb_82 rfl rfl rfl mS_17 mP_17 mL_17 mO_17 rfl rfl (LawH.ob (VilH.el ht0 hb1)) rfl rfl hq3 ?_
        refine Rc.run tb_82 2 (pc' := 25) (ls' := [some (.ref (t0)), some (.ref (t1)), some (.int (x2 + 1))]) (st' := []) rfl rfl ?_
        refine Rc.mask (b := 7) ((tb_82.2 25).trans rfl) (ls' := [some (.ref (t0)), some (.ref (t1)), some (.int (x2 + 1))]) rfl ?_
        obtain rfl := Option.some.inj h
        exact hP _ rfl
      · rw [if_neg hb2] at h
        cases h
    · rw [if_neg hb1] at h
      cases h
theorem TL_82_25 {X : AX} {d : Nat} (hd : 2 ≤ d) {t0 : Nat} {t1 : Nat} {x2 : Int32} {M : IM} (ht0 : VilH t0) (ht1 : VilH t1) {v : Option Value} {M' : IM} {r : Int32 × IM} (h : L_82_25 t0 t1 x2 M = some r) (hE : (fun (x2, M) => Rc X d 82 54 [some (.ref (t0)), some (.ref (t1)), none] [] M v M') r) : Rc X d 82 25 [some (.ref (t0)), some (.ref (t1)), some (.int (x2))] [] M v M' := by
  exact loopN_rc (P := fun (x2, M) => Rc X d 82 25 [some (.ref (t0)), some (.ref (t1)), some (.int (x2))] [] M v M') (E := fun (x2, M) => Rc X d 82 54 [some (.ref (t0)), some (.ref (t1)), none] [] M v M') (TB_82_25 (X := X) hd ht0 ht1) FU _ r h hE
theorem TJ_82_54 {X : AX} {d : Nat} (hd : 2 ≤ d) {t0 : Nat} {t1 : Nat} {M : IM} (ht0 : VilH t0) (ht1 : VilH t1) {v : Option Value} {M' : IM} {o : IM} (h : J_82_54 t0 t1 M = some o) (hC : v = none ∧ M' = o) : Rc X d 82 54 [some (.ref (t0)), some (.ref (t1)), none] [] M v M' := by
  obtain ⟨d, rfl⟩ : ∃ e, d = e + 1 := ⟨d - 1, by omega⟩
  unfold J_82_54 at h
  refine Rc.run tb_82 1 (pc' := 55) (ls' := [some (.ref (t0)), some (.ref (t1)), none]) (st' := [.ref (t1)]) rfl rfl ?_
  refine Rc.getR tb_82 rfl rfl (VilH.ob ht1) (by decide +kernel) (VilH.f3 ht1) (by have := VilH.lt ht1; omega) ?_
  refine Rc.run tb_82 2 (pc' := 60) (ls' := [some (.ref (t0)), some (.ref (t1)), none]) (st' := [.ref (t0), .int (0), .ref ((t1 + 3))]) rfl rfl ?_
  refine Rc.getR tb_82 rfl rfl (VilH.ob ht0) (by decide +kernel) (VilH.f3 ht0) (by have := VilH.lt ht0; omega) ?_
  refine Rc.run tb_82 2 (pc' := 66) (ls' := [some (.ref (t0)), some (.ref (t1)), none]) (st' := [.int (50), .int (0), .ref ((t0 + 3)), .int (0), .ref ((t1 + 3))]) rfl rfl ?_
  refine Rc.copy tb_82 rfl rfl rfl (VilH.row3 ht1) (VilH.row3 ht0) (by decide) ?_
  refine Rc.run tb_82 2 (pc' := 71) (ls' := [some (.ref (t0)), some (.ref (t1)), none]) (st' := [.ref (t1), .ref (t0)]) rfl rfl ?_
  refine Rc.getI tb_82 rfl rfl (VilH.ob ht1) (by decide +kernel) (VilH.f4 ht1) ?_
  refine Rc.putI tb_82 rfl rfl (VilH.ob ht0) (by decide +kernel) (VilH.f4 ht0) rfl ?_
  refine Rc.run tb_82 1 (pc' := 78) (ls' := [some (.ref (t0)), some (.ref (t1)), none]) (st' := [.ref (t1)]) rfl rfl ?_
  refine Rc.getR tb_82 rfl rfl (VilH.ob ht1) (by decide +kernel) (VilH.f5 ht1) (by have := VilH.lt ht1; omega) ?_
  refine Rc.run tb_82 2 (pc' := 83) (ls' := [some (.ref (t0)), some (.ref (t1)), none]) (st' := [.ref (t0), .int (0), .ref ((t1 + 4))]) rfl rfl ?_
  refine Rc.getR tb_82 rfl rfl (VilH.ob ht0) (by decide +kernel) (VilH.f5 ht0) (by have := VilH.lt ht0; omega) ?_
  refine Rc.run tb_82 2 (pc' := 89) (ls' := [some (.ref (t0)), some (.ref (t1)), none]) (st' := [.int (20), .int (0), .ref ((t0 + 4)), .int (0), .ref ((t1 + 4))]) rfl rfl ?_
  refine Rc.copy tb_82 rfl rfl rfl (VilH.row4 ht1) (VilH.row4 ht0) (by decide) ?_
  refine Rc.run tb_82 2 (pc' := 94) (ls' := [some (.ref (t0)), some (.ref (t1)), none]) (st' := [.ref (t1), .ref (t0)]) rfl rfl ?_
  refine Rc.getI tb_82 rfl rfl (VilH.ob ht1) (by decide +kernel) (VilH.f6 ht1) ?_
  refine Rc.putI tb_82 rfl rfl (VilH.ob ht0) (by decide +kernel) (VilH.f6 ht0) rfl ?_
  obtain rfl := Option.some.inj h
  obtain ⟨rfl, rfl⟩ := hC
  exact Rc.vret tb_82 rfl mR_82
theorem TF_82 {X : AX} {d : Nat} (hd : 2 ≤ d) {t0 : Nat} {t1 : Nat} {M : IM} (ht0 : VilH t0) (ht1 : VilH t1) {v : Option Value} {M' : IM} {o : IM} (h : F_82 t0 t1 M = some o) (hC : v = none ∧ M' = o) : Rc X d 82 0 [some (.ref (t0)), some (.ref (t1)), none] [] M v M' := by
  obtain ⟨d, rfl⟩ : ∃ e, d = e + 1 := ⟨d - 1, by omega⟩
  unfold F_82 at h
  refine Rc.run tb_82 1 (pc' := 1) (ls' := [some (.ref (t0)), some (.ref (t1)), none]) (st' := [.ref (t1)]) rfl rfl ?_
  refine Rc.getR tb_82 rfl rfl (VilH.ob ht1) (by decide +kernel) (VilH.f0 ht1) (by have := VilH.lt ht1; omega) ?_
  refine Rc.run tb_82 2 (pc' := 6) (ls' := [some (.ref (t0)), some (.ref (t1)), none]) (st' := [.ref (t0), .int (0), .ref ((t1 + 1))]) rfl rfl ?_
  refine Rc.getR tb_82 rfl rfl (VilH.ob ht0) (by decide +kernel) (VilH.f0 ht0) (by have := VilH.lt ht0; omega) ?_
  refine Rc.run tb_82 2 (pc' := 12) (ls' := [some (.ref (t0)), some (.ref (t1)), none]) (st' := [.int (12), .int (0), .ref ((t0 + 1)), .int (0), .ref ((t1 + 1))]) rfl rfl ?_
  refine Rc.copy tb_82 rfl rfl rfl (VilH.row1 ht1) (VilH.row1 ht0) (by decide) ?_
  refine Rc.run tb_82 2 (pc' := 17) (ls' := [some (.ref (t0)), some (.ref (t1)), none]) (st' := [.ref (t1), .ref (t0)]) rfl rfl ?_
  refine Rc.getI tb_82 rfl rfl (VilH.ob ht1) (by decide +kernel) (VilH.f2 ht1) ?_
  refine Rc.putI tb_82 rfl rfl (VilH.ob ht0) (by decide +kernel) (VilH.f2 ht0) rfl ?_
  refine Rc.run tb_82 2 (pc' := 25) (ls' := [some (.ref (t0)), some (.ref (t1)), some (.int (0))]) (st' := []) rfl rfl ?_
  refine Rc.mask (b := 7) ((tb_82.2 25).trans rfl) (ls' := [some (.ref (t0)), some (.ref (t1)), some (.int (0))]) rfl ?_
  cases hl5 : L_82_25 t0 t1 0 (iset (icpy M (t1 + 1) (0 : Int32).toNatClampNeg (t0 + 1) (0 : Int32).toNatClampNeg (12 : Int32).toNatClampNeg) t0 2 ((icpy M (t1 + 1) (0 : Int32).toNatClampNeg (t0 + 1) (0 : Int32).toNatClampNeg (12 : Int32).toNatClampNeg) t1 2)) with
  | none => rw [hl5] at h; cases h
  | some r5 =>
    obtain ⟨x2_5, M5⟩ := r5
    rw [hl5] at h
    dsimp only at h
    refine TL_82_25 (X := X) (d := d + 1) (by omega) ht0 ht1 hl5 ?_
    refine Rc.mask (b := 3) ((tb_82.2 54).trans rfl) (ls' := [some (.ref (t0)), some (.ref (t1)), none]) rfl ?_
    exact TJ_82_54 (X := X) (d := d + 1) (by omega) ht0 ht1 h hC
theorem T_82 {X : AX} {d : Nat} (hd : 2 ≤ d) {t0 : Nat} {t1 : Nat} {M : IM} (ht0 : VilH t0) (ht1 : VilH t1) {M1 : IM} (h : F_82 t0 t1 M = some M1) : Rc X d 82 0 [some (.ref (t0)), some (.ref (t1)), none] [] M none M1 := TF_82 hd ht0 ht1 h ⟨rfl, rfl⟩
/-! 84: NineDemands$Village.costOf -/
def J_84_33_4 (t0 : Nat) (x1 : Int32) (x2 : Int32) (x3 : Int32) (M : IM) : Option ((Int32 × Int32) ⊕ (Int32 × Int32)) := some (Sum.inl (x2, x3 + 1))
def B_84_4 (t0 : Nat) (x1 : Int32) (M : IM) : (Int32 × Int32) → Option ((Int32 × Int32) ⊕ (Int32 × Int32)) := fun (x2, x3) => if M t0 2 ≤ x3 then (some (Sum.inr (x2, x3))) else (if F_83 t0 x1 x3 M = 0 then (J_84_33_4 t0 x1 x2 x3 M) else (if inb x3 8 = true then (J_84_33_4 t0 x1 (x2 + (M (t0 + 5 + 2 * x3.toNatClampNeg) 1)) x3 M) else none))
def L_84_4 (t0 : Nat) (x1 : Int32) (M : IM) (x2 : Int32) (x3 : Int32) : Option (Int32 × Int32) := loopN (B_84_4 t0 x1 M) FU (x2, x3)
def F_84 (t0 : Nat) (a1 : Int32) (M : IM) : Option (Int32) := (match L_84_4 t0 a1 M 0 0 with | none => none | some (x2_5, x3_5) => (some (x2_5)))
theorem TJ_84_33_4 {X : AX} {d : Nat} (hd : 1 ≤ d) {t0 : Nat} {x1 : Int32} {x2 : Int32} {x3 : Int32} {M : IM} (ht0 : VilH t0) {v : Option Value} {M' : IM} {o : (Int32 × Int32) ⊕ (Int32 × Int32)} (h : J_84_33_4 t0 x1 x2 x3 M = some o) (hP : ∀ s', o = .inl s' → (fun (x2, x3) => Rc X d 84 4 [some (.ref (t0)), some (.int (x1)), some (.int (x2)), some (.int (x3))] [] M v M') s') (hE : ∀ r, o = .inr r → (fun (x2, x3) => Rc X d 84 39 [none, none, some (.int (x2)), none] [] M v M') r) : Rc X d 84 33 [some (.ref (t0)), some (.int (x1)), some (.int (x2)), some (.int (x3))] [] M v M' := by
  obtain ⟨d, rfl⟩ : ∃ e, d = e + 1 := ⟨d - 1, by omega⟩
  unfold J_84_33_4 at h
  dsimp only at hP hE
  refine Rc.run tb_84 2 (pc' := 4) (ls' := [some (.ref (t0)), some (.int (x1)), some (.int (x2)), some (.int (x3 + 1))]) (st' := []) rfl rfl ?_
  refine Rc.mask (b := 15) ((tb_84.2 4).trans rfl) (ls' := [some (.ref (t0)), some (.int (x1)), some (.int (x2)), some (.int (x3 + 1))]) rfl ?_
  obtain rfl := Option.some.inj h
  exact hP _ rfl
theorem TB_84_4 {X : AX} {d : Nat} (hd : 1 ≤ d) {t0 : Nat} {x1 : Int32} {M : IM} (ht0 : VilH t0) {v : Option Value} {M' : IM} : ∀ (s : Int32 × Int32) (o : (Int32 × Int32) ⊕ (Int32 × Int32)), B_84_4 t0 x1 M s = some o → (∀ s', o = .inl s' → (fun (x2, x3) => Rc X d 84 4 [some (.ref (t0)), some (.int (x1)), some (.int (x2)), some (.int (x3))] [] M v M') s') → (∀ r, o = .inr r → (fun (x2, x3) => Rc X d 84 39 [none, none, some (.int (x2)), none] [] M v M') r) → (fun (x2, x3) => Rc X d 84 4 [some (.ref (t0)), some (.int (x1)), some (.int (x2)), some (.int (x3))] [] M v M') s := by
  rintro ⟨x2, x3⟩ o h hP hE
  show Rc X d 84 4 [some (.ref (t0)), some (.int (x1)), some (.int (x2)), some (.int (x3))] [] M v M'
  obtain ⟨d, rfl⟩ : ∃ e, d = e + 1 := ⟨d - 1, by omega⟩
  unfold B_84_4 at h
  dsimp only at h hP hE
  refine Rc.run tb_84 2 (pc' := 6) (ls' := [some (.ref (t0)), some (.int (x1)), some (.int (x2)), some (.int (x3))]) (st' := [.ref (t0), .int (x3)]) rfl rfl ?_
  refine Rc.getI tb_84 rfl rfl (VilH.ob ht0) (by decide +kernel) (VilH.f2 ht0) ?_
  refine Rc.icmp_ge (pc1 := 39) tb_84 rfl rfl (by decide) (by decide) (fun hb4 => ?_) (fun hb4 => ?_)
  · rw [if_pos hb4] at h
    refine Rc.mask (b := 4) ((tb_84.2 39).trans rfl) (ls' := [none, none, some (.int (x2)), none]) rfl ?_
    obtain rfl := Option.some.inj h
    exact hE _ rfl
  · rw [if_neg hb4] at h
    refine Rc.run tb_84 3 (pc' := 15) (ls' := [some (.ref (t0)), some (.int (x1)), some (.int (x2)), some (.int (x3))]) (st' := [.int (x3), .int (x1), .ref (t0)]) rfl rfl ?_
    have hq1 := T_83 (X := X) (d := d) (by omega) ht0 x1 x3 M
    have hz1 := Rc.bool mR_83 hq1
    refine Rc.callV tb_84 rfl rfl rfl mS_83 mP_83 mL_83 mO_83 rfl rfl (VilH.ob ht0) rfl rfl hq1 ?_
    refine Rc.if_eq (pc1 := 33) tb_84 rfl rfl (by decide) (by decide) (fun hb3 => ?_) (fun hb3 => ?_)
    · rw [if_pos hb3] at h
      refine Rc.mask (b := 15) ((tb_84.2 33).trans rfl) (ls' := [some (.ref (t0)), some (.int (x1)), some (.int (x2)), some (.int (x3))]) rfl ?_
      exact TJ_84_33_4 (X := X) (d := d + 1) (by omega) ht0 h hP hE
    · rw [if_neg hb3] at h
      refine Rc.run tb_84 2 (pc' := 23) (ls' := [some (.ref (t0)), some (.int (x1)), some (.int (x2)), some (.int (x3))]) (st' := [.ref (t0), .int (x2)]) rfl rfl ?_
      refine Rc.getR tb_84 rfl rfl (VilH.ob ht0) (by decide +kernel) (VilH.f1 ht0) (by have := VilH.lt ht0; omega) ?_
      refine Rc.run tb_84 1 (pc' := 27) (ls' := [some (.ref (t0)), some (.int (x1)), some (.int (x2)), some (.int (x3))]) (st' := [.int (x3), .ref ((t0 + 2)), .int (x2)]) rfl rfl ?_
      by_cases hb2 : inb x3 8 = true
      · rw [if_pos hb2] at h
        refine Rc.aald tb_84 rfl rfl (VilH.lt98 ht0) (Or.inl (VilH.kd2 ht0)) (by rw [VilH.ln2 ht0]; exact hb2) (VilH.tg2 ht0 hb2) (LawH.lt0 (VilH.el ht0 hb2)) ?_
        refine Rc.getI tb_84 rfl rfl (LawH.ob (VilH.el ht0 hb2)) (by decide +kernel) (LawH.f1 (VilH.el ht0 hb2)) ?_
        refine Rc.run tb_84 2 (pc' := 33) (ls' := [some (.ref (t0)), some (.int (x1)), some (.int (x2 + (M (t0 + 5 + 2 * x3.toNatClampNeg) 1))), some (.int (x3))]) (st' := []) rfl rfl ?_
        refine Rc.mask (b := 15) ((tb_84.2 33).trans rfl) (ls' := [some (.ref (t0)), some (.int (x1)), some (.int (x2 + (M (t0 + 5 + 2 * x3.toNatClampNeg) 1))), some (.int (x3))]) rfl ?_
        exact TJ_84_33_4 (X := X) (d := d + 1) (by omega) ht0 h hP hE
      · rw [if_neg hb2] at h
        cases h
theorem TL_84_4 {X : AX} {d : Nat} (hd : 1 ≤ d) {t0 : Nat} {x1 : Int32} {M : IM} {x2 : Int32} {x3 : Int32} (ht0 : VilH t0) {v : Option Value} {M' : IM} {r : Int32 × Int32} (h : L_84_4 t0 x1 M x2 x3 = some r) (hE : (fun (x2, x3) => Rc X d 84 39 [none, none, some (.int (x2)), none] [] M v M') r) : Rc X d 84 4 [some (.ref (t0)), some (.int (x1)), some (.int (x2)), some (.int (x3))] [] M v M' := by
  exact loopN_rc (P := fun (x2, x3) => Rc X d 84 4 [some (.ref (t0)), some (.int (x1)), some (.int (x2)), some (.int (x3))] [] M v M') (E := fun (x2, x3) => Rc X d 84 39 [none, none, some (.int (x2)), none] [] M v M') (TB_84_4 (X := X) hd ht0) FU _ r h hE
theorem TF_84 {X : AX} {d : Nat} (hd : 1 ≤ d) {t0 : Nat} {a1 : Int32} {M : IM} (ht0 : VilH t0) {v : Option Value} {M' : IM} {o : Int32} (h : F_84 t0 a1 M = some o) (hC : v = some (.int o) ∧ M' = M) : Rc X d 84 0 [some (.ref (t0)), some (.int (a1)), none, none] [] M v M' := by
  obtain ⟨d, rfl⟩ : ∃ e, d = e + 1 := ⟨d - 1, by omega⟩
  unfold F_84 at h
  refine Rc.run tb_84 4 (pc' := 4) (ls' := [some (.ref (t0)), some (.int (a1)), some (.int (0)), some (.int (0))]) (st' := []) rfl rfl ?_
  refine Rc.mask (b := 15) ((tb_84.2 4).trans rfl) (ls' := [some (.ref (t0)), some (.int (a1)), some (.int (0)), some (.int (0))]) rfl ?_
  cases hl5 : L_84_4 t0 a1 M 0 0 with
  | none => rw [hl5] at h; cases h
  | some r5 =>
    obtain ⟨x2_5, x3_5⟩ := r5
    rw [hl5] at h
    dsimp only at h
    refine TL_84_4 (X := X) (d := d + 1) (by omega) ht0 hl5 ?_
    refine Rc.run tb_84 1 (pc' := 40) (ls' := [none, none, some (.int (x2_5)), none]) (st' := [.int (x2_5)]) rfl rfl ?_
    obtain rfl := Option.some.inj h
    obtain ⟨rfl, rfl⟩ := hC
    exact Rc.iret (ins := .ireturn) tb_84 rfl mR_84
theorem T_84 {X : AX} {d : Nat} (hd : 1 ≤ d) {t0 : Nat} {a1 : Int32} {M : IM} (ht0 : VilH t0) {x : Int32} (h : F_84 t0 a1 M = some x) : Rc X d 84 0 [some (.ref (t0)), some (.int (a1)), none, none] [] M (some (.int x)) M := TF_84 hd ht0 h ⟨rfl, rfl⟩
/-! 85: NineDemands$Village.choosesBoth -/
def J_85_23_4 (t0 : Nat) (x1 : Int32) (x2 : Int32) (M : IM) : Option ((Int32 × Int32) ⊕ (Int32 × Int32)) := some (Sum.inl (x1, x2 + 1))
def B_85_4 (t0 : Nat) (M : IM) : (Int32 × Int32) → Option ((Int32 × Int32) ⊕ (Int32 × Int32)) := fun (x1, x2) => if (12 : Int32) ≤ x2 then (some (Sum.inr (x1, x2))) else (if inb x2 12 = true then (if M (t0 + 1) x2.toNatClampNeg = 3 then (J_85_23_4 t0 (x1 + 1) x2 M) else (J_85_23_4 t0 x1 x2 M)) else none)
def L_85_4 (t0 : Nat) (M : IM) (x1 : Int32) (x2 : Int32) : Option (Int32 × Int32) := loopN (B_85_4 t0 M) FU (x1, x2)
def F_85 (t0 : Nat) (M : IM) : Option (Int32) := (match L_85_4 t0 M 0 0 with | none => none | some (x1_4, x2_4) => (some (x1_4)))
theorem TJ_85_23_4 {X : AX} {d : Nat} (hd : 0 ≤ d) {t0 : Nat} {x1 : Int32} {x2 : Int32} {M : IM} (ht0 : VilH t0) {v : Option Value} {M' : IM} {o : (Int32 × Int32) ⊕ (Int32 × Int32)} (h : J_85_23_4 t0 x1 x2 M = some o) (hP : ∀ s', o = .inl s' → (fun (x1, x2) => Rc X d 85 4 [some (.ref (t0)), some (.int (x1)), some (.int (x2))] [] M v M') s') (hE : ∀ r, o = .inr r → (fun (x1, x2) => Rc X d 85 29 [none, some (.int (x1)), none] [] M v M') r) : Rc X d 85 23 [some (.ref (t0)), some (.int (x1)), some (.int (x2))] [] M v M' := by
  unfold J_85_23_4 at h
  dsimp only at hP hE
  refine Rc.run tb_85 2 (pc' := 4) (ls' := [some (.ref (t0)), some (.int (x1)), some (.int (x2 + 1))]) (st' := []) rfl rfl ?_
  refine Rc.mask (b := 7) ((tb_85.2 4).trans rfl) (ls' := [some (.ref (t0)), some (.int (x1)), some (.int (x2 + 1))]) rfl ?_
  obtain rfl := Option.some.inj h
  exact hP _ rfl
theorem TB_85_4 {X : AX} {d : Nat} (hd : 0 ≤ d) {t0 : Nat} {M : IM} (ht0 : VilH t0) {v : Option Value} {M' : IM} : ∀ (s : Int32 × Int32) (o : (Int32 × Int32) ⊕ (Int32 × Int32)), B_85_4 t0 M s = some o → (∀ s', o = .inl s' → (fun (x1, x2) => Rc X d 85 4 [some (.ref (t0)), some (.int (x1)), some (.int (x2))] [] M v M') s') → (∀ r, o = .inr r → (fun (x1, x2) => Rc X d 85 29 [none, some (.int (x1)), none] [] M v M') r) → (fun (x1, x2) => Rc X d 85 4 [some (.ref (t0)), some (.int (x1)), some (.int (x2))] [] M v M') s := by
  rintro ⟨x1, x2⟩ o h hP hE
  show Rc X d 85 4 [some (.ref (t0)), some (.int (x1)), some (.int (x2))] [] M v M'
  unfold B_85_4 at h
  dsimp only at h hP hE
  refine Rc.run tb_85 2 (pc' := 7) (ls' := [some (.ref (t0)), some (.int (x1)), some (.int (x2))]) (st' := [.int (12), .int (x2)]) rfl rfl ?_
  refine Rc.icmp_ge (pc1 := 29) tb_85 rfl rfl (by decide) (by decide) (fun hb3 => ?_) (fun hb3 => ?_)
  · rw [if_pos hb3] at h
    refine Rc.mask (b := 2) ((tb_85.2 29).trans rfl) (ls' := [none, some (.int (x1)), none]) rfl ?_
    obtain rfl := Option.some.inj h
    exact hE _ rfl
  · rw [if_neg hb3] at h
    refine Rc.run tb_85 1 (pc' := 11) (ls' := [some (.ref (t0)), some (.int (x1)), some (.int (x2))]) (st' := [.ref (t0)]) rfl rfl ?_
    refine Rc.getR tb_85 rfl rfl (VilH.ob ht0) (by decide +kernel) (VilH.f0 ht0) (by have := VilH.lt ht0; omega) ?_
    refine Rc.run tb_85 1 (pc' := 15) (ls' := [some (.ref (t0)), some (.int (x1)), some (.int (x2))]) (st' := [.int (x2), .ref ((t0 + 1))]) rfl rfl ?_
    by_cases hb2 : inb x2 12 = true
    · rw [if_pos hb2] at h
      refine Rc.iald tb_85 rfl rfl (VilH.row1 ht0) hb2 ?_
      refine Rc.run tb_85 1 (pc' := 17) (ls' := [some (.ref (t0)), some (.int (x1)), some (.int (x2))]) (st' := [.int (3), .int (M (t0 + 1) x2.toNatClampNeg)]) rfl rfl ?_
      refine Rc.icmp_ne (pc1 := 23) tb_85 rfl rfl (by decide) (by decide) (fun hb1 => ?_) (fun hb1 => ?_)
      · rw [if_pos hb1] at h
        refine Rc.run tb_85 1 (pc' := 23) (ls' := [some (.ref (t0)), some (.int (x1 + 1)), some (.int (x2))]) (st' := []) rfl rfl ?_
        refine Rc.mask (b := 7) ((tb_85.2 23).trans rfl) (ls' := [some (.ref (t0)), some (.int (x1 + 1)), some (.int (x2))]) rfl ?_
        exact TJ_85_23_4 (X := X) (d := d) (by omega) ht0 h hP hE
      · rw [if_neg hb1] at h
        refine Rc.mask (b := 7) ((tb_85.2 23).trans rfl) (ls' := [some (.ref (t0)), some (.int (x1)), some (.int (x2))]) rfl ?_
        exact TJ_85_23_4 (X := X) (d := d) (by omega) ht0 h hP hE
    · rw [if_neg hb2] at h
      cases h
theorem TL_85_4 {X : AX} {d : Nat} (hd : 0 ≤ d) {t0 : Nat} {M : IM} {x1 : Int32} {x2 : Int32} (ht0 : VilH t0) {v : Option Value} {M' : IM} {r : Int32 × Int32} (h : L_85_4 t0 M x1 x2 = some r) (hE : (fun (x1, x2) => Rc X d 85 29 [none, some (.int (x1)), none] [] M v M') r) : Rc X d 85 4 [some (.ref (t0)), some (.int (x1)), some (.int (x2))] [] M v M' := by
  exact loopN_rc (P := fun (x1, x2) => Rc X d 85 4 [some (.ref (t0)), some (.int (x1)), some (.int (x2))] [] M v M') (E := fun (x1, x2) => Rc X d 85 29 [none, some (.int (x1)), none] [] M v M') (TB_85_4 (X := X) hd ht0) FU _ r h hE
theorem TF_85 {X : AX} {d : Nat} (hd : 0 ≤ d) {t0 : Nat} {M : IM} (ht0 : VilH t0) {v : Option Value} {M' : IM} {o : Int32} (h : F_85 t0 M = some o) (hC : v = some (.int o) ∧ M' = M) : Rc X d 85 0 [some (.ref (t0)), none, none] [] M v M' := by
  unfold F_85 at h
  refine Rc.run tb_85 4 (pc' := 4) (ls' := [some (.ref (t0)), some (.int (0)), some (.int (0))]) (st' := []) rfl rfl ?_
  refine Rc.mask (b := 7) ((tb_85.2 4).trans rfl) (ls' := [some (.ref (t0)), some (.int (0)), some (.int (0))]) rfl ?_
  cases hl4 : L_85_4 t0 M 0 0 with
  | none => rw [hl4] at h; cases h
  | some r4 =>
    obtain ⟨x1_4, x2_4⟩ := r4
    rw [hl4] at h
    dsimp only at h
    refine TL_85_4 (X := X) (d := d) (by omega) ht0 hl4 ?_
    refine Rc.run tb_85 1 (pc' := 30) (ls' := [none, some (.int (x1_4)), none]) (st' := [.int (x1_4)]) rfl rfl ?_
    obtain rfl := Option.some.inj h
    obtain ⟨rfl, rfl⟩ := hC
    exact Rc.iret (ins := .ireturn) tb_85 rfl mR_85
theorem T_85 {X : AX} {d : Nat} (hd : 0 ≤ d) {t0 : Nat} {M : IM} (ht0 : VilH t0) {x : Int32} (h : F_85 t0 M = some x) : Rc X d 85 0 [some (.ref (t0)), none, none] [] M (some (.int x)) M := TF_85 hd ht0 h ⟨rfl, rfl⟩
/-! 86: NineDemands$Village.fitsBy -/
def J_86_34_2 (t0 : Nat) (x1 : Int32) (t2 : Nat) (x3 : Int32) (M : IM) : Option ((Int32) ⊕ ((Int32) ⊕ (Int32))) := some (Sum.inl (x3 + 1))
def B_86_2 (t0 : Nat) (x1 : Int32) (t2 : Nat) (M : IM) : (Int32) → Option ((Int32) ⊕ ((Int32) ⊕ (Int32))) := fun x3 => if M t0 2 ≤ x3 then (some (Sum.inr (Sum.inl x3))) else (if F_83 t0 x1 x3 M = 0 then (J_86_34_2 t0 x1 t2 x3 M) else (if inb x3 8 = true then (match F_20 (t0 + 5 + 2 * x3.toNatClampNeg) t2 M with | none => none | some c3 => (if c3 < 0 then (J_86_34_2 t0 x1 t2 x3 M) else (some (Sum.inr (Sum.inr 0))))) else none))
def L_86_2 (t0 : Nat) (x1 : Int32) (t2 : Nat) (M : IM) (x3 : Int32) : Option ((Int32) ⊕ (Int32)) := loopN (B_86_2 t0 x1 t2 M) FU x3
def F_86 (t0 : Nat) (a1 : Int32) (r2 : Nat) (M : IM) : Option (Int32) := (match L_86_2 t0 a1 r2 M 0 with | none => none | some (.inl x3_7) => (some (1)) | some (.inr q) => some (q))
theorem TJ_86_34_2 {X : AX} {d : Nat} (hd : 4 ≤ d) {t0 : Nat} {x1 : Int32} {t2 : Nat} {x3 : Int32} {M : IM} (ht0 : VilH t0) (ht2 : IA t2) {v : Option Value} {M' : IM} {o : (Int32) ⊕ ((Int32) ⊕ (Int32))} (h : J_86_34_2 t0 x1 t2 x3 M = some o) (hP : ∀ s', o = .inl s' → (fun x3 => Rc X d 86 2 [some (.ref (t0)), some (.int (x1)), some (.ref (t2)), some (.int (x3))] [] M v M') s') (hE : ∀ r, o = .inr r → (fun r => match r with | .inl x3 => Rc X d 86 40 [none, none, none, none] [] M v M' | .inr q => v = some (.int q) ∧ M' = M) r) : Rc X d 86 34 [some (.ref (t0)), some (.int (x1)), some (.ref (t2)), some (.int (x3))] [] M v M' := by
  obtain ⟨d, rfl⟩ : ∃ e, d = e + 1 := ⟨d - 1, by omega⟩
  unfold J_86_34_2 at h
  dsimp only at hP hE
  refine Rc.run tb_86 2 (pc' := 2) (ls' := [some (.ref (t0)), some (.int (x1)), some (.ref (t2)), some (.int (x3 + 1))]) (st' := []) rfl rfl ?_
  refine Rc.mask (b := 15) ((tb_86.2 2).trans rfl) (ls' := [some (.ref (t0)), some (.int (x1)), some (.ref (t2)), some (.int (x3 + 1))]) rfl ?_
  obtain rfl := Option.some.inj h
  exact hP _ rfl
theorem TB_86_2 {X : AX} {d : Nat} (hd : 4 ≤ d) {t0 : Nat} {x1 : Int32} {t2 : Nat} {M : IM} (ht0 : VilH t0) (ht2 : IA t2) {v : Option Value} {M' : IM} : ∀ (s : Int32) (o : (Int32) ⊕ ((Int32) ⊕ (Int32))), B_86_2 t0 x1 t2 M s = some o → (∀ s', o = .inl s' → (fun x3 => Rc X d 86 2 [some (.ref (t0)), some (.int (x1)), some (.ref (t2)), some (.int (x3))] [] M v M') s') → (∀ r, o = .inr r → (fun r => match r with | .inl x3 => Rc X d 86 40 [none, none, none, none] [] M v M' | .inr q => v = some (.int q) ∧ M' = M) r) → (fun x3 => Rc X d 86 2 [some (.ref (t0)), some (.int (x1)), some (.ref (t2)), some (.int (x3))] [] M v M') s := by
  intro x3 o h hP hE
  show Rc X d 86 2 [some (.ref (t0)), some (.int (x1)), some (.ref (t2)), some (.int (x3))] [] M v M'
  obtain ⟨d, rfl⟩ : ∃ e, d = e + 1 := ⟨d - 1, by omega⟩
  unfold B_86_2 at h
  dsimp only at h hP hE
  refine Rc.run tb_86 2 (pc' := 4) (ls' := [some (.ref (t0)), some (.int (x1)), some (.ref (t2)), some (.int (x3))]) (st' := [.ref (t0), .int (x3)]) rfl rfl ?_
  refine Rc.getI tb_86 rfl rfl (VilH.ob ht0) (by decide +kernel) (VilH.f2 ht0) ?_
  refine Rc.icmp_ge (pc1 := 40) tb_86 rfl rfl (by decide) (by decide) (fun hb6 => ?_) (fun hb6 => ?_)
  · rw [if_pos hb6] at h
    refine Rc.mask (b := 0) ((tb_86.2 40).trans rfl) (ls' := [none, none, none, none]) rfl ?_
    obtain rfl := Option.some.inj h
    exact hE _ rfl
  · rw [if_neg hb6] at h
    refine Rc.run tb_86 3 (pc' := 13) (ls' := [some (.ref (t0)), some (.int (x1)), some (.ref (t2)), some (.int (x3))]) (st' := [.int (x3), .int (x1), .ref (t0)]) rfl rfl ?_
    have hq1 := T_83 (X := X) (d := d) (by omega) ht0 x1 x3 M
    have hz1 := Rc.bool mR_83 hq1
    refine Rc.callV tb_86 rfl rfl rfl mS_83 mP_83 mL_83 mO_83 rfl rfl (VilH.ob ht0) rfl rfl hq1 ?_
    refine Rc.if_eq (pc1 := 34) tb_86 rfl rfl (by decide) (by decide) (fun hb5 => ?_) (fun hb5 => ?_)
    · rw [if_pos hb5] at h
      refine Rc.mask (b := 15) ((tb_86.2 34).trans rfl) (ls' := [some (.ref (t0)), some (.int (x1)), some (.ref (t2)), some (.int (x3))]) rfl ?_
      exact TJ_86_34_2 (X := X) (d := d + 1) (by omega) ht0 ((IA.n ht2)).1 h hP hE
    · rw [if_neg hb5] at h
      refine Rc.run tb_86 1 (pc' := 20) (ls' := [some (.ref (t0)), some (.int (x1)), some (.ref (t2)), some (.int (x3))]) (st' := [.ref (t0)]) rfl rfl ?_
      refine Rc.getR tb_86 rfl rfl (VilH.ob ht0) (by decide +kernel) (VilH.f1 ht0) (by have := VilH.lt ht0; omega) ?_
      refine Rc.run tb_86 1 (pc' := 24) (ls' := [some (.ref (t0)), some (.int (x1)), some (.ref (t2)), some (.int (x3))]) (st' := [.int (x3), .ref ((t0 + 2))]) rfl rfl ?_
      by_cases hb2 : inb x3 8 = true
      · rw [if_pos hb2] at h
        refine Rc.aald tb_86 rfl rfl (VilH.lt98 ht0) (Or.inl (VilH.kd2 ht0)) (by rw [VilH.ln2 ht0]; exact hb2) (VilH.tg2 ht0 hb2) (LawH.lt0 (VilH.el ht0 hb2)) ?_
        refine Rc.run tb_86 1 (pc' := 26) (ls' := [some (.ref (t0)), some (.int (x1)), some (.ref (t2)), some (.int (x3))]) (st' := [.ref (t2), .ref ((t0 + 5 + 2 * x3.toNatClampNeg))]) rfl rfl ?_
        cases hc3 : F_20 (t0 + 5 + 2 * x3.toNatClampNeg) t2 M with
        | none => rw [hc3] at h; cases h
        | some c3 =>
          rw [hc3] at h
          dsimp only at h
          have hq3 := T_20 (X := X) (d := d) (by omega) (M := M) (VilH.el ht0 hb2) ((IA.n ht2)).1 hc3
          refine Rc.callV tb_86 rfl rfl rfl mS_20 mP_20 mL_20 mO_20 rfl rfl (LawH.ob (VilH.el ht0 hb2)) rfl rfl hq3 ?_
          refine Rc.if_lt (pc1 := 34) tb_86 rfl rfl (by decide) (by decide) (fun hb4 => ?_) (fun hb4 => ?_)
          · rw [if_pos hb4] at h
            refine Rc.mask (b := 15) ((tb_86.2 34).trans rfl) (ls' := [some (.ref (t0)), some (.int (x1)), some (.ref (t2)), some (.int (x3))]) rfl ?_
            exact TJ_86_34_2 (X := X) (d := d + 1) (by omega) ht0 ((IA.n ht2)).1 h hP hE
          · rw [if_neg hb4] at h
            refine Rc.run tb_86 1 (pc' := 33) (ls' := [some (.ref (t0)), some (.int (x1)), some (.ref (t2)), some (.int (x3))]) (st' := [.int (0)]) rfl rfl ?_
            obtain rfl := Option.some.inj h
            obtain ⟨rfl, rfl⟩ := hE _ rfl
            exact Rc.zret tb_86 rfl mR_86 (Or.inl rfl)
      · rw [if_neg hb2] at h
        cases h
theorem TL_86_2 {X : AX} {d : Nat} (hd : 4 ≤ d) {t0 : Nat} {x1 : Int32} {t2 : Nat} {M : IM} {x3 : Int32} (ht0 : VilH t0) (ht2 : IA t2) {v : Option Value} {M' : IM} {r : (Int32) ⊕ (Int32)} (h : L_86_2 t0 x1 t2 M x3 = some r) (hE : (fun r => match r with | .inl x3 => Rc X d 86 40 [none, none, none, none] [] M v M' | .inr q => v = some (.int q) ∧ M' = M) r) : Rc X d 86 2 [some (.ref (t0)), some (.int (x1)), some (.ref (t2)), some (.int (x3))] [] M v M' := by
  exact loopN_rc (P := fun x3 => Rc X d 86 2 [some (.ref (t0)), some (.int (x1)), some (.ref (t2)), some (.int (x3))] [] M v M') (E := fun r => match r with | .inl x3 => Rc X d 86 40 [none, none, none, none] [] M v M' | .inr q => v = some (.int q) ∧ M' = M) (TB_86_2 (X := X) hd ht0 ht2) FU _ r h hE
theorem TF_86 {X : AX} {d : Nat} (hd : 4 ≤ d) {t0 : Nat} {a1 : Int32} {r2 : Nat} {M : IM} (ht0 : VilH t0) (hr2 : IA r2) {v : Option Value} {M' : IM} {o : Int32} (h : F_86 t0 a1 r2 M = some o) (hC : v = some (.int o) ∧ M' = M) : Rc X d 86 0 [some (.ref (t0)), some (.int (a1)), some (.ref (r2)), none] [] M v M' := by
  obtain ⟨d, rfl⟩ : ∃ e, d = e + 1 := ⟨d - 1, by omega⟩
  unfold F_86 at h
  refine Rc.run tb_86 2 (pc' := 2) (ls' := [some (.ref (t0)), some (.int (a1)), some (.ref (r2)), some (.int (0))]) (st' := []) rfl rfl ?_
  refine Rc.mask (b := 15) ((tb_86.2 2).trans rfl) (ls' := [some (.ref (t0)), some (.int (a1)), some (.ref (r2)), some (.int (0))]) rfl ?_
  cases hl7 : L_86_2 t0 a1 r2 M 0 with
  | none => rw [hl7] at h; cases h
  | some rr7 =>
    rw [hl7] at h
    cases rr7 with
    | inl x3_7 =>
      dsimp only at h
      refine TL_86_2 (X := X) (d := d + 1) (by omega) ht0 ((IA.n hr2)).1 hl7 ?_
      refine Rc.run tb_86 1 (pc' := 41) (ls' := [none, none, none, none]) (st' := [.int (1)]) rfl rfl ?_
      obtain rfl := Option.some.inj h
      obtain ⟨rfl, rfl⟩ := hC
      exact Rc.zret tb_86 rfl mR_86 (Or.inr rfl)
    | inr q =>
      dsimp only at h
      refine TL_86_2 (X := X) (d := d + 1) (by omega) ht0 ((IA.n hr2)).1 hl7 ?_
      obtain rfl := Option.some.inj h
      obtain ⟨rfl, rfl⟩ := hC
      exact ⟨rfl, rfl⟩
theorem T_86 {X : AX} {d : Nat} (hd : 4 ≤ d) {t0 : Nat} {a1 : Int32} {r2 : Nat} {M : IM} (ht0 : VilH t0) (hr2 : IA r2) {x : Int32} (h : F_86 t0 a1 r2 M = some x) : Rc X d 86 0 [some (.ref (t0)), some (.int (a1)), some (.ref (r2)), none] [] M (some (.int x)) M := TF_86 hd ht0 hr2 h ⟨rfl, rfl⟩
/-! 90: NineDemands$Voices.withBody -/
def B_90_4 (x1 : Int32) : (Int32 × Int32) → Option ((Int32 × Int32) ⊕ (Int32 × Int32)) := fun (x2, x3) => if (6 : Int32) ≤ x3 then (some (Sum.inr (x2, x3))) else (if inb ((4 * x2) + x1) 24 = true then (if sT 6 ((4 * x2) + x1).toNatClampNeg = 0 then (if inb x2 6 = true then (some (Sum.inl (sT 4 x2.toNatClampNeg, x3 + 1))) else none) else (some (Sum.inr (x2, x3)))) else none)
def L_90_4 (x1 : Int32) (x2 : Int32) (x3 : Int32) : Option (Int32 × Int32) := loopN (B_90_4 x1) FU (x2, x3)
def F_90 (a1 : Int32) (a2 : Int32) : Option (Int32) := (match L_90_4 a2 a1 0 with | none => none | some (x2_5, x3_5) => (some (x2_5)))
theorem TB_90_4 {X : AX} {d : Nat} (hd : 0 ≤ d) {x1 : Int32} {M : IM} {v : Option Value} {M' : IM} : ∀ (s : Int32 × Int32) (o : (Int32 × Int32) ⊕ (Int32 × Int32)), B_90_4 x1 s = some o → (∀ s', o = .inl s' → (fun (x2, x3) => Rc X d 90 4 [none, some (.int (x1)), some (.int (x2)), some (.int (x3))] [] M v M') s') → (∀ r, o = .inr r → (fun (x2, x3) => Rc X d 90 34 [none, none, some (.int (x2)), none] [] M v M') r) → (fun (x2, x3) => Rc X d 90 4 [none, some (.int (x1)), some (.int (x2)), some (.int (x3))] [] M v M') s := by
  rintro ⟨x2, x3⟩ o h hP hE
  show Rc X d 90 4 [none, some (.int (x1)), some (.int (x2)), some (.int (x3))] [] M v M'
  unfold B_90_4 at h
  dsimp only at h hP hE
  refine Rc.run tb_90 2 (pc' := 7) (ls' := [none, some (.int (x1)), some (.int (x2)), some (.int (x3))]) (st' := [.int (6), .int (x3)]) rfl rfl ?_
  refine Rc.icmp_ge (pc1 := 34) tb_90 rfl rfl (by decide) (by decide) (fun hb4 => ?_) (fun hb4 => ?_)
  · rw [if_pos hb4] at h
    refine Rc.mask (b := 4) ((tb_90.2 34).trans rfl) (ls' := [none, none, some (.int (x2)), none]) rfl ?_
    obtain rfl := Option.some.inj h
    exact hE _ rfl
  · rw [if_neg hb4] at h
    refine Rc.run tb_90 6 (pc' := 18) (ls' := [none, some (.int (x1)), some (.int (x2)), some (.int (x3))]) (st' := [.int ((4 * x2) + x1), .ref (1006)]) rfl rfl ?_
    by_cases hb3 : inb ((4 * x2) + x1) 24 = true
    · rw [if_pos hb3] at h
      refine Rc.sald tb_90 rfl rfl (q := 6) (by decide) hb3 ?_
      refine Rc.if_ne (pc1 := 34) tb_90 rfl rfl (by decide) (by decide) (fun hb2 => ?_) (fun hb2 => ?_)
      · rw [if_pos hb2] at h
        refine Rc.run tb_90 2 (pc' := 26) (ls' := [none, some (.int (x1)), some (.int (x2)), some (.int (x3))]) (st' := [.int (x2), .ref (1004)]) rfl rfl ?_
        by_cases hb1 : inb x2 6 = true
        · rw [if_pos hb1] at h
          refine Rc.sald tb_90 rfl rfl (q := 4) (by decide) hb1 ?_
          refine Rc.run tb_90 3 (pc' := 4) (ls' := [none, some (.int (x1)), some (.int (sT 4 x2.toNatClampNeg)), some (.int (x3 + 1))]) (st' := []) rfl rfl ?_
          refine Rc.mask (b := 14) ((tb_90.2 4).trans rfl) (ls' := [none, some (.int (x1)), some (.int (sT 4 x2.toNatClampNeg)), some (.int (x3 + 1))]) rfl ?_
          obtain rfl := Option.some.inj h
          exact hP _ rfl
        · rw [if_neg hb1] at h
          cases h
      · rw [if_neg hb2] at h
        refine Rc.mask (b := 4) ((tb_90.2 34).trans rfl) (ls' := [none, none, some (.int (x2)), none]) rfl ?_
        obtain rfl := Option.some.inj h
        exact hE _ rfl
    · rw [if_neg hb3] at h
      cases h
theorem TL_90_4 {X : AX} {d : Nat} (hd : 0 ≤ d) {x1 : Int32} {M : IM} {x2 : Int32} {x3 : Int32} {v : Option Value} {M' : IM} {r : Int32 × Int32} (h : L_90_4 x1 x2 x3 = some r) (hE : (fun (x2, x3) => Rc X d 90 34 [none, none, some (.int (x2)), none] [] M v M') r) : Rc X d 90 4 [none, some (.int (x1)), some (.int (x2)), some (.int (x3))] [] M v M' := by
  exact loopN_rc (P := fun (x2, x3) => Rc X d 90 4 [none, some (.int (x1)), some (.int (x2)), some (.int (x3))] [] M v M') (E := fun (x2, x3) => Rc X d 90 34 [none, none, some (.int (x2)), none] [] M v M') (TB_90_4 (X := X) hd) FU _ r h hE
theorem TF_90 {X : AX} {d : Nat} (hd : 0 ≤ d) {a1 : Int32} {a2 : Int32} {M : IM} {v : Option Value} {M' : IM} {o : Int32} (h : F_90 a1 a2 = some o) (hC : v = some (.int o) ∧ M' = M) : Rc X d 90 0 [some (.int (a1)), some (.int (a2)), none, none] [] M v M' := by
  unfold F_90 at h
  refine Rc.run tb_90 4 (pc' := 4) (ls' := [some (.int (a1)), some (.int (a2)), some (.int (a1)), some (.int (0))]) (st' := []) rfl rfl ?_
  refine Rc.mask (b := 14) ((tb_90.2 4).trans rfl) (ls' := [none, some (.int (a2)), some (.int (a1)), some (.int (0))]) rfl ?_
  cases hl5 : L_90_4 a2 a1 0 with
  | none => rw [hl5] at h; cases h
  | some r5 =>
    obtain ⟨x2_5, x3_5⟩ := r5
    rw [hl5] at h
    dsimp only at h
    refine TL_90_4 (X := X) (d := d) (by omega) hl5 ?_
    refine Rc.run tb_90 1 (pc' := 35) (ls' := [none, none, some (.int (x2_5)), none]) (st' := [.int (x2_5)]) rfl rfl ?_
    obtain rfl := Option.some.inj h
    obtain ⟨rfl, rfl⟩ := hC
    exact Rc.iret (ins := .ireturn) tb_90 rfl mR_90
theorem T_90 {X : AX} {d : Nat} (hd : 0 ≤ d) {a1 : Int32} {a2 : Int32} {M : IM} {x : Int32} (h : F_90 a1 a2 = some x) : Rc X d 90 0 [some (.int (a1)), some (.int (a2)), none, none] [] M (some (.int x)) M := TF_90 hd h ⟨rfl, rfl⟩
/-! 91: NineDemands$Voices.note -/
def F_91 (a1 : Int32) (M : IM) : Option (IM) := if (40 : Int32) ≤ M 65 1 then (some (M)) else (if inb (M 65 1) 40 = true then (some (iset (iset M 66 (M 65 1).toNatClampNeg a1) 65 1 (((iset M 66 (M 65 1).toNatClampNeg a1) 65 1) + 1))) else none)
theorem TF_91 {X : AX} {d : Nat} (hd : 0 ≤ d) {a1 : Int32} {M : IM} {v : Option Value} {M' : IM} {o : IM} (h : F_91 a1 M = some o) (hC : v = none ∧ M' = o) : Rc X d 91 0 [some (.ref (65)), some (.int (a1))] [] M v M' := by
  unfold F_91 at h
  refine Rc.run tb_91 1 (pc' := 1) (ls' := [some (.ref (65)), some (.int (a1))]) (st' := [.ref (65)]) rfl rfl ?_
  refine Rc.getI tb_91 rfl rfl ob_65 (by decide +kernel) tg_65_1 ?_
  refine Rc.run tb_91 1 (pc' := 6) (ls' := [some (.ref (65)), some (.int (a1))]) (st' := [.int (40), .int (M 65 1)]) rfl rfl ?_
  refine Rc.icmp_ge (pc1 := 29) tb_91 rfl rfl (by decide) (by decide) (fun hb2 => ?_) (fun hb2 => ?_)
  · rw [if_pos hb2] at h
    obtain rfl := Option.some.inj h
    obtain ⟨rfl, rfl⟩ := hC
    exact Rc.vret tb_91 rfl mR_91
  · rw [if_neg hb2] at h
    refine Rc.run tb_91 1 (pc' := 10) (ls' := [some (.ref (65)), some (.int (a1))]) (st' := [.ref (65)]) rfl rfl ?_
    refine Rc.getR tb_91 rfl rfl ob_65 (by decide +kernel) tg_65_0 (by decide) ?_
    refine Rc.run tb_91 1 (pc' := 14) (ls' := [some (.ref (65)), some (.int (a1))]) (st' := [.ref (65), .ref (66)]) rfl rfl ?_
    refine Rc.getI tb_91 rfl rfl ob_65 (by decide +kernel) tg_65_1 ?_
    refine Rc.run tb_91 1 (pc' := 18) (ls' := [some (.ref (65)), some (.int (a1))]) (st' := [.int (a1), .int (M 65 1), .ref (66)]) rfl rfl ?_
    by_cases hb1 : inb (M 65 1) 40 = true
    · rw [if_pos hb1] at h
      refine Rc.iast tb_91 rfl rfl ia_66 hb1 ?_
      refine Rc.run tb_91 2 (pc' := 21) (ls' := [some (.ref (65)), some (.int (a1))]) (st' := [.ref (65), .ref (65)]) rfl rfl ?_
      refine Rc.getI tb_91 rfl rfl ob_65 (by decide +kernel) tg_65_1 ?_
      refine Rc.run tb_91 2 (pc' := 26) (ls' := [some (.ref (65)), some (.int (a1))]) (st' := [.int (((iset M 66 (M 65 1).toNatClampNeg a1) 65 1) + 1), .ref (65)]) rfl rfl ?_
      refine Rc.putI tb_91 rfl rfl ob_65 (by decide +kernel) tg_65_1 rfl ?_
      obtain rfl := Option.some.inj h
      obtain ⟨rfl, rfl⟩ := hC
      exact Rc.vret tb_91 rfl mR_91
    · rw [if_neg hb1] at h
      cases h
theorem T_91 {X : AX} {d : Nat} (hd : 0 ≤ d) {a1 : Int32} {M : IM} {M1 : IM} (h : F_91 a1 M = some M1) : Rc X d 91 0 [some (.ref (65)), some (.int (a1))] [] M none M1 := TF_91 hd h ⟨rfl, rfl⟩
/-! 132: NineDemands.refuse -/
def F_132 (a1 : Int32) (M : IM) : Option (Int32 × IM) := if inb a1 6 = true then (if inb a1 6 = true then (some (((-1000000) - a1, iset M 43 a1.toNatClampNeg ((M 43 a1.toNatClampNeg) + 1)))) else none) else none
theorem TF_132 {X : AX} {d : Nat} (hd : 0 ≤ d) {a1 : Int32} {M : IM} {v : Option Value} {M' : IM} {o : Int32 × IM} (h : F_132 a1 M = some o) (hC : v = some (.int o.1) ∧ M' = o.2) : Rc X d 132 0 [some (.ref (0)), some (.int (a1))] [] M v M' := by
  unfold F_132 at h
  refine Rc.run tb_132 1 (pc' := 1) (ls' := [some (.ref (0)), some (.int (a1))]) (st' := [.ref (0)]) rfl rfl ?_
  refine Rc.getR tb_132 rfl rfl ob_0 (by decide +kernel) tg_0_3 (by decide) ?_
  refine Rc.run tb_132 2 (pc' := 6) (ls' := [some (.ref (0)), some (.int (a1))]) (st' := [.int (a1), .ref (43), .int (a1), .ref (43)]) rfl rfl ?_
  by_cases hb2 : inb a1 6 = true
  · rw [if_pos hb2] at h
    refine Rc.iald tb_132 rfl rfl ia_43 hb2 ?_
    refine Rc.run tb_132 2 (pc' := 9) (ls' := [some (.ref (0)), some (.int (a1))]) (st' := [.int ((M 43 a1.toNatClampNeg) + 1), .int (a1), .ref (43)]) rfl rfl ?_
    by_cases hb1 : inb a1 6 = true
    · rw [if_pos hb1] at h
      refine Rc.iast tb_132 rfl rfl ia_43 hb1 ?_
      refine Rc.run tb_132 3 (pc' := 15) (ls' := [some (.ref (0)), some (.int (a1))]) (st' := [.int ((-1000000) - a1)]) rfl rfl ?_
      obtain rfl := Option.some.inj h
      obtain ⟨rfl, rfl⟩ := hC
      exact Rc.iret (ins := .ireturn) tb_132 rfl mR_132
    · rw [if_neg hb1] at h
      cases h
  · rw [if_neg hb2] at h
    cases h
theorem T_132 {X : AX} {d : Nat} (hd : 0 ≤ d) {a1 : Int32} {M : IM} {x : Int32} {M1 : IM} (h : F_132 a1 M = some (x, M1)) : Rc X d 132 0 [some (.ref (0)), some (.int (a1))] [] M (some (.int x)) M1 := TF_132 hd h ⟨rfl, rfl⟩
/-! 93: NineDemands.hall -/
def F_93 (a1 : Int32) (a2 : Int32) (M : IM) : Option (Int32 × IM) := if F_5 a1 = 0 then (match F_132 (1 : Int32) M with | none => none | some (c2, M2) => (some ((c2, M2)))) else (if a2 = 0 then (some ((F_6 a1, M))) else (if a2 = 1 then (some ((F_10 a1, M))) else (if a2 = 2 then (some ((F_9 a1, M))) else (if a2 = 10 then (some ((F_8 a1 (a2 - 10), M))) else (if a2 = 11 then (some ((F_8 a1 (a2 - 10), M))) else (if a2 = 12 then (some ((F_8 a1 (a2 - 10), M))) else (match F_132 (1 : Int32) M with | none => none | some (c3, M3) => (some ((c3, M3))))))))))
theorem TF_93 {X : AX} {d : Nat} (hd : 3 ≤ d) {a1 : Int32} {a2 : Int32} {M : IM} {v : Option Value} {M' : IM} {o : Int32 × IM} (h : F_93 a1 a2 M = some o) (hC : v = some (.int o.1) ∧ M' = o.2) : Rc X d 93 0 [some (.ref (0)), some (.int (a1)), some (.int (a2))] [] M v M' := by
  obtain ⟨d, rfl⟩ : ∃ e, d = e + 1 := ⟨d - 1, by omega⟩
  unfold F_93 at h
  refine Rc.run tb_93 1 (pc' := 1) (ls' := [some (.ref (0)), some (.int (a1)), some (.int (a2))]) (st' := [.int (a1)]) rfl rfl ?_
  have hq1 := T_5 (X := X) (d := d) (by omega) a1 M
  have hz1 := Rc.bool mR_5 hq1
  refine Rc.callS tb_93 rfl rfl rfl mS_5 mP_5 mL_5 rfl rfl rfl hq1 ?_
  refine Rc.if_ne (pc1 := 13) tb_93 rfl rfl (by decide) (by decide) (fun hb16 => ?_) (fun hb16 => ?_)
  · rw [if_pos hb16] at h
    refine Rc.run tb_93 2 (pc' := 9) (ls' := [some (.ref (0)), some (.int (a1)), some (.int (a2))]) (st' := [.int (1), .ref (0)]) rfl rfl ?_
    cases hc2 : F_132 (1 : Int32) M with
    | none => rw [hc2] at h; cases h
    | some r2 =>
      obtain ⟨c2, M2⟩ := r2
      rw [hc2] at h
      dsimp only at h
      have hq2 := T_132 (X := X) (d := d) (by omega) (M := M) hc2
      refine Rc.callV tb_93 rfl rfl rfl mS_132 mP_132 mL_132 mO_132 rfl rfl ob_0 rfl rfl hq2 ?_
      obtain rfl := Option.some.inj h
      obtain ⟨rfl, rfl⟩ := hC
      exact Rc.iret (ins := .ireturn) tb_93 rfl mR_93
  · rw [if_neg hb16] at h
    refine Rc.run tb_93 1 (pc' := 14) (ls' := [some (.ref (0)), some (.int (a1)), some (.int (a2))]) (st' := [.int (a2)]) rfl rfl ?_
    by_cases hk4 : a2 = 0
    · rw [if_pos hk4] at h
      refine Rc.table (off := 66) (pc1 := 80) tb_93 rfl rfl (by decide) (tsw_at (k := 0) (by rw [hk4]; decide) (by decide +kernel)) (by decide) (by decide) ?_
      refine Rc.run tb_93 1 (pc' := 81) (ls' := [some (.ref (0)), some (.int (a1)), some (.int (a2))]) (st' := [.int (a1)]) rfl rfl ?_
      have hq15 := T_6 (X := X) (d := d) (by omega) a1 M
      refine Rc.callS tb_93 rfl rfl rfl mS_6 mP_6 mL_6 rfl rfl rfl hq15 ?_
      obtain rfl := Option.some.inj h
      obtain ⟨rfl, rfl⟩ := hC
      exact Rc.iret (ins := .ireturn) tb_93 rfl mR_93
    · rw [if_neg hk4] at h
      by_cases hk5 : a2 = 1
      · rw [if_pos hk5] at h
        refine Rc.table (off := 71) (pc1 := 85) tb_93 rfl rfl (by decide) (tsw_at (k := 1) (by rw [hk5]; decide) (by decide +kernel)) (by decide) (by decide) ?_
        refine Rc.run tb_93 1 (pc' := 86) (ls' := [some (.ref (0)), some (.int (a1)), some (.int (a2))]) (st' := [.int (a1)]) rfl rfl ?_
        have hq14 := T_10 (X := X) (d := d) (by omega) a1 M
        refine Rc.callS tb_93 rfl rfl rfl mS_10 mP_10 mL_10 rfl rfl rfl hq14 ?_
        obtain rfl := Option.some.inj h
        obtain ⟨rfl, rfl⟩ := hC
        exact Rc.iret (ins := .ireturn) tb_93 rfl mR_93
      · rw [if_neg hk5] at h
        by_cases hk6 : a2 = 2
        · rw [if_pos hk6] at h
          refine Rc.table (off := 76) (pc1 := 90) tb_93 rfl rfl (by decide) (tsw_at (k := 2) (by rw [hk6]; decide) (by decide +kernel)) (by decide) (by decide) ?_
          refine Rc.run tb_93 1 (pc' := 91) (ls' := [some (.ref (0)), some (.int (a1)), some (.int (a2))]) (st' := [.int (a1)]) rfl rfl ?_
          have hq13 := T_9 (X := X) (d := d) (by omega) a1 M
          refine Rc.callS tb_93 rfl rfl rfl mS_9 mP_9 mL_9 rfl rfl rfl hq13 ?_
          obtain rfl := Option.some.inj h
          obtain ⟨rfl, rfl⟩ := hC
          exact Rc.iret (ins := .ireturn) tb_93 rfl mR_93
        · rw [if_neg hk6] at h
          by_cases hk7 : a2 = 10
          · rw [if_pos hk7] at h
            refine Rc.table (off := 81) (pc1 := 95) tb_93 rfl rfl (by decide) (tsw_at (k := 10) (by rw [hk7]; decide) (by decide +kernel)) (by decide) (by decide) ?_
            refine Rc.run tb_93 4 (pc' := 100) (ls' := [some (.ref (0)), some (.int (a1)), some (.int (a2))]) (st' := [.int (a2 - 10), .int (a1)]) rfl rfl ?_
            have hq12 := T_8 (X := X) (d := d) (by omega) a1 (a2 - 10) M
            refine Rc.callS tb_93 rfl rfl rfl mS_8 mP_8 mL_8 rfl rfl rfl hq12 ?_
            obtain rfl := Option.some.inj h
            obtain ⟨rfl, rfl⟩ := hC
            exact Rc.iret (ins := .ireturn) tb_93 rfl mR_93
          · rw [if_neg hk7] at h
            by_cases hk8 : a2 = 11
            · rw [if_pos hk8] at h
              refine Rc.table (off := 81) (pc1 := 95) tb_93 rfl rfl (by decide) (tsw_at (k := 11) (by rw [hk8]; decide) (by decide +kernel)) (by decide) (by decide) ?_
              refine Rc.run tb_93 4 (pc' := 100) (ls' := [some (.ref (0)), some (.int (a1)), some (.int (a2))]) (st' := [.int (a2 - 10), .int (a1)]) rfl rfl ?_
              have hq11 := T_8 (X := X) (d := d) (by omega) a1 (a2 - 10) M
              refine Rc.callS tb_93 rfl rfl rfl mS_8 mP_8 mL_8 rfl rfl rfl hq11 ?_
              obtain rfl := Option.some.inj h
              obtain ⟨rfl, rfl⟩ := hC
              exact Rc.iret (ins := .ireturn) tb_93 rfl mR_93
            · rw [if_neg hk8] at h
              by_cases hk9 : a2 = 12
              · rw [if_pos hk9] at h
                refine Rc.table (off := 81) (pc1 := 95) tb_93 rfl rfl (by decide) (tsw_at (k := 12) (by rw [hk9]; decide) (by decide +kernel)) (by decide) (by decide) ?_
                refine Rc.run tb_93 4 (pc' := 100) (ls' := [some (.ref (0)), some (.int (a1)), some (.int (a2))]) (st' := [.int (a2 - 10), .int (a1)]) rfl rfl ?_
                have hq10 := T_8 (X := X) (d := d) (by omega) a1 (a2 - 10) M
                refine Rc.callS tb_93 rfl rfl rfl mS_8 mP_8 mL_8 rfl rfl rfl hq10 ?_
                obtain rfl := Option.some.inj h
                obtain ⟨rfl, rfl⟩ := hC
                exact Rc.iret (ins := .ireturn) tb_93 rfl mR_93
              · rw [if_neg hk9] at h
                refine Rc.table (off := 90) (pc1 := 104) tb_93 rfl rfl (by decide) (tsw_df [0, 1, 2, 10, 11, 12] (by decide +kernel) (fun k hk => by simp only [List.mem_cons, List.not_mem_nil, or_false] at hk; rcases hk with rfl | rfl | rfl | rfl | rfl | rfl <;> assumption)) (by decide) (by decide) ?_
                refine Rc.run tb_93 2 (pc' := 106) (ls' := [some (.ref (0)), some (.int (a1)), some (.int (a2))]) (st' := [.int (1), .ref (0)]) rfl rfl ?_
                cases hc3 : F_132 (1 : Int32) M with
                | none => rw [hc3] at h; cases h
                | some r3 =>
                  obtain ⟨c3, M3⟩ := r3
                  rw [hc3] at h
                  dsimp only at h
                  have hq3 := T_132 (X := X) (d := d) (by omega) (M := M) hc3
                  refine Rc.callV tb_93 rfl rfl rfl mS_132 mP_132 mL_132 mO_132 rfl rfl ob_0 rfl rfl hq3 ?_
                  obtain rfl := Option.some.inj h
                  obtain ⟨rfl, rfl⟩ := hC
                  exact Rc.iret (ins := .ireturn) tb_93 rfl mR_93
theorem T_93 {X : AX} {d : Nat} (hd : 3 ≤ d) {a1 : Int32} {a2 : Int32} {M : IM} {x : Int32} {M1 : IM} (h : F_93 a1 a2 M = some (x, M1)) : Rc X d 93 0 [some (.ref (0)), some (.int (a1)), some (.int (a2))] [] M (some (.int x)) M1 := TF_93 hd h ⟨rfl, rfl⟩
/-! 94: NineDemands.moved -/
def J_94_16 (M : IM) : Option (Int32 × IM) := (match F_132 (1 : Int32) M with | none => none | some (c2, M2) => (some ((c2, M2))))
def F_94 (a1 : Int32) (a2 : Int32) (M : IM) : Option (Int32 × IM) := if F_5 a1 = 0 then (J_94_16 M) else (if a2 < 0 then (J_94_16 M) else (if a2 < 3 then (if a2 < F_6 a1 then (some ((F_11 a1 a2, M))) else (match F_132 (2 : Int32) M with | none => none | some (c5, M5) => (some ((c5, M5))))) else (J_94_16 M)))
theorem TJ_94_16 {X : AX} {d : Nat} (hd : 2 ≤ d) {M : IM} {v : Option Value} {M' : IM} {o : Int32 × IM} (h : J_94_16 M = some o) (hC : v = some (.int o.1) ∧ M' = o.2) : Rc X d 94 16 [some (.ref (0)), none, none] [] M v M' := by
  obtain ⟨d, rfl⟩ : ∃ e, d = e + 1 := ⟨d - 1, by omega⟩
  unfold J_94_16 at h
  refine Rc.run tb_94 2 (pc' := 18) (ls' := [some (.ref (0)), none, none]) (st' := [.int (1), .ref (0)]) rfl rfl ?_
  cases hc2 : F_132 (1 : Int32) M with
  | none => rw [hc2] at h; cases h
  | some r2 =>
    obtain ⟨c2, M2⟩ := r2
    rw [hc2] at h
    dsimp only at h
    have hq2 := T_132 (X := X) (d := d) (by omega) (M := M) hc2
    refine Rc.callV tb_94 rfl rfl rfl mS_132 mP_132 mL_132 mO_132 rfl rfl ob_0 rfl rfl hq2 ?_
    obtain rfl := Option.some.inj h
    obtain ⟨rfl, rfl⟩ := hC
    exact Rc.iret (ins := .ireturn) tb_94 rfl mR_94
theorem TF_94 {X : AX} {d : Nat} (hd : 2 ≤ d) {a1 : Int32} {a2 : Int32} {M : IM} {v : Option Value} {M' : IM} {o : Int32 × IM} (h : F_94 a1 a2 M = some o) (hC : v = some (.int o.1) ∧ M' = o.2) : Rc X d 94 0 [some (.ref (0)), some (.int (a1)), some (.int (a2))] [] M v M' := by
  obtain ⟨d, rfl⟩ : ∃ e, d = e + 1 := ⟨d - 1, by omega⟩
  unfold F_94 at h
  refine Rc.run tb_94 1 (pc' := 1) (ls' := [some (.ref (0)), some (.int (a1)), some (.int (a2))]) (st' := [.int (a1)]) rfl rfl ?_
  have hq1 := T_5 (X := X) (d := d) (by omega) a1 M
  have hz1 := Rc.bool mR_5 hq1
  refine Rc.callS tb_94 rfl rfl rfl mS_5 mP_5 mL_5 rfl rfl rfl hq1 ?_
  refine Rc.if_eq (pc1 := 16) tb_94 rfl rfl (by decide) (by decide) (fun hb9 => ?_) (fun hb9 => ?_)
  · rw [if_pos hb9] at h
    refine Rc.mask (b := 1) ((tb_94.2 16).trans rfl) (ls' := [some (.ref (0)), none, none]) rfl ?_
    exact TJ_94_16 (X := X) (d := d + 1) (by omega) h hC
  · rw [if_neg hb9] at h
    refine Rc.run tb_94 1 (pc' := 8) (ls' := [some (.ref (0)), some (.int (a1)), some (.int (a2))]) (st' := [.int (a2)]) rfl rfl ?_
    refine Rc.if_lt (pc1 := 16) tb_94 rfl rfl (by decide) (by decide) (fun hb8 => ?_) (fun hb8 => ?_)
    · rw [if_pos hb8] at h
      refine Rc.mask (b := 1) ((tb_94.2 16).trans rfl) (ls' := [some (.ref (0)), none, none]) rfl ?_
      exact TJ_94_16 (X := X) (d := d + 1) (by omega) h hC
    · rw [if_neg hb8] at h
      refine Rc.run tb_94 2 (pc' := 13) (ls' := [some (.ref (0)), some (.int (a1)), some (.int (a2))]) (st' := [.int (3), .int (a2)]) rfl rfl ?_
      refine Rc.icmp_lt (pc1 := 22) tb_94 rfl rfl (by decide) (by decide) (fun hb7 => ?_) (fun hb7 => ?_)
      · rw [if_pos hb7] at h
        refine Rc.run tb_94 2 (pc' := 24) (ls' := [some (.ref (0)), some (.int (a1)), some (.int (a2))]) (st' := [.int (a1), .int (a2)]) rfl rfl ?_
        have hq3 := T_6 (X := X) (d := d) (by omega) a1 M
        refine Rc.callS tb_94 rfl rfl rfl mS_6 mP_6 mL_6 rfl rfl rfl hq3 ?_
        refine Rc.icmp_lt (pc1 := 36) tb_94 rfl rfl (by decide) (by decide) (fun hb6 => ?_) (fun hb6 => ?_)
        · rw [if_pos hb6] at h
          refine Rc.run tb_94 2 (pc' := 38) (ls' := [some (.ref (0)), some (.int (a1)), some (.int (a2))]) (st' := [.int (a2), .int (a1)]) rfl rfl ?_
          have hq4 := T_11 (X := X) (d := d) (by omega) a1 a2 M
          refine Rc.callS tb_94 rfl rfl rfl mS_11 mP_11 mL_11 rfl rfl rfl hq4 ?_
          obtain rfl := Option.some.inj h
          obtain ⟨rfl, rfl⟩ := hC
          exact Rc.iret (ins := .ireturn) tb_94 rfl mR_94
        · rw [if_neg hb6] at h
          refine Rc.run tb_94 2 (pc' := 32) (ls' := [some (.ref (0)), some (.int (a1)), some (.int (a2))]) (st' := [.int (2), .ref (0)]) rfl rfl ?_
          cases hc5 : F_132 (2 : Int32) M with
          | none => rw [hc5] at h; cases h
          | some r5 =>
            obtain ⟨c5, M5⟩ := r5
            rw [hc5] at h
            dsimp only at h
            have hq5 := T_132 (X := X) (d := d) (by omega) (M := M) hc5
            refine Rc.callV tb_94 rfl rfl rfl mS_132 mP_132 mL_132 mO_132 rfl rfl ob_0 rfl rfl hq5 ?_
            obtain rfl := Option.some.inj h
            obtain ⟨rfl, rfl⟩ := hC
            exact Rc.iret (ins := .ireturn) tb_94 rfl mR_94
      · rw [if_neg hb7] at h
        refine Rc.mask (b := 1) ((tb_94.2 16).trans rfl) (ls' := [some (.ref (0)), none, none]) rfl ?_
        exact TJ_94_16 (X := X) (d := d + 1) (by omega) h hC
theorem T_94 {X : AX} {d : Nat} (hd : 2 ≤ d) {a1 : Int32} {a2 : Int32} {M : IM} {x : Int32} {M1 : IM} (h : F_94 a1 a2 M = some (x, M1)) : Rc X d 94 0 [some (.ref (0)), some (.int (a1)), some (.int (a2))] [] M (some (.int x)) M1 := TF_94 hd h ⟨rfl, rfl⟩
/-! 139: NineDemands.isChoice -/
def F_139 (a1 : Int32) : Int32 := if a1 < 1 then 0 else (if (3 : Int32) < a1 then 0 else 1)
theorem TF_139 {X : AX} {d : Nat} (hd : 0 ≤ d) {a1 : Int32} {M : IM} {v : Option Value} {M' : IM} {o : Int32} (h : F_139 a1 = o) (hC : v = some (.int o) ∧ M' = M) : Rc X d 139 0 [some (.int (a1))] [] M v M' := by
  unfold F_139 at h
  refine Rc.run tb_139 2 (pc' := 2) (ls' := [some (.int (a1))]) (st' := [.int (1), .int (a1)]) rfl rfl ?_
  refine Rc.icmp_lt (pc1 := 14) tb_139 rfl rfl (by decide) (by decide) (fun hb2 => ?_) (fun hb2 => ?_)
  · rw [if_pos hb2] at h
    refine Rc.run tb_139 1 (pc' := 15) (ls' := [none]) (st' := [.int (0)]) rfl rfl ?_
    subst h
    obtain ⟨rfl, rfl⟩ := hC
    exact Rc.zret tb_139 rfl mR_139 (Or.inl rfl)
  · rw [if_neg hb2] at h
    refine Rc.run tb_139 2 (pc' := 7) (ls' := [some (.int (a1))]) (st' := [.int (3), .int (a1)]) rfl rfl ?_
    refine Rc.icmp_gt (pc1 := 14) tb_139 rfl rfl (by decide) (by decide) (fun hb1 => ?_) (fun hb1 => ?_)
    · rw [if_pos hb1] at h
      refine Rc.run tb_139 1 (pc' := 15) (ls' := [none]) (st' := [.int (0)]) rfl rfl ?_
      subst h
      obtain ⟨rfl, rfl⟩ := hC
      exact Rc.zret tb_139 rfl mR_139 (Or.inl rfl)
    · rw [if_neg hb1] at h
      refine Rc.run tb_139 2 (pc' := 15) (ls' := [some (.int (a1))]) (st' := [.int (1)]) rfl rfl ?_
      subst h
      obtain ⟨rfl, rfl⟩ := hC
      exact Rc.zret tb_139 rfl mR_139 (Or.inr rfl)
theorem T_139 {X : AX} {d : Nat} (hd : 0 ≤ d) (a1 : Int32) (M : IM) : Rc X d 139 0 [some (.int (a1))] [] M (some (.int (F_139 a1))) M := TF_139 hd rfl ⟨rfl, rfl⟩
/-! 95: NineDemands.choose -/
def J_95_14 (M : IM) : Option (Int32 × IM) := (match F_132 (1 : Int32) M with | none => none | some (c2, M2) => (some ((c2, M2))))
def F_95 (a1 : Int32) (a2 : Int32) (M : IM) : Option (Int32 × IM) := if F_5 a1 = 0 then (J_95_14 M) else (if F_139 a2 = 0 then (J_95_14 M) else (if inb a1 12 = true then (if inb a1 12 = true then (some ((M 2 a1.toNatClampNeg, iset M 2 a1.toNatClampNeg a2))) else none) else none))
theorem TJ_95_14 {X : AX} {d : Nat} (hd : 1 ≤ d) {M : IM} {v : Option Value} {M' : IM} {o : Int32 × IM} (h : J_95_14 M = some o) (hC : v = some (.int o.1) ∧ M' = o.2) : Rc X d 95 14 [some (.ref (0)), none, none, none] [] M v M' := by
  obtain ⟨d, rfl⟩ : ∃ e, d = e + 1 := ⟨d - 1, by omega⟩
  unfold J_95_14 at h
  refine Rc.run tb_95 2 (pc' := 16) (ls' := [some (.ref (0)), none, none, none]) (st' := [.int (1), .ref (0)]) rfl rfl ?_
  cases hc2 : F_132 (1 : Int32) M with
  | none => rw [hc2] at h; cases h
  | some r2 =>
    obtain ⟨c2, M2⟩ := r2
    rw [hc2] at h
    dsimp only at h
    have hq2 := T_132 (X := X) (d := d) (by omega) (M := M) hc2
    refine Rc.callV tb_95 rfl rfl rfl mS_132 mP_132 mL_132 mO_132 rfl rfl ob_0 rfl rfl hq2 ?_
    obtain rfl := Option.some.inj h
    obtain ⟨rfl, rfl⟩ := hC
    exact Rc.iret (ins := .ireturn) tb_95 rfl mR_95
theorem TF_95 {X : AX} {d : Nat} (hd : 1 ≤ d) {a1 : Int32} {a2 : Int32} {M : IM} {v : Option Value} {M' : IM} {o : Int32 × IM} (h : F_95 a1 a2 M = some o) (hC : v = some (.int o.1) ∧ M' = o.2) : Rc X d 95 0 [some (.ref (0)), some (.int (a1)), some (.int (a2)), none] [] M v M' := by
  obtain ⟨d, rfl⟩ : ∃ e, d = e + 1 := ⟨d - 1, by omega⟩
  unfold F_95 at h
  refine Rc.run tb_95 1 (pc' := 1) (ls' := [some (.ref (0)), some (.int (a1)), some (.int (a2)), none]) (st' := [.int (a1)]) rfl rfl ?_
  have hq1 := T_5 (X := X) (d := d) (by omega) a1 M
  have hz1 := Rc.bool mR_5 hq1
  refine Rc.callS tb_95 rfl rfl rfl mS_5 mP_5 mL_5 rfl rfl rfl hq1 ?_
  refine Rc.if_eq (pc1 := 14) tb_95 rfl rfl (by decide) (by decide) (fun hb7 => ?_) (fun hb7 => ?_)
  · rw [if_pos hb7] at h
    refine Rc.mask (b := 1) ((tb_95.2 14).trans rfl) (ls' := [some (.ref (0)), none, none, none]) rfl ?_
    exact TJ_95_14 (X := X) (d := d + 1) (by omega) h hC
  · rw [if_neg hb7] at h
    refine Rc.run tb_95 1 (pc' := 8) (ls' := [some (.ref (0)), some (.int (a1)), some (.int (a2)), none]) (st' := [.int (a2)]) rfl rfl ?_
    have hq3 := T_139 (X := X) (d := d) (by omega) a2 M
    have hz3 := Rc.bool mR_139 hq3
    refine Rc.callS tb_95 rfl rfl rfl mS_139 mP_139 mL_139 rfl rfl rfl hq3 ?_
    refine Rc.if_ne (pc1 := 20) tb_95 rfl rfl (by decide) (by decide) (fun hb6 => ?_) (fun hb6 => ?_)
    · rw [if_pos hb6] at h
      refine Rc.mask (b := 1) ((tb_95.2 14).trans rfl) (ls' := [some (.ref (0)), none, none, none]) rfl ?_
      exact TJ_95_14 (X := X) (d := d + 1) (by omega) h hC
    · rw [if_neg hb6] at h
      refine Rc.run tb_95 1 (pc' := 21) (ls' := [some (.ref (0)), some (.int (a1)), some (.int (a2)), none]) (st' := [.ref (0)]) rfl rfl ?_
      refine Rc.getR tb_95 rfl rfl ob_0 (by decide +kernel) tg_0_0 (by decide) ?_
      refine Rc.getR tb_95 rfl rfl (VilH.ob vh_1) (by decide +kernel) (VilH.f0 vh_1) (by decide) ?_
      refine Rc.run tb_95 1 (pc' := 28) (ls' := [some (.ref (0)), some (.int (a1)), some (.int (a2)), none]) (st' := [.int (a1), .ref (2)]) rfl rfl ?_
      by_cases hb5 : inb a1 12 = true
      · rw [if_pos hb5] at h
        refine Rc.iald tb_95 rfl rfl ia_2 hb5 ?_
        refine Rc.run tb_95 2 (pc' := 31) (ls' := [some (.ref (0)), some (.int (a1)), some (.int (a2)), some (.int (M 2 a1.toNatClampNeg))]) (st' := [.ref (0)]) rfl rfl ?_
        refine Rc.getR tb_95 rfl rfl ob_0 (by decide +kernel) tg_0_0 (by decide) ?_
        refine Rc.getR tb_95 rfl rfl (VilH.ob vh_1) (by decide +kernel) (VilH.f0 vh_1) (by decide) ?_
        refine Rc.run tb_95 2 (pc' := 39) (ls' := [some (.ref (0)), some (.int (a1)), some (.int (a2)), some (.int (M 2 a1.toNatClampNeg))]) (st' := [.int (a2), .int (a1), .ref (2)]) rfl rfl ?_
        by_cases hb4 : inb a1 12 = true
        · rw [if_pos hb4] at h
          refine Rc.iast tb_95 rfl rfl ia_2 hb4 ?_
          refine Rc.run tb_95 1 (pc' := 41) (ls' := [some (.ref (0)), some (.int (a1)), some (.int (a2)), some (.int (M 2 a1.toNatClampNeg))]) (st' := [.int (M 2 a1.toNatClampNeg)]) rfl rfl ?_
          obtain rfl := Option.some.inj h
          obtain ⟨rfl, rfl⟩ := hC
          exact Rc.iret (ins := .ireturn) tb_95 rfl mR_95
        · rw [if_neg hb4] at h
          cases h
      · rw [if_neg hb5] at h
        cases h
theorem T_95 {X : AX} {d : Nat} (hd : 1 ≤ d) {a1 : Int32} {a2 : Int32} {M : IM} {x : Int32} {M1 : IM} (h : F_95 a1 a2 M = some (x, M1)) : Rc X d 95 0 [some (.ref (0)), some (.int (a1)), some (.int (a2)), none] [] M (some (.int x)) M1 := TF_95 hd h ⟨rfl, rfl⟩
/-! 96: NineDemands.chosen -/
def F_96 (a1 : Int32) (M : IM) : Option (Int32 × IM) := if F_5 a1 = 0 then (match F_132 (1 : Int32) M with | none => none | some (c2, M2) => (some ((c2, M2)))) else (if inb a1 12 = true then (some ((M 2 a1.toNatClampNeg, M))) else none)
theorem TF_96 {X : AX} {d : Nat} (hd : 1 ≤ d) {a1 : Int32} {M : IM} {v : Option Value} {M' : IM} {o : Int32 × IM} (h : F_96 a1 M = some o) (hC : v = some (.int o.1) ∧ M' = o.2) : Rc X d 96 0 [some (.ref (0)), some (.int (a1))] [] M v M' := by
  obtain ⟨d, rfl⟩ : ∃ e, d = e + 1 := ⟨d - 1, by omega⟩
  unfold F_96 at h
  refine Rc.run tb_96 1 (pc' := 1) (ls' := [some (.ref (0)), some (.int (a1))]) (st' := [.int (a1)]) rfl rfl ?_
  have hq1 := T_5 (X := X) (d := d) (by omega) a1 M
  have hz1 := Rc.bool mR_5 hq1
  refine Rc.callS tb_96 rfl rfl rfl mS_5 mP_5 mL_5 rfl rfl rfl hq1 ?_
  refine Rc.if_eq (pc1 := 19) tb_96 rfl rfl (by decide) (by decide) (fun hb4 => ?_) (fun hb4 => ?_)
  · rw [if_pos hb4] at h
    refine Rc.run tb_96 2 (pc' := 21) (ls' := [some (.ref (0)), some (.int (a1))]) (st' := [.int (1), .ref (0)]) rfl rfl ?_
    cases hc2 : F_132 (1 : Int32) M with
    | none => rw [hc2] at h; cases h
    | some r2 =>
      obtain ⟨c2, M2⟩ := r2
      rw [hc2] at h
      dsimp only at h
      have hq2 := T_132 (X := X) (d := d) (by omega) (M := M) hc2
      refine Rc.callV tb_96 rfl rfl rfl mS_132 mP_132 mL_132 mO_132 rfl rfl ob_0 rfl rfl hq2 ?_
      obtain rfl := Option.some.inj h
      obtain ⟨rfl, rfl⟩ := hC
      exact Rc.iret (ins := .ireturn) tb_96 rfl mR_96
  · rw [if_neg hb4] at h
    refine Rc.run tb_96 1 (pc' := 8) (ls' := [some (.ref (0)), some (.int (a1))]) (st' := [.ref (0)]) rfl rfl ?_
    refine Rc.getR tb_96 rfl rfl ob_0 (by decide +kernel) tg_0_0 (by decide) ?_
    refine Rc.getR tb_96 rfl rfl (VilH.ob vh_1) (by decide +kernel) (VilH.f0 vh_1) (by decide) ?_
    refine Rc.run tb_96 1 (pc' := 15) (ls' := [some (.ref (0)), some (.int (a1))]) (st' := [.int (a1), .ref (2)]) rfl rfl ?_
    by_cases hb3 : inb a1 12 = true
    · rw [if_pos hb3] at h
      refine Rc.iald tb_96 rfl rfl ia_2 hb3 ?_
      refine Rc.run tb_96 1 (pc' := 24) (ls' := [some (.ref (0)), some (.int (a1))]) (st' := [.int (M 2 a1.toNatClampNeg)]) rfl rfl ?_
      obtain rfl := Option.some.inj h
      obtain ⟨rfl, rfl⟩ := hC
      exact Rc.iret (ins := .ireturn) tb_96 rfl mR_96
    · rw [if_neg hb3] at h
      cases h
theorem T_96 {X : AX} {d : Nat} (hd : 1 ≤ d) {a1 : Int32} {M : IM} {x : Int32} {M1 : IM} (h : F_96 a1 M = some (x, M1)) : Rc X d 96 0 [some (.ref (0)), some (.int (a1))] [] M (some (.int x)) M1 := TF_96 hd h ⟨rfl, rfl⟩
/-! 136: NineDemands.isSheet -/
def F_136 (a1 : Int32) : Int32 := if a1 < 0 then 0 else (if (4 : Int32) ≤ a1 then 0 else 1)
theorem TF_136 {X : AX} {d : Nat} (hd : 0 ≤ d) {a1 : Int32} {M : IM} {v : Option Value} {M' : IM} {o : Int32} (h : F_136 a1 = o) (hC : v = some (.int o) ∧ M' = M) : Rc X d 136 0 [some (.int (a1))] [] M v M' := by
  unfold F_136 at h
  refine Rc.run tb_136 1 (pc' := 1) (ls' := [some (.int (a1))]) (st' := [.int (a1)]) rfl rfl ?_
  refine Rc.if_lt (pc1 := 13) tb_136 rfl rfl (by decide) (by decide) (fun hb2 => ?_) (fun hb2 => ?_)
  · rw [if_pos hb2] at h
    refine Rc.run tb_136 1 (pc' := 14) (ls' := [none]) (st' := [.int (0)]) rfl rfl ?_
    subst h
    obtain ⟨rfl, rfl⟩ := hC
    exact Rc.zret tb_136 rfl mR_136 (Or.inl rfl)
  · rw [if_neg hb2] at h
    refine Rc.run tb_136 2 (pc' := 6) (ls' := [some (.int (a1))]) (st' := [.int (4), .int (a1)]) rfl rfl ?_
    refine Rc.icmp_ge (pc1 := 13) tb_136 rfl rfl (by decide) (by decide) (fun hb1 => ?_) (fun hb1 => ?_)
    · rw [if_pos hb1] at h
      refine Rc.run tb_136 1 (pc' := 14) (ls' := [none]) (st' := [.int (0)]) rfl rfl ?_
      subst h
      obtain ⟨rfl, rfl⟩ := hC
      exact Rc.zret tb_136 rfl mR_136 (Or.inl rfl)
    · rw [if_neg hb1] at h
      refine Rc.run tb_136 2 (pc' := 14) (ls' := [some (.int (a1))]) (st' := [.int (1)]) rfl rfl ?_
      subst h
      obtain ⟨rfl, rfl⟩ := hC
      exact Rc.zret tb_136 rfl mR_136 (Or.inr rfl)
theorem T_136 {X : AX} {d : Nat} (hd : 0 ≤ d) (a1 : Int32) (M : IM) : Rc X d 136 0 [some (.int (a1))] [] M (some (.int (F_136 a1))) M := TF_136 hd rfl ⟨rfl, rfl⟩
/-! 97: NineDemands.block -/
def B_97_46 (t2 : Nat) (x3 : Int32) : (Int32 × IM) → Option ((Int32 × IM) ⊕ ((Int32 × IM) ⊕ (Int32 × IM))) := fun (x4, M) => if x3 ≤ x4 then (some (Sum.inr (Sum.inl (x4, M)))) else (if inb x4 40 = true then (if F_139 (M (t2 + 1) x4.toNatClampNeg) = 0 then (match F_132 (5 : Int32) M with | none => none | some (c6, M6) => (some (Sum.inr (Sum.inr (c6, M6))))) else (some (Sum.inl (x4 + 1, M)))) else none)
def L_97_46 (t2 : Nat) (x3 : Int32) (x4 : Int32) (M : IM) : Option ((Int32 × IM) ⊕ (Int32 × IM)) := loopN (B_97_46 t2 x3) FU (x4, M)
def J_97_77 (t2 : Nat) (x3 : Int32) (M : IM) : Option (Int32 × IM) := if cpok 40 (0 : Int32) 12 (0 : Int32) x3 = true then (some ((x3, icpy M (t2 + 1) (0 : Int32).toNatClampNeg 2 (0 : Int32).toNatClampNeg x3.toNatClampNeg))) else none
def F_97 (a1 : Int32) (M : IM) : Option (Int32 × IM) := if F_136 a1 = 0 then (match F_132 (1 : Int32) M with | none => none | some (c2, M2) => (some ((c2, M2)))) else (if inb a1 4 = true then (if F_34 (69 + 2 * a1.toNatClampNeg) M = 0 then (match L_97_46 (69 + 2 * a1.toNatClampNeg) (bif decide ((12 : Int32) < M (69 + 2 * a1.toNatClampNeg) 1) then 12 else M (69 + 2 * a1.toNatClampNeg) 1) 0 M with | none => none | some (.inl (x4_10, M10)) => (J_97_77 (69 + 2 * a1.toNatClampNeg) (bif decide ((12 : Int32) < M (69 + 2 * a1.toNatClampNeg) 1) then 12 else M (69 + 2 * a1.toNatClampNeg) 1) M10) | some (.inr q) => some (q)) else (match F_132 (2 : Int32) M with | none => none | some (c12, M12) => (some ((c12, M12))))) else none)
theorem TB_97_46 {X : AX} {d : Nat} (hd : 1 ≤ d) {t2 : Nat} {x3 : Int32} (ht2 : ShH t2) {v : Option Value} {M' : IM} : ∀ (s : Int32 × IM) (o : (Int32 × IM) ⊕ ((Int32 × IM) ⊕ (Int32 × IM))), B_97_46 t2 x3 s = some o → (∀ s', o = .inl s' → (fun (x4, M) => Rc X d 97 46 [some (.ref (0)), none, some (.ref (t2)), some (.int (x3)), some (.int (x4))] [] M v M') s') → (∀ r, o = .inr r → (fun r => match r with | .inl (x4, M) => Rc X d 97 77 [some (.ref (0)), none, some (.ref (t2)), some (.int (x3)), none] [] M v M' | .inr q => v = some (.int q.1) ∧ M' = q.2) r) → (fun (x4, M) => Rc X d 97 46 [some (.ref (0)), none, some (.ref (t2)), some (.int (x3)), some (.int (x4))] [] M v M') s := by
  rintro ⟨x4, M⟩ o h hP hE
  show Rc X d 97 46 [some (.ref (0)), none, some (.ref (t2)), some (.int (x3)), some (.int (x4))] [] M v M'
  obtain ⟨d, rfl⟩ : ∃ e, d = e + 1 := ⟨d - 1, by omega⟩
  unfold B_97_46 at h
  dsimp only at h hP hE
  refine Rc.run tb_97 2 (pc' := 49) (ls' := [some (.ref (0)), none, some (.ref (t2)), some (.int (x3)), some (.int (x4))]) (st' := [.int (x3), .int (x4)]) rfl rfl ?_
  refine Rc.icmp_ge (pc1 := 77) tb_97 rfl rfl (by decide) (by decide) (fun hb9 => ?_) (fun hb9 => ?_)
  · rw [if_pos hb9] at h
    refine Rc.mask (b := 13) ((tb_97.2 77).trans rfl) (ls' := [some (.ref (0)), none, some (.ref (t2)), some (.int (x3)), none]) rfl ?_
    obtain rfl := Option.some.inj h
    exact hE _ rfl
  · rw [if_neg hb9] at h
    refine Rc.run tb_97 1 (pc' := 53) (ls' := [some (.ref (0)), none, some (.ref (t2)), some (.int (x3)), some (.int (x4))]) (st' := [.ref (t2)]) rfl rfl ?_
    refine Rc.getR tb_97 rfl rfl (ShH.ob ht2) (by decide +kernel) (ShH.f2 ht2) (by have := ShH.lt ht2; omega) ?_
    refine Rc.run tb_97 1 (pc' := 58) (ls' := [some (.ref (0)), none, some (.ref (t2)), some (.int (x3)), some (.int (x4))]) (st' := [.int (x4), .ref ((t2 + 1))]) rfl rfl ?_
    by_cases hb8 : inb x4 40 = true
    · rw [if_pos hb8] at h
      refine Rc.iald tb_97 rfl rfl (ShH.row ht2) hb8 ?_
      have hq5 := T_139 (X := X) (d := d) (by omega) (M (t2 + 1) x4.toNatClampNeg) M
      have hz5 := Rc.bool mR_139 hq5
      refine Rc.callS tb_97 rfl rfl rfl mS_139 mP_139 mL_139 rfl rfl rfl hq5 ?_
      refine Rc.if_ne (pc1 := 71) tb_97 rfl rfl (by decide) (by decide) (fun hb7 => ?_) (fun hb7 => ?_)
      · rw [if_pos hb7] at h
        refine Rc.run tb_97 2 (pc' := 67) (ls' := [some (.ref (0)), none, some (.ref (t2)), some (.int (x3)), some (.int (x4))]) (st' := [.int (5), .ref (0)]) rfl rfl ?_
        cases hc6 : F_132 (5 : Int32) M with
        | none => rw [hc6] at h; cases h
        | some r6 =>
          obtain ⟨c6, M6⟩ := r6
          rw [hc6] at h
          dsimp only at h
          have hq6 := T_132 (X := X) (d := d) (by omega) (M := M) hc6
          refine Rc.callV tb_97 rfl rfl rfl mS_132 mP_132 mL_132 mO_132 rfl rfl ob_0 rfl rfl hq6 ?_
          obtain rfl := Option.some.inj h
          obtain ⟨rfl, rfl⟩ := hE _ rfl
          exact Rc.iret (ins := .ireturn) tb_97 rfl mR_97
      · rw [if_neg hb7] at h
        refine Rc.run tb_97 2 (pc' := 46) (ls' := [some (.ref (0)), none, some (.ref (t2)), some (.int (x3)), some (.int (x4 + 1))]) (st' := []) rfl rfl ?_
        refine Rc.mask (b := 29) ((tb_97.2 46).trans rfl) (ls' := [some (.ref (0)), none, some (.ref (t2)), some (.int (x3)), some (.int (x4 + 1))]) rfl ?_
        obtain rfl := Option.some.inj h
        exact hP _ rfl
    · rw [if_neg hb8] at h
      cases h
theorem TL_97_46 {X : AX} {d : Nat} (hd : 1 ≤ d) {t2 : Nat} {x3 : Int32} {x4 : Int32} {M : IM} (ht2 : ShH t2) {v : Option Value} {M' : IM} {r : (Int32 × IM) ⊕ (Int32 × IM)} (h : L_97_46 t2 x3 x4 M = some r) (hE : (fun r => match r with | .inl (x4, M) => Rc X d 97 77 [some (.ref (0)), none, some (.ref (t2)), some (.int (x3)), none] [] M v M' | .inr q => v = some (.int q.1) ∧ M' = q.2) r) : Rc X d 97 46 [some (.ref (0)), none, some (.ref (t2)), some (.int (x3)), some (.int (x4))] [] M v M' := by
  exact loopN_rc (P := fun (x4, M) => Rc X d 97 46 [some (.ref (0)), none, some (.ref (t2)), some (.int (x3)), some (.int (x4))] [] M v M') (E := fun r => match r with | .inl (x4, M) => Rc X d 97 77 [some (.ref (0)), none, some (.ref (t2)), some (.int (x3)), none] [] M v M' | .inr q => v = some (.int q.1) ∧ M' = q.2) (TB_97_46 (X := X) hd ht2) FU _ r h hE
theorem TJ_97_77 {X : AX} {d : Nat} (hd : 1 ≤ d) {t2 : Nat} {x3 : Int32} {M : IM} (ht2 : ShH t2) {v : Option Value} {M' : IM} {o : Int32 × IM} (h : J_97_77 t2 x3 M = some o) (hC : v = some (.int o.1) ∧ M' = o.2) : Rc X d 97 77 [some (.ref (0)), none, some (.ref (t2)), some (.int (x3)), none] [] M v M' := by
  obtain ⟨d, rfl⟩ : ∃ e, d = e + 1 := ⟨d - 1, by omega⟩
  unfold J_97_77 at h
  refine Rc.run tb_97 1 (pc' := 78) (ls' := [some (.ref (0)), none, some (.ref (t2)), some (.int (x3)), none]) (st' := [.ref (t2)]) rfl rfl ?_
  refine Rc.getR tb_97 rfl rfl (ShH.ob ht2) (by decide +kernel) (ShH.f2 ht2) (by have := ShH.lt ht2; omega) ?_
  refine Rc.run tb_97 2 (pc' := 83) (ls' := [some (.ref (0)), none, some (.ref (t2)), some (.int (x3)), none]) (st' := [.ref (0), .int (0), .ref ((t2 + 1))]) rfl rfl ?_
  refine Rc.getR tb_97 rfl rfl ob_0 (by decide +kernel) tg_0_0 (by decide) ?_
  refine Rc.getR tb_97 rfl rfl (VilH.ob vh_1) (by decide +kernel) (VilH.f0 vh_1) (by decide) ?_
  refine Rc.run tb_97 2 (pc' := 91) (ls' := [some (.ref (0)), none, some (.ref (t2)), some (.int (x3)), none]) (st' := [.int (x3), .int (0), .ref (2), .int (0), .ref ((t2 + 1))]) rfl rfl ?_
  by_cases hb11 : cpok 40 (0 : Int32) 12 (0 : Int32) x3 = true
  · rw [if_pos hb11] at h
    refine Rc.copy tb_97 rfl rfl rfl (ShH.row ht2) ia_2 hb11 ?_
    refine Rc.run tb_97 1 (pc' := 95) (ls' := [some (.ref (0)), none, some (.ref (t2)), some (.int (x3)), none]) (st' := [.int (x3)]) rfl rfl ?_
    obtain rfl := Option.some.inj h
    obtain ⟨rfl, rfl⟩ := hC
    exact Rc.iret (ins := .ireturn) tb_97 rfl mR_97
  · rw [if_neg hb11] at h
    cases h
theorem TF_97 {X : AX} {d : Nat} (hd : 1 ≤ d) {a1 : Int32} {M : IM} {v : Option Value} {M' : IM} {o : Int32 × IM} (h : F_97 a1 M = some o) (hC : v = some (.int o.1) ∧ M' = o.2) : Rc X d 97 0 [some (.ref (0)), some (.int (a1)), none, none, none] [] M v M' := by
  obtain ⟨d, rfl⟩ : ∃ e, d = e + 1 := ⟨d - 1, by omega⟩
  unfold F_97 at h
  refine Rc.run tb_97 1 (pc' := 1) (ls' := [some (.ref (0)), some (.int (a1)), none, none, none]) (st' := [.int (a1)]) rfl rfl ?_
  have hq1 := T_136 (X := X) (d := d) (by omega) a1 M
  have hz1 := Rc.bool mR_136 hq1
  refine Rc.callS tb_97 rfl rfl rfl mS_136 mP_136 mL_136 rfl rfl rfl hq1 ?_
  refine Rc.if_ne (pc1 := 13) tb_97 rfl rfl (by decide) (by decide) (fun hb14 => ?_) (fun hb14 => ?_)
  · rw [if_pos hb14] at h
    refine Rc.run tb_97 2 (pc' := 9) (ls' := [some (.ref (0)), some (.int (a1)), none, none, none]) (st' := [.int (1), .ref (0)]) rfl rfl ?_
    cases hc2 : F_132 (1 : Int32) M with
    | none => rw [hc2] at h; cases h
    | some r2 =>
      obtain ⟨c2, M2⟩ := r2
      rw [hc2] at h
      dsimp only at h
      have hq2 := T_132 (X := X) (d := d) (by omega) (M := M) hc2
      refine Rc.callV tb_97 rfl rfl rfl mS_132 mP_132 mL_132 mO_132 rfl rfl ob_0 rfl rfl hq2 ?_
      obtain rfl := Option.some.inj h
      obtain ⟨rfl, rfl⟩ := hC
      exact Rc.iret (ins := .ireturn) tb_97 rfl mR_97
  · rw [if_neg hb14] at h
    refine Rc.run tb_97 1 (pc' := 14) (ls' := [some (.ref (0)), some (.int (a1)), none, none, none]) (st' := [.ref (0)]) rfl rfl ?_
    refine Rc.getR tb_97 rfl rfl ob_0 (by decide +kernel) tg_0_4 (by decide) ?_
    refine Rc.run tb_97 1 (pc' := 18) (ls' := [some (.ref (0)), some (.int (a1)), none, none, none]) (st' := [.int (a1), .ref (44)]) rfl rfl ?_
    by_cases hb3 : inb a1 4 = true
    · rw [if_pos hb3] at h
      refine Rc.aald tb_97 rfl rfl (by decide) (Or.inr (by decide +kernel)) (by rw [ln_44]; exact hb3) (sa_44 hb3) (ShH.lt0 (shEl hb3)) ?_
      refine Rc.run tb_97 2 (pc' := 21) (ls' := [some (.ref (0)), some (.int (a1)), some (.ref ((69 + 2 * a1.toNatClampNeg))), none, none]) (st' := [.ref ((69 + 2 * a1.toNatClampNeg))]) rfl rfl ?_
      have hq4 := T_34 (X := X) (d := d) (by omega) (shEl hb3) M
      have hz4 := Rc.bool mR_34 hq4
      refine Rc.callV tb_97 rfl rfl rfl mS_34 mP_34 mL_34 mO_34 rfl rfl (ShH.ob (shEl hb3)) rfl rfl hq4 ?_
      refine Rc.if_eq (pc1 := 33) tb_97 rfl rfl (by decide) (by decide) (fun hb13 => ?_) (fun hb13 => ?_)
      · rw [if_pos hb13] at h
        refine Rc.run tb_97 1 (pc' := 34) (ls' := [some (.ref (0)), some (.int (a1)), some (.ref ((69 + 2 * a1.toNatClampNeg))), none, none]) (st' := [.ref ((69 + 2 * a1.toNatClampNeg))]) rfl rfl ?_
        refine Rc.getI tb_97 rfl rfl (ShH.ob (shEl hb3)) (by decide +kernel) (ShH.f1 (shEl hb3)) ?_
        refine Rc.run tb_97 1 (pc' := 39) (ls' := [some (.ref (0)), some (.int (a1)), some (.ref ((69 + 2 * a1.toNatClampNeg))), none, none]) (st' := [.int (12), .int (M (69 + 2 * a1.toNatClampNeg) 1)]) rfl rfl ?_
        refine Rc.minS tb_97 rfl rfl rfl ?_
        refine Rc.run tb_97 3 (pc' := 46) (ls' := [some (.ref (0)), some (.int (a1)), some (.ref ((69 + 2 * a1.toNatClampNeg))), some (.int ((bif decide ((12 : Int32) < M (69 + 2 * a1.toNatClampNeg) 1) then 12 else M (69 + 2 * a1.toNatClampNeg) 1))), some (.int (0))]) (st' := []) rfl rfl ?_
        refine Rc.mask (b := 29) ((tb_97.2 46).trans rfl) (ls' := [some (.ref (0)), none, some (.ref ((69 + 2 * a1.toNatClampNeg))), some (.int ((bif decide ((12 : Int32) < M (69 + 2 * a1.toNatClampNeg) 1) then 12 else M (69 + 2 * a1.toNatClampNeg) 1))), some (.int (0))]) rfl ?_
        cases hl10 : L_97_46 (69 + 2 * a1.toNatClampNeg) (bif decide ((12 : Int32) < M (69 + 2 * a1.toNatClampNeg) 1) then 12 else M (69 + 2 * a1.toNatClampNeg) 1) 0 M with
        | none => rw [hl10] at h; cases h
        | some rr10 =>
          rw [hl10] at h
          cases rr10 with
          | inl r10 =>
            obtain ⟨x4_10, M10⟩ := r10
            dsimp only at h
            refine TL_97_46 (X := X) (d := d + 1) (by omega) (shEl hb3) hl10 ?_
            refine Rc.mask (b := 13) ((tb_97.2 77).trans rfl) (ls' := [some (.ref (0)), none, some (.ref ((69 + 2 * a1.toNatClampNeg))), some (.int ((bif decide ((12 : Int32) < M (69 + 2 * a1.toNatClampNeg) 1) then 12 else M (69 + 2 * a1.toNatClampNeg) 1))), none]) rfl ?_
            exact TJ_97_77 (X := X) (d := d + 1) (by omega) (shEl hb3) h hC
          | inr q =>
            dsimp only at h
            refine TL_97_46 (X := X) (d := d + 1) (by omega) (shEl hb3) hl10 ?_
            obtain rfl := Option.some.inj h
            obtain ⟨rfl, rfl⟩ := hC
            exact ⟨rfl, rfl⟩
      · rw [if_neg hb13] at h
        refine Rc.run tb_97 2 (pc' := 29) (ls' := [some (.ref (0)), some (.int (a1)), some (.ref ((69 + 2 * a1.toNatClampNeg))), none, none]) (st' := [.int (2), .ref (0)]) rfl rfl ?_
        cases hc12 : F_132 (2 : Int32) M with
        | none => rw [hc12] at h; cases h
        | some r12 =>
          obtain ⟨c12, M12⟩ := r12
          rw [hc12] at h
          dsimp only at h
          have hq12 := T_132 (X := X) (d := d) (by omega) (M := M) hc12
          refine Rc.callV tb_97 rfl rfl rfl mS_132 mP_132 mL_132 mO_132 rfl rfl ob_0 rfl rfl hq12 ?_
          obtain rfl := Option.some.inj h
          obtain ⟨rfl, rfl⟩ := hC
          exact Rc.iret (ins := .ireturn) tb_97 rfl mR_97
    · rw [if_neg hb3] at h
      cases h
theorem T_97 {X : AX} {d : Nat} (hd : 1 ≤ d) {a1 : Int32} {M : IM} {x : Int32} {M1 : IM} (h : F_97 a1 M = some (x, M1)) : Rc X d 97 0 [some (.ref (0)), some (.int (a1)), none, none, none] [] M (some (.int x)) M1 := TF_97 hd h ⟨rfl, rfl⟩
/-! 98: NineDemands.form -/
def J_98_10 (M : IM) : Option (Int32 × IM) := (match F_132 (1 : Int32) M with | none => none | some (c1, M1) => (some ((c1, M1))))
def J_98_50_20 (x1 : Int32) (x2 : Int32) (x3 : Int32) (x4 : Int32) (M : IM) : Option ((Int32 × Int32 × IM) ⊕ (Int32 × Int32 × IM)) := if inb x3 12 = true then (some (Sum.inl (x2, x3 + 1, iset M 2 x3.toNatClampNeg x4))) else none
def B_98_20 (x1 : Int32) : (Int32 × Int32 × IM) → Option ((Int32 × Int32 × IM) ⊕ (Int32 × Int32 × IM)) := fun (x2, x3, M) => if (12 : Int32) ≤ x3 then (some (Sum.inr (x2, x3, M))) else (if inb x3 12 = true then (if M 2 x3.toNatClampNeg = F_13 x1 x3 then (J_98_50_20 x1 x2 x3 (F_13 x1 x3) M) else (J_98_50_20 x1 (x2 + 1) x3 (F_13 x1 x3) M)) else none)
def L_98_20 (x1 : Int32) (x2 : Int32) (x3 : Int32) (M : IM) : Option (Int32 × Int32 × IM) := loopN (B_98_20 x1) FU (x2, x3, M)
def F_98 (a1 : Int32) (M : IM) : Option (Int32 × IM) := if a1 < 0 then (J_98_10 M) else (if a1 < 12 then (match L_98_20 a1 0 0 M with | none => none | some (x2_7, x3_7, M7) => (some ((x2_7, M7)))) else (J_98_10 M))
theorem TJ_98_10 {X : AX} {d : Nat} (hd : 5 ≤ d) {M : IM} {v : Option Value} {M' : IM} {o : Int32 × IM} (h : J_98_10 M = some o) (hC : v = some (.int o.1) ∧ M' = o.2) : Rc X d 98 10 [some (.ref (0)), none, none, none, none] [] M v M' := by
  obtain ⟨d, rfl⟩ : ∃ e, d = e + 1 := ⟨d - 1, by omega⟩
  unfold J_98_10 at h
  refine Rc.run tb_98 2 (pc' := 12) (ls' := [some (.ref (0)), none, none, none, none]) (st' := [.int (1), .ref (0)]) rfl rfl ?_
  cases hc1 : F_132 (1 : Int32) M with
  | none => rw [hc1] at h; cases h
  | some r1 =>
    obtain ⟨c1, M1⟩ := r1
    rw [hc1] at h
    dsimp only at h
    have hq1 := T_132 (X := X) (d := d) (by omega) (M := M) hc1
    refine Rc.callV tb_98 rfl rfl rfl mS_132 mP_132 mL_132 mO_132 rfl rfl ob_0 rfl rfl hq1 ?_
    obtain rfl := Option.some.inj h
    obtain ⟨rfl, rfl⟩ := hC
    exact Rc.iret (ins := .ireturn) tb_98 rfl mR_98
theorem TJ_98_50_20 {X : AX} {d : Nat} (hd : 5 ≤ d) {x1 : Int32} {x2 : Int32} {x3 : Int32} {x4 : Int32} {M : IM} {v : Option Value} {M' : IM} {o : (Int32 × Int32 × IM) ⊕ (Int32 × Int32 × IM)} (h : J_98_50_20 x1 x2 x3 x4 M = some o) (hP : ∀ s', o = .inl s' → (fun (x2, x3, M) => Rc X d 98 20 [some (.ref (0)), some (.int (x1)), some (.int (x2)), some (.int (x3)), none] [] M v M') s') (hE : ∀ r, o = .inr r → (fun (x2, x3, M) => Rc X d 98 67 [none, none, some (.int (x2)), none, none] [] M v M') r) : Rc X d 98 50 [some (.ref (0)), some (.int (x1)), some (.int (x2)), some (.int (x3)), some (.int (x4))] [] M v M' := by
  obtain ⟨d, rfl⟩ : ∃ e, d = e + 1 := ⟨d - 1, by omega⟩
  unfold J_98_50_20 at h
  dsimp only at hP hE
  refine Rc.run tb_98 1 (pc' := 51) (ls' := [some (.ref (0)), some (.int (x1)), some (.int (x2)), some (.int (x3)), some (.int (x4))]) (st' := [.ref (0)]) rfl rfl ?_
  refine Rc.getR tb_98 rfl rfl ob_0 (by decide +kernel) tg_0_0 (by decide) ?_
  refine Rc.getR tb_98 rfl rfl (VilH.ob vh_1) (by decide +kernel) (VilH.f0 vh_1) (by decide) ?_
  refine Rc.run tb_98 2 (pc' := 60) (ls' := [some (.ref (0)), some (.int (x1)), some (.int (x2)), some (.int (x3)), some (.int (x4))]) (st' := [.int (x4), .int (x3), .ref (2)]) rfl rfl ?_
  by_cases hb3 : inb x3 12 = true
  · rw [if_pos hb3] at h
    refine Rc.iast tb_98 rfl rfl ia_2 hb3 ?_
    refine Rc.run tb_98 2 (pc' := 20) (ls' := [some (.ref (0)), some (.int (x1)), some (.int (x2)), some (.int (x3 + 1)), some (.int (x4))]) (st' := []) rfl rfl ?_
    refine Rc.mask (b := 15) ((tb_98.2 20).trans rfl) (ls' := [some (.ref (0)), some (.int (x1)), some (.int (x2)), some (.int (x3 + 1)), none]) rfl ?_
    obtain rfl := Option.some.inj h
    exact hP _ rfl
  · rw [if_neg hb3] at h
    cases h
theorem TB_98_20 {X : AX} {d : Nat} (hd : 5 ≤ d) {x1 : Int32} {v : Option Value} {M' : IM} : ∀ (s : Int32 × Int32 × IM) (o : (Int32 × Int32 × IM) ⊕ (Int32 × Int32 × IM)), B_98_20 x1 s = some o → (∀ s', o = .inl s' → (fun (x2, x3, M) => Rc X d 98 20 [some (.ref (0)), some (.int (x1)), some (.int (x2)), some (.int (x3)), none] [] M v M') s') → (∀ r, o = .inr r → (fun (x2, x3, M) => Rc X d 98 67 [none, none, some (.int (x2)), none, none] [] M v M') r) → (fun (x2, x3, M) => Rc X d 98 20 [some (.ref (0)), some (.int (x1)), some (.int (x2)), some (.int (x3)), none] [] M v M') s := by
  rintro ⟨x2, x3, M⟩ o h hP hE
  show Rc X d 98 20 [some (.ref (0)), some (.int (x1)), some (.int (x2)), some (.int (x3)), none] [] M v M'
  obtain ⟨d, rfl⟩ : ∃ e, d = e + 1 := ⟨d - 1, by omega⟩
  unfold B_98_20 at h
  dsimp only at h hP hE
  refine Rc.run tb_98 2 (pc' := 23) (ls' := [some (.ref (0)), some (.int (x1)), some (.int (x2)), some (.int (x3)), none]) (st' := [.int (12), .int (x3)]) rfl rfl ?_
  refine Rc.icmp_ge (pc1 := 67) tb_98 rfl rfl (by decide) (by decide) (fun hb6 => ?_) (fun hb6 => ?_)
  · rw [if_pos hb6] at h
    refine Rc.mask (b := 4) ((tb_98.2 67).trans rfl) (ls' := [none, none, some (.int (x2)), none, none]) rfl ?_
    obtain rfl := Option.some.inj h
    exact hE _ rfl
  · rw [if_neg hb6] at h
    refine Rc.run tb_98 2 (pc' := 28) (ls' := [some (.ref (0)), some (.int (x1)), some (.int (x2)), some (.int (x3)), none]) (st' := [.int (x3), .int (x1)]) rfl rfl ?_
    have hq2 := T_13 (X := X) (d := d) (by omega) x1 x3 M
    refine Rc.callS tb_98 rfl rfl rfl mS_13 mP_13 mL_13 rfl rfl rfl hq2 ?_
    refine Rc.run tb_98 2 (pc' := 34) (ls' := [some (.ref (0)), some (.int (x1)), some (.int (x2)), some (.int (x3)), some (.int (F_13 x1 x3))]) (st' := [.ref (0)]) rfl rfl ?_
    refine Rc.getR tb_98 rfl rfl ob_0 (by decide +kernel) tg_0_0 (by decide) ?_
    refine Rc.getR tb_98 rfl rfl (VilH.ob vh_1) (by decide +kernel) (VilH.f0 vh_1) (by decide) ?_
    refine Rc.run tb_98 1 (pc' := 41) (ls' := [some (.ref (0)), some (.int (x1)), some (.int (x2)), some (.int (x3)), some (.int (F_13 x1 x3))]) (st' := [.int (x3), .ref (2)]) rfl rfl ?_
    by_cases hb5 : inb x3 12 = true
    · rw [if_pos hb5] at h
      refine Rc.iald tb_98 rfl rfl ia_2 hb5 ?_
      refine Rc.run tb_98 1 (pc' := 44) (ls' := [some (.ref (0)), some (.int (x1)), some (.int (x2)), some (.int (x3)), some (.int (F_13 x1 x3))]) (st' := [.int (F_13 x1 x3), .int (M 2 x3.toNatClampNeg)]) rfl rfl ?_
      refine Rc.icmp_eq (pc1 := 50) tb_98 rfl rfl (by decide) (by decide) (fun hb4 => ?_) (fun hb4 => ?_)
      · rw [if_pos hb4] at h
        refine Rc.mask (b := 31) ((tb_98.2 50).trans rfl) (ls' := [some (.ref (0)), some (.int (x1)), some (.int (x2)), some (.int (x3)), some (.int (F_13 x1 x3))]) rfl ?_
        exact TJ_98_50_20 (X := X) (d := d + 1) (by omega) h hP hE
      · rw [if_neg hb4] at h
        refine Rc.run tb_98 1 (pc' := 50) (ls' := [some (.ref (0)), some (.int (x1)), some (.int (x2 + 1)), some (.int (x3)), some (.int (F_13 x1 x3))]) (st' := []) rfl rfl ?_
        refine Rc.mask (b := 31) ((tb_98.2 50).trans rfl) (ls' := [some (.ref (0)), some (.int (x1)), some (.int (x2 + 1)), some (.int (x3)), some (.int (F_13 x1 x3))]) rfl ?_
        exact TJ_98_50_20 (X := X) (d := d + 1) (by omega) h hP hE
    · rw [if_neg hb5] at h
      cases h
theorem TL_98_20 {X : AX} {d : Nat} (hd : 5 ≤ d) {x1 : Int32} {x2 : Int32} {x3 : Int32} {M : IM} {v : Option Value} {M' : IM} {r : Int32 × Int32 × IM} (h : L_98_20 x1 x2 x3 M = some r) (hE : (fun (x2, x3, M) => Rc X d 98 67 [none, none, some (.int (x2)), none, none] [] M v M') r) : Rc X d 98 20 [some (.ref (0)), some (.int (x1)), some (.int (x2)), some (.int (x3)), none] [] M v M' := by
  exact loopN_rc (P := fun (x2, x3, M) => Rc X d 98 20 [some (.ref (0)), some (.int (x1)), some (.int (x2)), some (.int (x3)), none] [] M v M') (E := fun (x2, x3, M) => Rc X d 98 67 [none, none, some (.int (x2)), none, none] [] M v M') (TB_98_20 (X := X) hd) FU _ r h hE
theorem TF_98 {X : AX} {d : Nat} (hd : 5 ≤ d) {a1 : Int32} {M : IM} {v : Option Value} {M' : IM} {o : Int32 × IM} (h : F_98 a1 M = some o) (hC : v = some (.int o.1) ∧ M' = o.2) : Rc X d 98 0 [some (.ref (0)), some (.int (a1)), none, none, none] [] M v M' := by
  obtain ⟨d, rfl⟩ : ∃ e, d = e + 1 := ⟨d - 1, by omega⟩
  unfold F_98 at h
  refine Rc.run tb_98 1 (pc' := 1) (ls' := [some (.ref (0)), some (.int (a1)), none, none, none]) (st' := [.int (a1)]) rfl rfl ?_
  refine Rc.if_lt (pc1 := 10) tb_98 rfl rfl (by decide) (by decide) (fun hb9 => ?_) (fun hb9 => ?_)
  · rw [if_pos hb9] at h
    refine Rc.mask (b := 1) ((tb_98.2 10).trans rfl) (ls' := [some (.ref (0)), none, none, none, none]) rfl ?_
    exact TJ_98_10 (X := X) (d := d + 1) (by omega) h hC
  · rw [if_neg hb9] at h
    refine Rc.run tb_98 2 (pc' := 7) (ls' := [some (.ref (0)), some (.int (a1)), none, none, none]) (st' := [.int (12), .int (a1)]) rfl rfl ?_
    refine Rc.icmp_lt (pc1 := 16) tb_98 rfl rfl (by decide) (by decide) (fun hb8 => ?_) (fun hb8 => ?_)
    · rw [if_pos hb8] at h
      refine Rc.run tb_98 4 (pc' := 20) (ls' := [some (.ref (0)), some (.int (a1)), some (.int (0)), some (.int (0)), none]) (st' := []) rfl rfl ?_
      refine Rc.mask (b := 15) ((tb_98.2 20).trans rfl) (ls' := [some (.ref (0)), some (.int (a1)), some (.int (0)), some (.int (0)), none]) rfl ?_
      cases hl7 : L_98_20 a1 0 0 M with
      | none => rw [hl7] at h; cases h
      | some r7 =>
        obtain ⟨x2_7, x3_7, M7⟩ := r7
        rw [hl7] at h
        dsimp only at h
        refine TL_98_20 (X := X) (d := d + 1) (by omega) hl7 ?_
        refine Rc.run tb_98 1 (pc' := 68) (ls' := [none, none, some (.int (x2_7)), none, none]) (st' := [.int (x2_7)]) rfl rfl ?_
        obtain rfl := Option.some.inj h
        obtain ⟨rfl, rfl⟩ := hC
        exact Rc.iret (ins := .ireturn) tb_98 rfl mR_98
    · rw [if_neg hb8] at h
      refine Rc.mask (b := 1) ((tb_98.2 10).trans rfl) (ls' := [some (.ref (0)), none, none, none, none]) rfl ?_
      exact TJ_98_10 (X := X) (d := d + 1) (by omega) h hC
theorem T_98 {X : AX} {d : Nat} (hd : 5 ≤ d) {a1 : Int32} {M : IM} {x : Int32} {M1 : IM} (h : F_98 a1 M = some (x, M1)) : Rc X d 98 0 [some (.ref (0)), some (.int (a1)), none, none, none] [] M (some (.int x)) M1 := TF_98 hd h ⟨rfl, rfl⟩
/-! 99: NineDemands.feed -/
def J_99_11 (M : IM) : Option (Int32 × IM) := (match F_132 (1 : Int32) M with | none => none | some (c1, M1) => (some ((c1, M1))))
def B_99_40 (w1 : Int64) (x3 : Int32) : (Int32 × IM) → Option ((Int32 × IM) ⊕ (Int32 × IM)) := fun (x4, M) => if x3 ≤ x4 then (some (Sum.inr (x4, M))) else (if inb (M 1 4) 50 = true then (some (Sum.inl (x4 + 1, iset (iset M 4 (M 1 4).toNatClampNeg ((((w1.toUInt64 >>> ((8 * x4 : Int32).toInt64.toUInt64 &&& Int64.toUInt64 63)).toInt64).toInt32) &&& 255)) 1 4 (((iset M 4 (M 1 4).toNatClampNeg ((((w1.toUInt64 >>> ((8 * x4 : Int32).toInt64.toUInt64 &&& Int64.toUInt64 63)).toInt64).toInt32) &&& 255)) 1 4) + 1)))) else none)
def L_99_40 (w1 : Int64) (x3 : Int32) (x4 : Int32) (M : IM) : Option (Int32 × IM) := loopN (B_99_40 w1 x3) FU (x4, M)
def J_99_92 (M : IM) : Option (Int32 × IM) := some ((M 1 4, M))
def F_99 (a1 : Int64) (a2 : Int32) (M : IM) : Option (Int32 × IM) := if a2 < 1 then (J_99_11 M) else (if a2 ≤ 8 then (if (M 1 4) + a2 ≤ 50 then (match L_99_40 a1 a2 0 M with | none => none | some (x4_4, M4) => (J_99_92 M4)) else (match F_132 (4 : Int32) M with | none => none | some (c5, M5) => (some ((c5, M5))))) else (J_99_11 M))
theorem TJ_99_11 {X : AX} {d : Nat} (hd : 1 ≤ d) {M : IM} {v : Option Value} {M' : IM} {o : Int32 × IM} (h : J_99_11 M = some o) (hC : v = some (.int o.1) ∧ M' = o.2) : Rc X d 99 11 [some (.ref (0)), none, none, none, none] [] M v M' := by
  obtain ⟨d, rfl⟩ : ∃ e, d = e + 1 := ⟨d - 1, by omega⟩
  unfold J_99_11 at h
  refine Rc.run tb_99 2 (pc' := 13) (ls' := [some (.ref (0)), none, none, none, none]) (st' := [.int (1), .ref (0)]) rfl rfl ?_
  cases hc1 : F_132 (1 : Int32) M with
  | none => rw [hc1] at h; cases h
  | some r1 =>
    obtain ⟨c1, M1⟩ := r1
    rw [hc1] at h
    dsimp only at h
    have hq1 := T_132 (X := X) (d := d) (by omega) (M := M) hc1
    refine Rc.callV tb_99 rfl rfl rfl mS_132 mP_132 mL_132 mO_132 rfl rfl ob_0 rfl rfl hq1 ?_
    obtain rfl := Option.some.inj h
    obtain ⟨rfl, rfl⟩ := hC
    exact Rc.iret (ins := .ireturn) tb_99 rfl mR_99
theorem TB_99_40 {X : AX} {d : Nat} (hd : 1 ≤ d) {w1 : Int64} {x3 : Int32} {v : Option Value} {M' : IM} : ∀ (s : Int32 × IM) (o : (Int32 × IM) ⊕ (Int32 × IM)), B_99_40 w1 x3 s = some o → (∀ s', o = .inl s' → (fun (x4, M) => Rc X d 99 40 [some (.ref (0)), some (.long (w1)), none, some (.int (x3)), some (.int (x4))] [] M v M') s') → (∀ r, o = .inr r → (fun (x4, M) => Rc X d 99 92 [some (.ref (0)), none, none, none, none] [] M v M') r) → (fun (x4, M) => Rc X d 99 40 [some (.ref (0)), some (.long (w1)), none, some (.int (x3)), some (.int (x4))] [] M v M') s := by
  rintro ⟨x4, M⟩ o h hP hE
  show Rc X d 99 40 [some (.ref (0)), some (.long (w1)), none, some (.int (x3)), some (.int (x4))] [] M v M'
  obtain ⟨d, rfl⟩ : ∃ e, d = e + 1 := ⟨d - 1, by omega⟩
  unfold B_99_40 at h
  dsimp only at h hP hE
  refine Rc.run tb_99 2 (pc' := 43) (ls' := [some (.ref (0)), some (.long (w1)), none, some (.int (x3)), some (.int (x4))]) (st' := [.int (x3), .int (x4)]) rfl rfl ?_
  refine Rc.icmp_ge (pc1 := 92) tb_99 rfl rfl (by decide) (by decide) (fun hb3 => ?_) (fun hb3 => ?_)
  · rw [if_pos hb3] at h
    refine Rc.mask (b := 1) ((tb_99.2 92).trans rfl) (ls' := [some (.ref (0)), none, none, none, none]) rfl ?_
    obtain rfl := Option.some.inj h
    exact hE _ rfl
  · rw [if_neg hb3] at h
    refine Rc.run tb_99 1 (pc' := 47) (ls' := [some (.ref (0)), some (.long (w1)), none, some (.int (x3)), some (.int (x4))]) (st' := [.ref (0)]) rfl rfl ?_
    refine Rc.getR tb_99 rfl rfl ob_0 (by decide +kernel) tg_0_0 (by decide) ?_
    refine Rc.getR tb_99 rfl rfl (VilH.ob vh_1) (by decide +kernel) (VilH.f3 vh_1) (by decide) ?_
    refine Rc.run tb_99 1 (pc' := 54) (ls' := [some (.ref (0)), some (.long (w1)), none, some (.int (x3)), some (.int (x4))]) (st' := [.ref (0), .ref (4)]) rfl rfl ?_
    refine Rc.getR tb_99 rfl rfl ob_0 (by decide +kernel) tg_0_0 (by decide) ?_
    refine Rc.getI tb_99 rfl rfl (VilH.ob vh_1) (by decide +kernel) (VilH.f4 vh_1) ?_
    refine Rc.run tb_99 8 (pc' := 72) (ls' := [some (.ref (0)), some (.long (w1)), none, some (.int (x3)), some (.int (x4))]) (st' := [.int ((((w1.toUInt64 >>> ((8 * x4 : Int32).toInt64.toUInt64 &&& Int64.toUInt64 63)).toInt64).toInt32) &&& 255), .int (M 1 4), .ref (4)]) rfl rfl ?_
    by_cases hb2 : inb (M 1 4) 50 = true
    · rw [if_pos hb2] at h
      refine Rc.iast tb_99 rfl rfl ia_4 hb2 ?_
      refine Rc.run tb_99 1 (pc' := 74) (ls' := [some (.ref (0)), some (.long (w1)), none, some (.int (x3)), some (.int (x4))]) (st' := [.ref (0)]) rfl rfl ?_
      refine Rc.getR tb_99 rfl rfl ob_0 (by decide +kernel) tg_0_0 (by decide) ?_
      refine Rc.run tb_99 1 (pc' := 78) (ls' := [some (.ref (0)), some (.long (w1)), none, some (.int (x3)), some (.int (x4))]) (st' := [.ref (1), .ref (1)]) rfl rfl ?_
      refine Rc.getI tb_99 rfl rfl (VilH.ob vh_1) (by decide +kernel) (VilH.f4 vh_1) ?_
      refine Rc.run tb_99 2 (pc' := 83) (ls' := [some (.ref (0)), some (.long (w1)), none, some (.int (x3)), some (.int (x4))]) (st' := [.int (((iset M 4 (M 1 4).toNatClampNeg ((((w1.toUInt64 >>> ((8 * x4 : Int32).toInt64.toUInt64 &&& Int64.toUInt64 63)).toInt64).toInt32) &&& 255)) 1 4) + 1), .ref (1)]) rfl rfl ?_
      refine Rc.putI tb_99 rfl rfl (VilH.ob vh_1) (by decide +kernel) (VilH.f4 vh_1) rfl ?_
      refine Rc.run tb_99 2 (pc' := 40) (ls' := [some (.ref (0)), some (.long (w1)), none, some (.int (x3)), some (.int (x4 + 1))]) (st' := []) rfl rfl ?_
      refine Rc.mask (b := 27) ((tb_99.2 40).trans rfl) (ls' := [some (.ref (0)), some (.long (w1)), none, some (.int (x3)), some (.int (x4 + 1))]) rfl ?_
      obtain rfl := Option.some.inj h
      exact hP _ rfl
    · rw [if_neg hb2] at h
      cases h
theorem TL_99_40 {X : AX} {d : Nat} (hd : 1 ≤ d) {w1 : Int64} {x3 : Int32} {x4 : Int32} {M : IM} {v : Option Value} {M' : IM} {r : Int32 × IM} (h : L_99_40 w1 x3 x4 M = some r) (hE : (fun (x4, M) => Rc X d 99 92 [some (.ref (0)), none, none, none, none] [] M v M') r) : Rc X d 99 40 [some (.ref (0)), some (.long (w1)), none, some (.int (x3)), some (.int (x4))] [] M v M' := by
  exact loopN_rc (P := fun (x4, M) => Rc X d 99 40 [some (.ref (0)), some (.long (w1)), none, some (.int (x3)), some (.int (x4))] [] M v M') (E := fun (x4, M) => Rc X d 99 92 [some (.ref (0)), none, none, none, none] [] M v M') (TB_99_40 (X := X) hd) FU _ r h hE
theorem TJ_99_92 {X : AX} {d : Nat} (hd : 1 ≤ d) {M : IM} {v : Option Value} {M' : IM} {o : Int32 × IM} (h : J_99_92 M = some o) (hC : v = some (.int o.1) ∧ M' = o.2) : Rc X d 99 92 [some (.ref (0)), none, none, none, none] [] M v M' := by
  obtain ⟨d, rfl⟩ : ∃ e, d = e + 1 := ⟨d - 1, by omega⟩
  unfold J_99_92 at h
  refine Rc.run tb_99 1 (pc' := 93) (ls' := [some (.ref (0)), none, none, none, none]) (st' := [.ref (0)]) rfl rfl ?_
  refine Rc.getR tb_99 rfl rfl ob_0 (by decide +kernel) tg_0_0 (by decide) ?_
  refine Rc.getI tb_99 rfl rfl (VilH.ob vh_1) (by decide +kernel) (VilH.f4 vh_1) ?_
  obtain rfl := Option.some.inj h
  obtain ⟨rfl, rfl⟩ := hC
  exact Rc.iret (ins := .ireturn) tb_99 rfl mR_99
theorem TF_99 {X : AX} {d : Nat} (hd : 1 ≤ d) {a1 : Int64} {a2 : Int32} {M : IM} {v : Option Value} {M' : IM} {o : Int32 × IM} (h : F_99 a1 a2 M = some o) (hC : v = some (.int o.1) ∧ M' = o.2) : Rc X d 99 0 [some (.ref (0)), some (.long (a1)), none, some (.int (a2)), none] [] M v M' := by
  obtain ⟨d, rfl⟩ : ∃ e, d = e + 1 := ⟨d - 1, by omega⟩
  unfold F_99 at h
  refine Rc.run tb_99 2 (pc' := 2) (ls' := [some (.ref (0)), some (.long (a1)), none, some (.int (a2)), none]) (st' := [.int (1), .int (a2)]) rfl rfl ?_
  refine Rc.icmp_lt (pc1 := 11) tb_99 rfl rfl (by decide) (by decide) (fun hb8 => ?_) (fun hb8 => ?_)
  · rw [if_pos hb8] at h
    refine Rc.mask (b := 1) ((tb_99.2 11).trans rfl) (ls' := [some (.ref (0)), none, none, none, none]) rfl ?_
    exact TJ_99_11 (X := X) (d := d + 1) (by omega) h hC
  · rw [if_neg hb8] at h
    refine Rc.run tb_99 2 (pc' := 8) (ls' := [some (.ref (0)), some (.long (a1)), none, some (.int (a2)), none]) (st' := [.int (8), .int (a2)]) rfl rfl ?_
    refine Rc.icmp_le (pc1 := 17) tb_99 rfl rfl (by decide) (by decide) (fun hb7 => ?_) (fun hb7 => ?_)
    · rw [if_pos hb7] at h
      refine Rc.run tb_99 1 (pc' := 18) (ls' := [some (.ref (0)), some (.long (a1)), none, some (.int (a2)), none]) (st' := [.ref (0)]) rfl rfl ?_
      refine Rc.getR tb_99 rfl rfl ob_0 (by decide +kernel) tg_0_0 (by decide) ?_
      refine Rc.getI tb_99 rfl rfl (VilH.ob vh_1) (by decide +kernel) (VilH.f4 vh_1) ?_
      refine Rc.run tb_99 3 (pc' := 28) (ls' := [some (.ref (0)), some (.long (a1)), none, some (.int (a2)), none]) (st' := [.int (50), .int ((M 1 4) + a2)]) rfl rfl ?_
      refine Rc.icmp_le (pc1 := 37) tb_99 rfl rfl (by decide) (by decide) (fun hb6 => ?_) (fun hb6 => ?_)
      · rw [if_pos hb6] at h
        refine Rc.run tb_99 2 (pc' := 40) (ls' := [some (.ref (0)), some (.long (a1)), none, some (.int (a2)), some (.int (0))]) (st' := []) rfl rfl ?_
        refine Rc.mask (b := 27) ((tb_99.2 40).trans rfl) (ls' := [some (.ref (0)), some (.long (a1)), none, some (.int (a2)), some (.int (0))]) rfl ?_
        cases hl4 : L_99_40 a1 a2 0 M with
        | none => rw [hl4] at h; cases h
        | some r4 =>
          obtain ⟨x4_4, M4⟩ := r4
          rw [hl4] at h
          dsimp only at h
          refine TL_99_40 (X := X) (d := d + 1) (by omega) hl4 ?_
          refine Rc.mask (b := 1) ((tb_99.2 92).trans rfl) (ls' := [some (.ref (0)), none, none, none, none]) rfl ?_
          exact TJ_99_92 (X := X) (d := d + 1) (by omega) h hC
      · rw [if_neg hb6] at h
        refine Rc.run tb_99 2 (pc' := 33) (ls' := [some (.ref (0)), some (.long (a1)), none, some (.int (a2)), none]) (st' := [.int (4), .ref (0)]) rfl rfl ?_
        cases hc5 : F_132 (4 : Int32) M with
        | none => rw [hc5] at h; cases h
        | some r5 =>
          obtain ⟨c5, M5⟩ := r5
          rw [hc5] at h
          dsimp only at h
          have hq5 := T_132 (X := X) (d := d) (by omega) (M := M) hc5
          refine Rc.callV tb_99 rfl rfl rfl mS_132 mP_132 mL_132 mO_132 rfl rfl ob_0 rfl rfl hq5 ?_
          obtain rfl := Option.some.inj h
          obtain ⟨rfl, rfl⟩ := hC
          exact Rc.iret (ins := .ireturn) tb_99 rfl mR_99
    · rw [if_neg hb7] at h
      refine Rc.mask (b := 1) ((tb_99.2 11).trans rfl) (ls' := [some (.ref (0)), none, none, none, none]) rfl ?_
      exact TJ_99_11 (X := X) (d := d + 1) (by omega) h hC
theorem T_99 {X : AX} {d : Nat} (hd : 1 ≤ d) {a1 : Int64} {a2 : Int32} {M : IM} {x : Int32} {M1 : IM} (h : F_99 a1 a2 M = some (x, M1)) : Rc X d 99 0 [some (.ref (0)), some (.long (a1)), none, some (.int (a2)), none] [] M (some (.int x)) M1 := TF_99 hd h ⟨rfl, rfl⟩
/-! 138: NineDemands.isPrice -/
def F_138 (a1 : Int32) : Int32 := if a1 < 0 then 0 else (if (99 : Int32) < a1 then 0 else 1)
theorem TF_138 {X : AX} {d : Nat} (hd : 0 ≤ d) {a1 : Int32} {M : IM} {v : Option Value} {M' : IM} {o : Int32} (h : F_138 a1 = o) (hC : v = some (.int o) ∧ M' = M) : Rc X d 138 0 [some (.int (a1))] [] M v M' := by
  unfold F_138 at h
  refine Rc.run tb_138 1 (pc' := 1) (ls' := [some (.int (a1))]) (st' := [.int (a1)]) rfl rfl ?_
  refine Rc.if_lt (pc1 := 14) tb_138 rfl rfl (by decide) (by decide) (fun hb2 => ?_) (fun hb2 => ?_)
  · rw [if_pos hb2] at h
    refine Rc.run tb_138 1 (pc' := 15) (ls' := [none]) (st' := [.int (0)]) rfl rfl ?_
    subst h
    obtain ⟨rfl, rfl⟩ := hC
    exact Rc.zret tb_138 rfl mR_138 (Or.inl rfl)
  · rw [if_neg hb2] at h
    refine Rc.run tb_138 2 (pc' := 7) (ls' := [some (.int (a1))]) (st' := [.int (99), .int (a1)]) rfl rfl ?_
    refine Rc.icmp_gt (pc1 := 14) tb_138 rfl rfl (by decide) (by decide) (fun hb1 => ?_) (fun hb1 => ?_)
    · rw [if_pos hb1] at h
      refine Rc.run tb_138 1 (pc' := 15) (ls' := [none]) (st' := [.int (0)]) rfl rfl ?_
      subst h
      obtain ⟨rfl, rfl⟩ := hC
      exact Rc.zret tb_138 rfl mR_138 (Or.inl rfl)
    · rw [if_neg hb1] at h
      refine Rc.run tb_138 2 (pc' := 15) (ls' := [some (.int (a1))]) (st' := [.int (1)]) rfl rfl ?_
      subst h
      obtain ⟨rfl, rfl⟩ := hC
      exact Rc.zret tb_138 rfl mR_138 (Or.inr rfl)
theorem T_138 {X : AX} {d : Nat} (hd : 0 ≤ d) (a1 : Int32) (M : IM) : Rc X d 138 0 [some (.int (a1))] [] M (some (.int (F_138 a1))) M := TF_138 hd rfl ⟨rfl, rfl⟩
/-! 140: NineDemands.hasText -/
def F_140 (a1 : Int32) : Int32 := if a1 = 0 then 1 else (if a1 = 1 then 1 else (if a1 = 4 then 1 else 0))
theorem TF_140 {X : AX} {d : Nat} (hd : 0 ≤ d) {a1 : Int32} {M : IM} {v : Option Value} {M' : IM} {o : Int32} (h : F_140 a1 = o) (hC : v = some (.int o) ∧ M' = M) : Rc X d 140 0 [some (.int (a1))] [] M v M' := by
  unfold F_140 at h
  refine Rc.run tb_140 1 (pc' := 1) (ls' := [some (.int (a1))]) (st' := [.int (a1)]) rfl rfl ?_
  refine Rc.if_eq (pc1 := 14) tb_140 rfl rfl (by decide) (by decide) (fun hb3 => ?_) (fun hb3 => ?_)
  · rw [if_pos hb3] at h
    refine Rc.run tb_140 2 (pc' := 19) (ls' := [none]) (st' := [.int (1)]) rfl rfl ?_
    subst h
    obtain ⟨rfl, rfl⟩ := hC
    exact Rc.zret tb_140 rfl mR_140 (Or.inr rfl)
  · rw [if_neg hb3] at h
    refine Rc.run tb_140 2 (pc' := 6) (ls' := [some (.int (a1))]) (st' := [.int (1), .int (a1)]) rfl rfl ?_
    refine Rc.icmp_eq (pc1 := 14) tb_140 rfl rfl (by decide) (by decide) (fun hb2 => ?_) (fun hb2 => ?_)
    · rw [if_pos hb2] at h
      refine Rc.run tb_140 2 (pc' := 19) (ls' := [none]) (st' := [.int (1)]) rfl rfl ?_
      subst h
      obtain ⟨rfl, rfl⟩ := hC
      exact Rc.zret tb_140 rfl mR_140 (Or.inr rfl)
    · rw [if_neg hb2] at h
      refine Rc.run tb_140 2 (pc' := 11) (ls' := [some (.int (a1))]) (st' := [.int (4), .int (a1)]) rfl rfl ?_
      refine Rc.icmp_ne (pc1 := 18) tb_140 rfl rfl (by decide) (by decide) (fun hb1 => ?_) (fun hb1 => ?_)
      · rw [if_pos hb1] at h
        refine Rc.run tb_140 2 (pc' := 19) (ls' := [none]) (st' := [.int (1)]) rfl rfl ?_
        subst h
        obtain ⟨rfl, rfl⟩ := hC
        exact Rc.zret tb_140 rfl mR_140 (Or.inr rfl)
      · rw [if_neg hb1] at h
        refine Rc.run tb_140 1 (pc' := 19) (ls' := [some (.int (a1))]) (st' := [.int (0)]) rfl rfl ?_
        subst h
        obtain ⟨rfl, rfl⟩ := hC
        exact Rc.zret tb_140 rfl mR_140 (Or.inl rfl)
theorem T_140 {X : AX} {d : Nat} (hd : 0 ≤ d) (a1 : Int32) (M : IM) : Rc X d 140 0 [some (.int (a1))] [] M (some (.int (F_140 a1))) M := TF_140 hd rfl ⟨rfl, rfl⟩
/-! 145: NineDemands.pairsOf -/
def F_145 (a1 : Int32) (a2 : Int32) (M : IM) : Option (Int32 × IM) := if a1 = 2 then (some ((273, M))) else (if a1 = 3 then (some ((266, M))) else (if a1 = 5 then (some ((63, M))) else (match F_74 a1 a2 M with | none => none | some (c1, M1) => (some ((c1, M1))))))
theorem TF_145 {X : AX} {d : Nat} (hd : 6 ≤ d) {a1 : Int32} {a2 : Int32} {M : IM} {v : Option Value} {M' : IM} {o : Int32 × IM} (h : F_145 a1 a2 M = some o) (hC : v = some (.int o.1) ∧ M' = o.2) : Rc X d 145 0 [some (.ref (0)), some (.int (a1)), some (.int (a2))] [] M v M' := by
  obtain ⟨d, rfl⟩ : ∃ e, d = e + 1 := ⟨d - 1, by omega⟩
  unfold F_145 at h
  refine Rc.run tb_145 1 (pc' := 1) (ls' := [some (.ref (0)), some (.int (a1)), some (.int (a2))]) (st' := [.int (a1)]) rfl rfl ?_
  by_cases hk2 : a1 = 2
  · rw [if_pos hk2] at h
    refine Rc.table (off := 31) (pc1 := 32) tb_145 rfl rfl (by decide) (tsw_at (k := 2) (by rw [hk2]; decide) (by decide +kernel)) (by decide) (by decide) ?_
    refine Rc.run tb_145 1 (pc' := 35) (ls' := [some (.ref (0)), some (.int (a1)), some (.int (a2))]) (st' := [.int (273)]) rfl rfl ?_
    obtain rfl := Option.some.inj h
    obtain ⟨rfl, rfl⟩ := hC
    exact Rc.iret (ins := .ireturn) tb_145 rfl mR_145
  · rw [if_neg hk2] at h
    by_cases hk3 : a1 = 3
    · rw [if_pos hk3] at h
      refine Rc.table (off := 35) (pc1 := 36) tb_145 rfl rfl (by decide) (tsw_at (k := 3) (by rw [hk3]; decide) (by decide +kernel)) (by decide) (by decide) ?_
      refine Rc.run tb_145 1 (pc' := 39) (ls' := [some (.ref (0)), some (.int (a1)), some (.int (a2))]) (st' := [.int (266)]) rfl rfl ?_
      obtain rfl := Option.some.inj h
      obtain ⟨rfl, rfl⟩ := hC
      exact Rc.iret (ins := .ireturn) tb_145 rfl mR_145
    · rw [if_neg hk3] at h
      by_cases hk4 : a1 = 5
      · rw [if_pos hk4] at h
        refine Rc.table (off := 39) (pc1 := 40) tb_145 rfl rfl (by decide) (tsw_at (k := 5) (by rw [hk4]; decide) (by decide +kernel)) (by decide) (by decide) ?_
        refine Rc.run tb_145 1 (pc' := 42) (ls' := [some (.ref (0)), some (.int (a1)), some (.int (a2))]) (st' := [.int (63)]) rfl rfl ?_
        obtain rfl := Option.some.inj h
        obtain ⟨rfl, rfl⟩ := hC
        exact Rc.iret (ins := .ireturn) tb_145 rfl mR_145
      · rw [if_neg hk4] at h
        refine Rc.table (off := 42) (pc1 := 43) tb_145 rfl rfl (by decide) (tsw_df [2, 3, 5] (by decide +kernel) (fun k hk => by simp only [List.mem_cons, List.not_mem_nil, or_false] at hk; rcases hk with rfl | rfl | rfl <;> assumption)) (by decide) (by decide) ?_
        refine Rc.run tb_145 1 (pc' := 44) (ls' := [some (.ref (0)), some (.int (a1)), some (.int (a2))]) (st' := [.ref (0)]) rfl rfl ?_
        refine Rc.getR tb_145 rfl rfl ob_0 (by decide +kernel) tg_0_5 (by decide) ?_
        refine Rc.run tb_145 2 (pc' := 49) (ls' := [some (.ref (0)), some (.int (a1)), some (.int (a2))]) (st' := [.int (a2), .int (a1), .ref (45)]) rfl rfl ?_
        cases hc1 : F_74 a1 a2 M with
        | none => rw [hc1] at h; cases h
        | some r1 =>
          obtain ⟨c1, M1⟩ := r1
          rw [hc1] at h
          dsimp only at h
          have hq1 := T_74 (X := X) (d := d) (by omega) (M := M) hc1
          refine Rc.callV tb_145 rfl rfl rfl mS_74 mP_74 mL_74 mO_74 rfl rfl ob_45 rfl rfl hq1 ?_
          obtain rfl := Option.some.inj h
          obtain ⟨rfl, rfl⟩ := hC
          exact Rc.iret (ins := .ireturn) tb_145 rfl mR_145
theorem T_145 {X : AX} {d : Nat} (hd : 6 ≤ d) {a1 : Int32} {a2 : Int32} {M : IM} {x : Int32} {M1 : IM} (h : F_145 a1 a2 M = some (x, M1)) : Rc X d 145 0 [some (.ref (0)), some (.int (a1)), some (.int (a2))] [] M (some (.int x)) M1 := TF_145 hd h ⟨rfl, rfl⟩
/-! 133: NineDemands.isLaw -/
def F_133 (a1 : Int32) (M : IM) : Int32 := if a1 < 0 then 0 else (if M 1 2 ≤ a1 then 0 else 1)
theorem TF_133 {X : AX} {d : Nat} (hd : 0 ≤ d) {a1 : Int32} {M : IM} {v : Option Value} {M' : IM} {o : Int32} (h : F_133 a1 M = o) (hC : v = some (.int o) ∧ M' = M) : Rc X d 133 0 [some (.ref (0)), some (.int (a1))] [] M v M' := by
  unfold F_133 at h
  refine Rc.run tb_133 1 (pc' := 1) (ls' := [some (.ref (0)), some (.int (a1))]) (st' := [.int (a1)]) rfl rfl ?_
  refine Rc.if_lt (pc1 := 19) tb_133 rfl rfl (by decide) (by decide) (fun hb2 => ?_) (fun hb2 => ?_)
  · rw [if_pos hb2] at h
    refine Rc.run tb_133 1 (pc' := 20) (ls' := [none, none]) (st' := [.int (0)]) rfl rfl ?_
    subst h
    obtain ⟨rfl, rfl⟩ := hC
    exact Rc.zret tb_133 rfl mR_133 (Or.inl rfl)
  · rw [if_neg hb2] at h
    refine Rc.run tb_133 2 (pc' := 6) (ls' := [some (.ref (0)), some (.int (a1))]) (st' := [.ref (0), .int (a1)]) rfl rfl ?_
    refine Rc.getR tb_133 rfl rfl ob_0 (by decide +kernel) tg_0_0 (by decide) ?_
    refine Rc.getI tb_133 rfl rfl (VilH.ob vh_1) (by decide +kernel) (VilH.f2 vh_1) ?_
    refine Rc.icmp_ge (pc1 := 19) tb_133 rfl rfl (by decide) (by decide) (fun hb1 => ?_) (fun hb1 => ?_)
    · rw [if_pos hb1] at h
      refine Rc.run tb_133 1 (pc' := 20) (ls' := [none, none]) (st' := [.int (0)]) rfl rfl ?_
      subst h
      obtain ⟨rfl, rfl⟩ := hC
      exact Rc.zret tb_133 rfl mR_133 (Or.inl rfl)
    · rw [if_neg hb1] at h
      refine Rc.run tb_133 2 (pc' := 20) (ls' := [some (.ref (0)), some (.int (a1))]) (st' := [.int (1)]) rfl rfl ?_
      subst h
      obtain ⟨rfl, rfl⟩ := hC
      exact Rc.zret tb_133 rfl mR_133 (Or.inr rfl)
theorem T_133 {X : AX} {d : Nat} (hd : 0 ≤ d) (a1 : Int32) (M : IM) : Rc X d 133 0 [some (.ref (0)), some (.int (a1))] [] M (some (.int (F_133 a1 M))) M := TF_133 hd rfl ⟨rfl, rfl⟩
/-! 101: NineDemands.price -/
def J_101_15 (M : IM) : Option (Int32 × IM) := (match F_132 (1 : Int32) M with | none => none | some (c2, M2) => (some ((c2, M2))))
def F_101 (a1 : Int32) (a2 : Int32) (M : IM) : Option (Int32 × IM) := if F_133 a1 M = 0 then (J_101_15 M) else (if F_138 a2 = 0 then (J_101_15 M) else (if inb a1 8 = true then (if inb a1 8 = true then (some ((M (6 + 2 * a1.toNatClampNeg) 1, iset M (6 + 2 * a1.toNatClampNeg) 1 a2))) else none) else none))
theorem TJ_101_15 {X : AX} {d : Nat} (hd : 1 ≤ d) {M : IM} {v : Option Value} {M' : IM} {o : Int32 × IM} (h : J_101_15 M = some o) (hC : v = some (.int o.1) ∧ M' = o.2) : Rc X d 101 15 [some (.ref (0)), none, none, none] [] M v M' := by
  obtain ⟨d, rfl⟩ : ∃ e, d = e + 1 := ⟨d - 1, by omega⟩
  unfold J_101_15 at h
  refine Rc.run tb_101 2 (pc' := 17) (ls' := [some (.ref (0)), none, none, none]) (st' := [.int (1), .ref (0)]) rfl rfl ?_
  cases hc2 : F_132 (1 : Int32) M with
  | none => rw [hc2] at h; cases h
  | some r2 =>
    obtain ⟨c2, M2⟩ := r2
    rw [hc2] at h
    dsimp only at h
    have hq2 := T_132 (X := X) (d := d) (by omega) (M := M) hc2
    refine Rc.callV tb_101 rfl rfl rfl mS_132 mP_132 mL_132 mO_132 rfl rfl ob_0 rfl rfl hq2 ?_
    obtain rfl := Option.some.inj h
    obtain ⟨rfl, rfl⟩ := hC
    exact Rc.iret (ins := .ireturn) tb_101 rfl mR_101
theorem TF_101 {X : AX} {d : Nat} (hd : 1 ≤ d) {a1 : Int32} {a2 : Int32} {M : IM} {v : Option Value} {M' : IM} {o : Int32 × IM} (h : F_101 a1 a2 M = some o) (hC : v = some (.int o.1) ∧ M' = o.2) : Rc X d 101 0 [some (.ref (0)), some (.int (a1)), some (.int (a2)), none] [] M v M' := by
  obtain ⟨d, rfl⟩ : ∃ e, d = e + 1 := ⟨d - 1, by omega⟩
  unfold F_101 at h
  refine Rc.run tb_101 2 (pc' := 2) (ls' := [some (.ref (0)), some (.int (a1)), some (.int (a2)), none]) (st' := [.int (a1), .ref (0)]) rfl rfl ?_
  have hq1 := T_133 (X := X) (d := d) (by omega) a1 M
  have hz1 := Rc.bool mR_133 hq1
  refine Rc.callV tb_101 rfl rfl rfl mS_133 mP_133 mL_133 mO_133 rfl rfl ob_0 rfl rfl hq1 ?_
  refine Rc.if_eq (pc1 := 15) tb_101 rfl rfl (by decide) (by decide) (fun hb7 => ?_) (fun hb7 => ?_)
  · rw [if_pos hb7] at h
    refine Rc.mask (b := 1) ((tb_101.2 15).trans rfl) (ls' := [some (.ref (0)), none, none, none]) rfl ?_
    exact TJ_101_15 (X := X) (d := d + 1) (by omega) h hC
  · rw [if_neg hb7] at h
    refine Rc.run tb_101 1 (pc' := 9) (ls' := [some (.ref (0)), some (.int (a1)), some (.int (a2)), none]) (st' := [.int (a2)]) rfl rfl ?_
    have hq3 := T_138 (X := X) (d := d) (by omega) a2 M
    have hz3 := Rc.bool mR_138 hq3
    refine Rc.callS tb_101 rfl rfl rfl mS_138 mP_138 mL_138 rfl rfl rfl hq3 ?_
    refine Rc.if_ne (pc1 := 21) tb_101 rfl rfl (by decide) (by decide) (fun hb6 => ?_) (fun hb6 => ?_)
    · rw [if_pos hb6] at h
      refine Rc.mask (b := 1) ((tb_101.2 15).trans rfl) (ls' := [some (.ref (0)), none, none, none]) rfl ?_
      exact TJ_101_15 (X := X) (d := d + 1) (by omega) h hC
    · rw [if_neg hb6] at h
      refine Rc.run tb_101 1 (pc' := 22) (ls' := [some (.ref (0)), some (.int (a1)), some (.int (a2)), none]) (st' := [.ref (0)]) rfl rfl ?_
      refine Rc.getR tb_101 rfl rfl ob_0 (by decide +kernel) tg_0_0 (by decide) ?_
      refine Rc.getR tb_101 rfl rfl (VilH.ob vh_1) (by decide +kernel) (VilH.f1 vh_1) (by decide) ?_
      refine Rc.run tb_101 1 (pc' := 29) (ls' := [some (.ref (0)), some (.int (a1)), some (.int (a2)), none]) (st' := [.int (a1), .ref (3)]) rfl rfl ?_
      by_cases hb4 : inb a1 8 = true
      · rw [if_pos hb4] at h
        refine Rc.aald tb_101 rfl rfl (by decide) (Or.inl (by decide +kernel)) (by rw [ln_3]; exact hb4) (la_3 hb4) (by have := lawEl_1 hb4; exact LawH.lt0 this) ?_
        refine Rc.getI tb_101 rfl rfl (LawH.ob (lawEl_1 hb4)) (by decide +kernel) (LawH.f1 (lawEl_1 hb4)) ?_
        refine Rc.run tb_101 2 (pc' := 35) (ls' := [some (.ref (0)), some (.int (a1)), some (.int (a2)), some (.int (M (6 + 2 * a1.toNatClampNeg) 1))]) (st' := [.ref (0)]) rfl rfl ?_
        refine Rc.getR tb_101 rfl rfl ob_0 (by decide +kernel) tg_0_0 (by decide) ?_
        refine Rc.getR tb_101 rfl rfl (VilH.ob vh_1) (by decide +kernel) (VilH.f1 vh_1) (by decide) ?_
        refine Rc.run tb_101 1 (pc' := 42) (ls' := [some (.ref (0)), some (.int (a1)), some (.int (a2)), some (.int (M (6 + 2 * a1.toNatClampNeg) 1))]) (st' := [.int (a1), .ref (3)]) rfl rfl ?_
        by_cases hb5 : inb a1 8 = true
        · rw [if_pos hb5] at h
          refine Rc.aald tb_101 rfl rfl (by decide) (Or.inl (by decide +kernel)) (by rw [ln_3]; exact hb5) (la_3 hb5) (by have := lawEl_1 hb5; exact LawH.lt0 this) ?_
          refine Rc.run tb_101 1 (pc' := 44) (ls' := [some (.ref (0)), some (.int (a1)), some (.int (a2)), some (.int (M (6 + 2 * a1.toNatClampNeg) 1))]) (st' := [.int (a2), .ref ((6 + 2 * a1.toNatClampNeg))]) rfl rfl ?_
          refine Rc.putI tb_101 rfl rfl (LawH.ob (lawEl_1 hb5)) (by decide +kernel) (LawH.f1 (lawEl_1 hb5)) rfl ?_
          refine Rc.run tb_101 1 (pc' := 48) (ls' := [some (.ref (0)), some (.int (a1)), some (.int (a2)), some (.int (M (6 + 2 * a1.toNatClampNeg) 1))]) (st' := [.int (M (6 + 2 * a1.toNatClampNeg) 1)]) rfl rfl ?_
          obtain rfl := Option.some.inj h
          obtain ⟨rfl, rfl⟩ := hC
          exact Rc.iret (ins := .ireturn) tb_101 rfl mR_101
        · rw [if_neg hb5] at h
          cases h
      · rw [if_neg hb4] at h
        cases h
theorem T_101 {X : AX} {d : Nat} (hd : 1 ≤ d) {a1 : Int32} {a2 : Int32} {M : IM} {x : Int32} {M1 : IM} (h : F_101 a1 a2 M = some (x, M1)) : Rc X d 101 0 [some (.ref (0)), some (.int (a1)), some (.int (a2)), none] [] M (some (.int x)) M1 := TF_101 hd h ⟨rfl, rfl⟩
/-! 141: NineDemands.isUnder -/
def B_141_4 (x1 : Int32) : (Int32 × Int32) → Option ((Int32 × Int32) ⊕ (Int32 × Int32)) := fun (x2, x3) => if (6 : Int32) ≤ x3 then (some (Sum.inr (x2, x3))) else (if x2 = x1 then (some (Sum.inr (x2, x3))) else (if x2 = 0 then (some (Sum.inr (x2, x3))) else (if inb x2 6 = true then (some (Sum.inl (sT 4 x2.toNatClampNeg, x3 + 1))) else none)))
def L_141_4 (x1 : Int32) (x2 : Int32) (x3 : Int32) : Option (Int32 × Int32) := loopN (B_141_4 x1) FU (x2, x3)
def J_141_31 (x1 : Int32) (x2 : Int32) : Option (Int32) := if x2 = x1 then (some (1)) else (some (0))
def F_141 (a1 : Int32) (a2 : Int32) : Option (Int32) := (match L_141_4 a2 a1 0 with | none => none | some (x2_5, x3_5) => (J_141_31 a2 x2_5))
theorem TB_141_4 {X : AX} {d : Nat} (hd : 0 ≤ d) {x1 : Int32} {M : IM} {v : Option Value} {M' : IM} : ∀ (s : Int32 × Int32) (o : (Int32 × Int32) ⊕ (Int32 × Int32)), B_141_4 x1 s = some o → (∀ s', o = .inl s' → (fun (x2, x3) => Rc X d 141 4 [none, some (.int (x1)), some (.int (x2)), some (.int (x3))] [] M v M') s') → (∀ r, o = .inr r → (fun (x2, x3) => Rc X d 141 31 [none, some (.int (x1)), some (.int (x2)), none] [] M v M') r) → (fun (x2, x3) => Rc X d 141 4 [none, some (.int (x1)), some (.int (x2)), some (.int (x3))] [] M v M') s := by
  rintro ⟨x2, x3⟩ o h hP hE
  show Rc X d 141 4 [none, some (.int (x1)), some (.int (x2)), some (.int (x3))] [] M v M'
  unfold B_141_4 at h
  dsimp only at h hP hE
  refine Rc.run tb_141 2 (pc' := 7) (ls' := [none, some (.int (x1)), some (.int (x2)), some (.int (x3))]) (st' := [.int (6), .int (x3)]) rfl rfl ?_
  refine Rc.icmp_ge (pc1 := 31) tb_141 rfl rfl (by decide) (by decide) (fun hb4 => ?_) (fun hb4 => ?_)
  · rw [if_pos hb4] at h
    refine Rc.mask (b := 6) ((tb_141.2 31).trans rfl) (ls' := [none, some (.int (x1)), some (.int (x2)), none]) rfl ?_
    obtain rfl := Option.some.inj h
    exact hE _ rfl
  · rw [if_neg hb4] at h
    refine Rc.run tb_141 2 (pc' := 12) (ls' := [none, some (.int (x1)), some (.int (x2)), some (.int (x3))]) (st' := [.int (x1), .int (x2)]) rfl rfl ?_
    refine Rc.icmp_eq (pc1 := 31) tb_141 rfl rfl (by decide) (by decide) (fun hb3 => ?_) (fun hb3 => ?_)
    · rw [if_pos hb3] at h
      refine Rc.mask (b := 6) ((tb_141.2 31).trans rfl) (ls' := [none, some (.int (x1)), some (.int (x2)), none]) rfl ?_
      obtain rfl := Option.some.inj h
      exact hE _ rfl
    · rw [if_neg hb3] at h
      refine Rc.run tb_141 1 (pc' := 16) (ls' := [none, some (.int (x1)), some (.int (x2)), some (.int (x3))]) (st' := [.int (x2)]) rfl rfl ?_
      refine Rc.if_eq (pc1 := 31) tb_141 rfl rfl (by decide) (by decide) (fun hb2 => ?_) (fun hb2 => ?_)
      · rw [if_pos hb2] at h
        refine Rc.mask (b := 6) ((tb_141.2 31).trans rfl) (ls' := [none, some (.int (x1)), some (.int (x2)), none]) rfl ?_
        obtain rfl := Option.some.inj h
        exact hE _ rfl
      · rw [if_neg hb2] at h
        refine Rc.run tb_141 2 (pc' := 23) (ls' := [none, some (.int (x1)), some (.int (x2)), some (.int (x3))]) (st' := [.int (x2), .ref (1004)]) rfl rfl ?_
        by_cases hb1 : inb x2 6 = true
        · rw [if_pos hb1] at h
          refine Rc.sald tb_141 rfl rfl (q := 4) (by decide) hb1 ?_
          refine Rc.run tb_141 3 (pc' := 4) (ls' := [none, some (.int (x1)), some (.int (sT 4 x2.toNatClampNeg)), some (.int (x3 + 1))]) (st' := []) rfl rfl ?_
          refine Rc.mask (b := 14) ((tb_141.2 4).trans rfl) (ls' := [none, some (.int (x1)), some (.int (sT 4 x2.toNatClampNeg)), some (.int (x3 + 1))]) rfl ?_
          obtain rfl := Option.some.inj h
          exact hP _ rfl
        · rw [if_neg hb1] at h
          cases h
theorem TL_141_4 {X : AX} {d : Nat} (hd : 0 ≤ d) {x1 : Int32} {M : IM} {x2 : Int32} {x3 : Int32} {v : Option Value} {M' : IM} {r : Int32 × Int32} (h : L_141_4 x1 x2 x3 = some r) (hE : (fun (x2, x3) => Rc X d 141 31 [none, some (.int (x1)), some (.int (x2)), none] [] M v M') r) : Rc X d 141 4 [none, some (.int (x1)), some (.int (x2)), some (.int (x3))] [] M v M' := by
  exact loopN_rc (P := fun (x2, x3) => Rc X d 141 4 [none, some (.int (x1)), some (.int (x2)), some (.int (x3))] [] M v M') (E := fun (x2, x3) => Rc X d 141 31 [none, some (.int (x1)), some (.int (x2)), none] [] M v M') (TB_141_4 (X := X) hd) FU _ r h hE
theorem TJ_141_31 {X : AX} {d : Nat} (hd : 0 ≤ d) {x1 : Int32} {x2 : Int32} {M : IM} {v : Option Value} {M' : IM} {o : Int32} (h : J_141_31 x1 x2 = some o) (hC : v = some (.int o) ∧ M' = M) : Rc X d 141 31 [none, some (.int (x1)), some (.int (x2)), none] [] M v M' := by
  unfold J_141_31 at h
  refine Rc.run tb_141 2 (pc' := 33) (ls' := [none, some (.int (x1)), some (.int (x2)), none]) (st' := [.int (x1), .int (x2)]) rfl rfl ?_
  refine Rc.icmp_ne (pc1 := 40) tb_141 rfl rfl (by decide) (by decide) (fun hb6 => ?_) (fun hb6 => ?_)
  · rw [if_pos hb6] at h
    refine Rc.run tb_141 2 (pc' := 41) (ls' := [none, some (.int (x1)), some (.int (x2)), none]) (st' := [.int (1)]) rfl rfl ?_
    obtain rfl := Option.some.inj h
    obtain ⟨rfl, rfl⟩ := hC
    exact Rc.zret tb_141 rfl mR_141 (Or.inr rfl)
  · rw [if_neg hb6] at h
    refine Rc.run tb_141 1 (pc' := 41) (ls' := [none, some (.int (x1)), some (.int (x2)), none]) (st' := [.int (0)]) rfl rfl ?_
    obtain rfl := Option.some.inj h
    obtain ⟨rfl, rfl⟩ := hC
    exact Rc.zret tb_141 rfl mR_141 (Or.inl rfl)
theorem TF_141 {X : AX} {d : Nat} (hd : 0 ≤ d) {a1 : Int32} {a2 : Int32} {M : IM} {v : Option Value} {M' : IM} {o : Int32} (h : F_141 a1 a2 = some o) (hC : v = some (.int o) ∧ M' = M) : Rc X d 141 0 [some (.int (a1)), some (.int (a2)), none, none] [] M v M' := by
  unfold F_141 at h
  refine Rc.run tb_141 4 (pc' := 4) (ls' := [some (.int (a1)), some (.int (a2)), some (.int (a1)), some (.int (0))]) (st' := []) rfl rfl ?_
  refine Rc.mask (b := 14) ((tb_141.2 4).trans rfl) (ls' := [none, some (.int (a2)), some (.int (a1)), some (.int (0))]) rfl ?_
  cases hl5 : L_141_4 a2 a1 0 with
  | none => rw [hl5] at h; cases h
  | some r5 =>
    obtain ⟨x2_5, x3_5⟩ := r5
    rw [hl5] at h
    dsimp only at h
    refine TL_141_4 (X := X) (d := d) (by omega) hl5 ?_
    refine Rc.mask (b := 6) ((tb_141.2 31).trans rfl) (ls' := [none, some (.int (a2)), some (.int (x2_5)), none]) rfl ?_
    exact TJ_141_31 (X := X) (d := d) (by omega) h hC
theorem T_141 {X : AX} {d : Nat} (hd : 0 ≤ d) {a1 : Int32} {a2 : Int32} {M : IM} {x : Int32} (h : F_141 a1 a2 = some x) : Rc X d 141 0 [some (.int (a1)), some (.int (a2)), none, none] [] M (some (.int x)) M := TF_141 hd h ⟨rfl, rfl⟩
/-! 102: NineDemands.as -/
def J_102_15 (M : IM) : Option (Int32 × IM) := (match F_132 (1 : Int32) M with | none => none | some (c2, M2) => (some ((c2, M2))))
def F_102 (a1 : Int32) (a2 : Int32) (M : IM) : Option (Int32 × IM) := if F_133 a1 M = 0 then (J_102_15 M) else (if F_137 a2 = 0 then (J_102_15 M) else (if inb a1 8 = true then (match F_141 (M (6 + 2 * a1.toNatClampNeg) 0) a2 with | none => none | some c5 => (if c5 = 0 then (match F_132 (5 : Int32) M with | none => none | some (c6, M6) => (some ((c6, M6)))) else (match F_0 (M (6 + 2 * a1.toNatClampNeg) 0) with | none => none | some c7 => (some ((c7, M)))))) else none))
theorem TJ_102_15 {X : AX} {d : Nat} (hd : 2 ≤ d) {M : IM} {v : Option Value} {M' : IM} {o : Int32 × IM} (h : J_102_15 M = some o) (hC : v = some (.int o.1) ∧ M' = o.2) : Rc X d 102 15 [some (.ref (0)), none, none, none] [] M v M' := by
  obtain ⟨d, rfl⟩ : ∃ e, d = e + 1 := ⟨d - 1, by omega⟩
  unfold J_102_15 at h
  refine Rc.run tb_102 2 (pc' := 17) (ls' := [some (.ref (0)), none, none, none]) (st' := [.int (1), .ref (0)]) rfl rfl ?_
  cases hc2 : F_132 (1 : Int32) M with
  | none => rw [hc2] at h; cases h
  | some r2 =>
    obtain ⟨c2, M2⟩ := r2
    rw [hc2] at h
    dsimp only at h
    have hq2 := T_132 (X := X) (d := d) (by omega) (M := M) hc2
    refine Rc.callV tb_102 rfl rfl rfl mS_132 mP_132 mL_132 mO_132 rfl rfl ob_0 rfl rfl hq2 ?_
    obtain rfl := Option.some.inj h
    obtain ⟨rfl, rfl⟩ := hC
    exact Rc.iret (ins := .ireturn) tb_102 rfl mR_102
theorem TF_102 {X : AX} {d : Nat} (hd : 2 ≤ d) {a1 : Int32} {a2 : Int32} {M : IM} {v : Option Value} {M' : IM} {o : Int32 × IM} (h : F_102 a1 a2 M = some o) (hC : v = some (.int o.1) ∧ M' = o.2) : Rc X d 102 0 [some (.ref (0)), some (.int (a1)), some (.int (a2)), none] [] M v M' := by
  obtain ⟨d, rfl⟩ : ∃ e, d = e + 1 := ⟨d - 1, by omega⟩
  unfold F_102 at h
  refine Rc.run tb_102 2 (pc' := 2) (ls' := [some (.ref (0)), some (.int (a1)), some (.int (a2)), none]) (st' := [.int (a1), .ref (0)]) rfl rfl ?_
  have hq1 := T_133 (X := X) (d := d) (by omega) a1 M
  have hz1 := Rc.bool mR_133 hq1
  refine Rc.callV tb_102 rfl rfl rfl mS_133 mP_133 mL_133 mO_133 rfl rfl ob_0 rfl rfl hq1 ?_
  refine Rc.if_eq (pc1 := 15) tb_102 rfl rfl (by decide) (by decide) (fun hb10 => ?_) (fun hb10 => ?_)
  · rw [if_pos hb10] at h
    refine Rc.mask (b := 1) ((tb_102.2 15).trans rfl) (ls' := [some (.ref (0)), none, none, none]) rfl ?_
    exact TJ_102_15 (X := X) (d := d + 1) (by omega) h hC
  · rw [if_neg hb10] at h
    refine Rc.run tb_102 1 (pc' := 9) (ls' := [some (.ref (0)), some (.int (a1)), some (.int (a2)), none]) (st' := [.int (a2)]) rfl rfl ?_
    have hq3 := T_137 (X := X) (d := d) (by omega) a2 M
    have hz3 := Rc.bool mR_137 hq3
    refine Rc.callS tb_102 rfl rfl rfl mS_137 mP_137 mL_137 rfl rfl rfl hq3 ?_
    refine Rc.if_ne (pc1 := 21) tb_102 rfl rfl (by decide) (by decide) (fun hb9 => ?_) (fun hb9 => ?_)
    · rw [if_pos hb9] at h
      refine Rc.mask (b := 1) ((tb_102.2 15).trans rfl) (ls' := [some (.ref (0)), none, none, none]) rfl ?_
      exact TJ_102_15 (X := X) (d := d + 1) (by omega) h hC
    · rw [if_neg hb9] at h
      refine Rc.run tb_102 1 (pc' := 22) (ls' := [some (.ref (0)), some (.int (a1)), some (.int (a2)), none]) (st' := [.ref (0)]) rfl rfl ?_
      refine Rc.getR tb_102 rfl rfl ob_0 (by decide +kernel) tg_0_0 (by decide) ?_
      refine Rc.getR tb_102 rfl rfl (VilH.ob vh_1) (by decide +kernel) (VilH.f1 vh_1) (by decide) ?_
      refine Rc.run tb_102 1 (pc' := 29) (ls' := [some (.ref (0)), some (.int (a1)), some (.int (a2)), none]) (st' := [.int (a1), .ref (3)]) rfl rfl ?_
      by_cases hb4 : inb a1 8 = true
      · rw [if_pos hb4] at h
        refine Rc.aald tb_102 rfl rfl (by decide) (Or.inl (by decide +kernel)) (by rw [ln_3]; exact hb4) (la_3 hb4) (by have := lawEl_1 hb4; exact LawH.lt0 this) ?_
        refine Rc.getI tb_102 rfl rfl (LawH.ob (lawEl_1 hb4)) (by decide +kernel) (LawH.f0 (lawEl_1 hb4)) ?_
        refine Rc.run tb_102 3 (pc' := 36) (ls' := [some (.ref (0)), some (.int (a1)), some (.int (a2)), some (.int (M (6 + 2 * a1.toNatClampNeg) 0))]) (st' := [.int (a2), .int (M (6 + 2 * a1.toNatClampNeg) 0)]) rfl rfl ?_
        cases hc5 : F_141 (M (6 + 2 * a1.toNatClampNeg) 0) a2 with
        | none => rw [hc5] at h; cases h
        | some c5 =>
          rw [hc5] at h
          dsimp only at h
          have hq5 := T_141 (X := X) (d := d) (by omega) (M := M) hc5
          have hz5 := Rc.bool mR_141 hq5
          refine Rc.callS tb_102 rfl rfl rfl mS_141 mP_141 mL_141 rfl rfl rfl hq5 ?_
          refine Rc.if_ne (pc1 := 48) tb_102 rfl rfl (by decide) (by decide) (fun hb8 => ?_) (fun hb8 => ?_)
          · rw [if_pos hb8] at h
            refine Rc.run tb_102 2 (pc' := 44) (ls' := [some (.ref (0)), some (.int (a1)), some (.int (a2)), some (.int (M (6 + 2 * a1.toNatClampNeg) 0))]) (st' := [.int (5), .ref (0)]) rfl rfl ?_
            cases hc6 : F_132 (5 : Int32) M with
            | none => rw [hc6] at h; cases h
            | some r6 =>
              obtain ⟨c6, M6⟩ := r6
              rw [hc6] at h
              dsimp only at h
              have hq6 := T_132 (X := X) (d := d) (by omega) (M := M) hc6
              refine Rc.callV tb_102 rfl rfl rfl mS_132 mP_132 mL_132 mO_132 rfl rfl ob_0 rfl rfl hq6 ?_
              obtain rfl := Option.some.inj h
              obtain ⟨rfl, rfl⟩ := hC
              exact Rc.iret (ins := .ireturn) tb_102 rfl mR_102
          · rw [if_neg hb8] at h
            refine Rc.run tb_102 1 (pc' := 49) (ls' := [some (.ref (0)), some (.int (a1)), some (.int (a2)), some (.int (M (6 + 2 * a1.toNatClampNeg) 0))]) (st' := [.int (M (6 + 2 * a1.toNatClampNeg) 0)]) rfl rfl ?_
            cases hc7 : F_0 (M (6 + 2 * a1.toNatClampNeg) 0) with
            | none => rw [hc7] at h; cases h
            | some c7 =>
              rw [hc7] at h
              dsimp only at h
              have hq7 := T_0 (X := X) (d := d) (by omega) (M := M) hc7
              refine Rc.callS tb_102 rfl rfl rfl mS_0 mP_0 mL_0 rfl rfl rfl hq7 ?_
              obtain rfl := Option.some.inj h
              obtain ⟨rfl, rfl⟩ := hC
              exact Rc.iret (ins := .ireturn) tb_102 rfl mR_102
      · rw [if_neg hb4] at h
        cases h
theorem T_102 {X : AX} {d : Nat} (hd : 2 ≤ d) {a1 : Int32} {a2 : Int32} {M : IM} {x : Int32} {M1 : IM} (h : F_102 a1 a2 M = some (x, M1)) : Rc X d 102 0 [some (.ref (0)), some (.int (a1)), some (.int (a2)), none] [] M (some (.int x)) M1 := TF_102 hd h ⟨rfl, rfl⟩
/-! 134: NineDemands.isCase -/
def F_134 (a1 : Int32) (a2 : Int32) (M : IM) : Option (Int32) := if F_133 a1 M = 0 then (some (0)) else (if a2 < 0 then (some (0)) else (if inb a1 8 = true then (match F_0 (M (6 + 2 * a1.toNatClampNeg) 0) with | none => none | some c3 => (if c3 ≤ a2 then (some (0)) else (some (1)))) else none))
theorem TF_134 {X : AX} {d : Nat} (hd : 2 ≤ d) {a1 : Int32} {a2 : Int32} {M : IM} {v : Option Value} {M' : IM} {o : Int32} (h : F_134 a1 a2 M = some o) (hC : v = some (.int o) ∧ M' = M) : Rc X d 134 0 [some (.ref (0)), some (.int (a1)), some (.int (a2))] [] M v M' := by
  obtain ⟨d, rfl⟩ : ∃ e, d = e + 1 := ⟨d - 1, by omega⟩
  unfold F_134 at h
  refine Rc.run tb_134 2 (pc' := 2) (ls' := [some (.ref (0)), some (.int (a1)), some (.int (a2))]) (st' := [.int (a1), .ref (0)]) rfl rfl ?_
  have hq1 := T_133 (X := X) (d := d) (by omega) a1 M
  have hz1 := Rc.bool mR_133 hq1
  refine Rc.callV tb_134 rfl rfl rfl mS_133 mP_133 mL_133 mO_133 rfl rfl ob_0 rfl rfl hq1 ?_
  refine Rc.if_eq (pc1 := 35) tb_134 rfl rfl (by decide) (by decide) (fun hb6 => ?_) (fun hb6 => ?_)
  · rw [if_pos hb6] at h
    refine Rc.run tb_134 1 (pc' := 36) (ls' := [none, none, none]) (st' := [.int (0)]) rfl rfl ?_
    obtain rfl := Option.some.inj h
    obtain ⟨rfl, rfl⟩ := hC
    exact Rc.zret tb_134 rfl mR_134 (Or.inl rfl)
  · rw [if_neg hb6] at h
    refine Rc.run tb_134 1 (pc' := 9) (ls' := [some (.ref (0)), some (.int (a1)), some (.int (a2))]) (st' := [.int (a2)]) rfl rfl ?_
    refine Rc.if_lt (pc1 := 35) tb_134 rfl rfl (by decide) (by decide) (fun hb5 => ?_) (fun hb5 => ?_)
    · rw [if_pos hb5] at h
      refine Rc.run tb_134 1 (pc' := 36) (ls' := [none, none, none]) (st' := [.int (0)]) rfl rfl ?_
      obtain rfl := Option.some.inj h
      obtain ⟨rfl, rfl⟩ := hC
      exact Rc.zret tb_134 rfl mR_134 (Or.inl rfl)
    · rw [if_neg hb5] at h
      refine Rc.run tb_134 2 (pc' := 14) (ls' := [some (.ref (0)), some (.int (a1)), some (.int (a2))]) (st' := [.ref (0), .int (a2)]) rfl rfl ?_
      refine Rc.getR tb_134 rfl rfl ob_0 (by decide +kernel) tg_0_0 (by decide) ?_
      refine Rc.getR tb_134 rfl rfl (VilH.ob vh_1) (by decide +kernel) (VilH.f1 vh_1) (by decide) ?_
      refine Rc.run tb_134 1 (pc' := 21) (ls' := [some (.ref (0)), some (.int (a1)), some (.int (a2))]) (st' := [.int (a1), .ref (3), .int (a2)]) rfl rfl ?_
      by_cases hb2 : inb a1 8 = true
      · rw [if_pos hb2] at h
        refine Rc.aald tb_134 rfl rfl (by decide) (Or.inl (by decide +kernel)) (by rw [ln_3]; exact hb2) (la_3 hb2) (by have := lawEl_1 hb2; exact LawH.lt0 this) ?_
        refine Rc.getI tb_134 rfl rfl (LawH.ob (lawEl_1 hb2)) (by decide +kernel) (LawH.f0 (lawEl_1 hb2)) ?_
        cases hc3 : F_0 (M (6 + 2 * a1.toNatClampNeg) 0) with
        | none => rw [hc3] at h; cases h
        | some c3 =>
          rw [hc3] at h
          dsimp only at h
          have hq3 := T_0 (X := X) (d := d) (by omega) (M := M) hc3
          refine Rc.callS tb_134 rfl rfl rfl mS_0 mP_0 mL_0 rfl rfl rfl hq3 ?_
          refine Rc.icmp_ge (pc1 := 35) tb_134 rfl rfl (by decide) (by decide) (fun hb4 => ?_) (fun hb4 => ?_)
          · rw [if_pos hb4] at h
            refine Rc.run tb_134 1 (pc' := 36) (ls' := [none, none, none]) (st' := [.int (0)]) rfl rfl ?_
            obtain rfl := Option.some.inj h
            obtain ⟨rfl, rfl⟩ := hC
            exact Rc.zret tb_134 rfl mR_134 (Or.inl rfl)
          · rw [if_neg hb4] at h
            refine Rc.run tb_134 2 (pc' := 36) (ls' := [some (.ref (0)), some (.int (a1)), some (.int (a2))]) (st' := [.int (1)]) rfl rfl ?_
            obtain rfl := Option.some.inj h
            obtain ⟨rfl, rfl⟩ := hC
            exact Rc.zret tb_134 rfl mR_134 (Or.inr rfl)
      · rw [if_neg hb2] at h
        cases h
theorem T_134 {X : AX} {d : Nat} (hd : 2 ≤ d) {a1 : Int32} {a2 : Int32} {M : IM} {x : Int32} (h : F_134 a1 a2 M = some x) : Rc X d 134 0 [some (.ref (0)), some (.int (a1)), some (.int (a2))] [] M (some (.int x)) M := TF_134 hd h ⟨rfl, rfl⟩
/-! 103: NineDemands.part -/
def J_103_18 (M : IM) : Option (Int32 × IM) := (match F_132 (1 : Int32) M with | none => none | some (c2, M2) => (some ((c2, M2))))
def F_103 (a1 : Int32) (a2 : Int32) (a3 : Int32) (M : IM) : Option (Int32 × IM) := (match F_134 a1 a2 M with | none => none | some c1 => (if c1 = 0 then (J_103_18 M) else (if a3 < 0 then (J_103_18 M) else (if a3 ≤ 1 then (if inb a1 8 = true then (if a3 = 0 then (match F_2 (M (6 + 2 * a1.toNatClampNeg) 0) a2 with | none => none | some c4 => (some ((c4, M)))) else (if F_1 (M (6 + 2 * a1.toNatClampNeg) 0) = 0 then (match F_132 (2 : Int32) M with | none => none | some (c6, M6) => (some ((c6, M6)))) else (match F_3 (M (6 + 2 * a1.toNatClampNeg) 0) a2 with | none => none | some c7 => (some ((c7, M)))))) else none) else (J_103_18 M)))))
theorem TJ_103_18 {X : AX} {d : Nat} (hd : 3 ≤ d) {M : IM} {v : Option Value} {M' : IM} {o : Int32 × IM} (h : J_103_18 M = some o) (hC : v = some (.int o.1) ∧ M' = o.2) : Rc X d 103 18 [some (.ref (0)), none, none, none, none] [] M v M' := by
  obtain ⟨d, rfl⟩ : ∃ e, d = e + 1 := ⟨d - 1, by omega⟩
  unfold J_103_18 at h
  refine Rc.run tb_103 2 (pc' := 20) (ls' := [some (.ref (0)), none, none, none, none]) (st' := [.int (1), .ref (0)]) rfl rfl ?_
  cases hc2 : F_132 (1 : Int32) M with
  | none => rw [hc2] at h; cases h
  | some r2 =>
    obtain ⟨c2, M2⟩ := r2
    rw [hc2] at h
    dsimp only at h
    have hq2 := T_132 (X := X) (d := d) (by omega) (M := M) hc2
    refine Rc.callV tb_103 rfl rfl rfl mS_132 mP_132 mL_132 mO_132 rfl rfl ob_0 rfl rfl hq2 ?_
    obtain rfl := Option.some.inj h
    obtain ⟨rfl, rfl⟩ := hC
    exact Rc.iret (ins := .ireturn) tb_103 rfl mR_103
theorem TF_103 {X : AX} {d : Nat} (hd : 3 ≤ d) {a1 : Int32} {a2 : Int32} {a3 : Int32} {M : IM} {v : Option Value} {M' : IM} {o : Int32 × IM} (h : F_103 a1 a2 a3 M = some o) (hC : v = some (.int o.1) ∧ M' = o.2) : Rc X d 103 0 [some (.ref (0)), some (.int (a1)), some (.int (a2)), some (.int (a3)), none] [] M v M' := by
  obtain ⟨d, rfl⟩ : ∃ e, d = e + 1 := ⟨d - 1, by omega⟩
  unfold F_103 at h
  refine Rc.run tb_103 3 (pc' := 3) (ls' := [some (.ref (0)), some (.int (a1)), some (.int (a2)), some (.int (a3)), none]) (st' := [.int (a2), .int (a1), .ref (0)]) rfl rfl ?_
  cases hc1 : F_134 a1 a2 M with
  | none => rw [hc1] at h; cases h
  | some c1 =>
    rw [hc1] at h
    dsimp only at h
    have hq1 := T_134 (X := X) (d := d) (by omega) (M := M) hc1
    have hz1 := Rc.bool mR_134 hq1
    refine Rc.callV tb_103 rfl rfl rfl mS_134 mP_134 mL_134 mO_134 rfl rfl ob_0 rfl rfl hq1 ?_
    refine Rc.if_eq (pc1 := 18) tb_103 rfl rfl (by decide) (by decide) (fun hb12 => ?_) (fun hb12 => ?_)
    · rw [if_pos hb12] at h
      refine Rc.mask (b := 1) ((tb_103.2 18).trans rfl) (ls' := [some (.ref (0)), none, none, none, none]) rfl ?_
      exact TJ_103_18 (X := X) (d := d + 1) (by omega) h hC
    · rw [if_neg hb12] at h
      refine Rc.run tb_103 1 (pc' := 10) (ls' := [some (.ref (0)), some (.int (a1)), some (.int (a2)), some (.int (a3)), none]) (st' := [.int (a3)]) rfl rfl ?_
      refine Rc.if_lt (pc1 := 18) tb_103 rfl rfl (by decide) (by decide) (fun hb11 => ?_) (fun hb11 => ?_)
      · rw [if_pos hb11] at h
        refine Rc.mask (b := 1) ((tb_103.2 18).trans rfl) (ls' := [some (.ref (0)), none, none, none, none]) rfl ?_
        exact TJ_103_18 (X := X) (d := d + 1) (by omega) h hC
      · rw [if_neg hb11] at h
        refine Rc.run tb_103 2 (pc' := 15) (ls' := [some (.ref (0)), some (.int (a1)), some (.int (a2)), some (.int (a3)), none]) (st' := [.int (1), .int (a3)]) rfl rfl ?_
        refine Rc.icmp_le (pc1 := 24) tb_103 rfl rfl (by decide) (by decide) (fun hb10 => ?_) (fun hb10 => ?_)
        · rw [if_pos hb10] at h
          refine Rc.run tb_103 1 (pc' := 25) (ls' := [some (.ref (0)), some (.int (a1)), some (.int (a2)), some (.int (a3)), none]) (st' := [.ref (0)]) rfl rfl ?_
          refine Rc.getR tb_103 rfl rfl ob_0 (by decide +kernel) tg_0_0 (by decide) ?_
          refine Rc.getR tb_103 rfl rfl (VilH.ob vh_1) (by decide +kernel) (VilH.f1 vh_1) (by decide) ?_
          refine Rc.run tb_103 1 (pc' := 32) (ls' := [some (.ref (0)), some (.int (a1)), some (.int (a2)), some (.int (a3)), none]) (st' := [.int (a1), .ref (3)]) rfl rfl ?_
          by_cases hb3 : inb a1 8 = true
          · rw [if_pos hb3] at h
            refine Rc.aald tb_103 rfl rfl (by decide) (Or.inl (by decide +kernel)) (by rw [ln_3]; exact hb3) (la_3 hb3) (by have := lawEl_1 hb3; exact LawH.lt0 this) ?_
            refine Rc.getI tb_103 rfl rfl (LawH.ob (lawEl_1 hb3)) (by decide +kernel) (LawH.f0 (lawEl_1 hb3)) ?_
            refine Rc.run tb_103 2 (pc' := 39) (ls' := [some (.ref (0)), some (.int (a1)), some (.int (a2)), some (.int (a3)), some (.int (M (6 + 2 * a1.toNatClampNeg) 0))]) (st' := [.int (a3)]) rfl rfl ?_
            refine Rc.if_ne (pc1 := 49) tb_103 rfl rfl (by decide) (by decide) (fun hb9 => ?_) (fun hb9 => ?_)
            · rw [if_pos hb9] at h
              refine Rc.run tb_103 2 (pc' := 45) (ls' := [some (.ref (0)), some (.int (a1)), some (.int (a2)), some (.int (a3)), some (.int (M (6 + 2 * a1.toNatClampNeg) 0))]) (st' := [.int (a2), .int (M (6 + 2 * a1.toNatClampNeg) 0)]) rfl rfl ?_
              cases hc4 : F_2 (M (6 + 2 * a1.toNatClampNeg) 0) a2 with
              | none => rw [hc4] at h; cases h
              | some c4 =>
                rw [hc4] at h
                dsimp only at h
                have hq4 := T_2 (X := X) (d := d) (by omega) (M := M) hc4
                refine Rc.callS tb_103 rfl rfl rfl mS_2 mP_2 mL_2 rfl rfl rfl hq4 ?_
                obtain rfl := Option.some.inj h
                obtain ⟨rfl, rfl⟩ := hC
                exact Rc.iret (ins := .ireturn) tb_103 rfl mR_103
            · rw [if_neg hb9] at h
              refine Rc.run tb_103 1 (pc' := 51) (ls' := [some (.ref (0)), some (.int (a1)), some (.int (a2)), some (.int (a3)), some (.int (M (6 + 2 * a1.toNatClampNeg) 0))]) (st' := [.int (M (6 + 2 * a1.toNatClampNeg) 0)]) rfl rfl ?_
              have hq5 := T_1 (X := X) (d := d) (by omega) (M (6 + 2 * a1.toNatClampNeg) 0) M
              have hz5 := Rc.bool mR_1 hq5
              refine Rc.callS tb_103 rfl rfl rfl mS_1 mP_1 mL_1 rfl rfl rfl hq5 ?_
              refine Rc.if_eq (pc1 := 66) tb_103 rfl rfl (by decide) (by decide) (fun hb8 => ?_) (fun hb8 => ?_)
              · rw [if_pos hb8] at h
                refine Rc.run tb_103 2 (pc' := 68) (ls' := [some (.ref (0)), some (.int (a1)), some (.int (a2)), some (.int (a3)), some (.int (M (6 + 2 * a1.toNatClampNeg) 0))]) (st' := [.int (2), .ref (0)]) rfl rfl ?_
                cases hc6 : F_132 (2 : Int32) M with
                | none => rw [hc6] at h; cases h
                | some r6 =>
                  obtain ⟨c6, M6⟩ := r6
                  rw [hc6] at h
                  dsimp only at h
                  have hq6 := T_132 (X := X) (d := d) (by omega) (M := M) hc6
                  refine Rc.callV tb_103 rfl rfl rfl mS_132 mP_132 mL_132 mO_132 rfl rfl ob_0 rfl rfl hq6 ?_
                  obtain rfl := Option.some.inj h
                  obtain ⟨rfl, rfl⟩ := hC
                  exact Rc.iret (ins := .ireturn) tb_103 rfl mR_103
              · rw [if_neg hb8] at h
                refine Rc.run tb_103 2 (pc' := 60) (ls' := [some (.ref (0)), some (.int (a1)), some (.int (a2)), some (.int (a3)), some (.int (M (6 + 2 * a1.toNatClampNeg) 0))]) (st' := [.int (a2), .int (M (6 + 2 * a1.toNatClampNeg) 0)]) rfl rfl ?_
                cases hc7 : F_3 (M (6 + 2 * a1.toNatClampNeg) 0) a2 with
                | none => rw [hc7] at h; cases h
                | some c7 =>
                  rw [hc7] at h
                  dsimp only at h
                  have hq7 := T_3 (X := X) (d := d) (by omega) (M := M) hc7
                  refine Rc.callS tb_103 rfl rfl rfl mS_3 mP_3 mL_3 rfl rfl rfl hq7 ?_
                  refine Rc.run tb_103 1 (pc' := 71) (ls' := [some (.ref (0)), some (.int (a1)), some (.int (a2)), some (.int (a3)), some (.int (M (6 + 2 * a1.toNatClampNeg) 0))]) (st' := [.int (c7)]) rfl rfl ?_
                  obtain rfl := Option.some.inj h
                  obtain ⟨rfl, rfl⟩ := hC
                  exact Rc.iret (ins := .ireturn) tb_103 rfl mR_103
          · rw [if_neg hb3] at h
            cases h
        · rw [if_neg hb10] at h
          refine Rc.mask (b := 1) ((tb_103.2 18).trans rfl) (ls' := [some (.ref (0)), none, none, none, none]) rfl ?_
          exact TJ_103_18 (X := X) (d := d + 1) (by omega) h hC
theorem T_103 {X : AX} {d : Nat} (hd : 3 ≤ d) {a1 : Int32} {a2 : Int32} {a3 : Int32} {M : IM} {x : Int32} {M1 : IM} (h : F_103 a1 a2 a3 M = some (x, M1)) : Rc X d 103 0 [some (.ref (0)), some (.int (a1)), some (.int (a2)), some (.int (a3)), none] [] M (some (.int x)) M1 := TF_103 hd h ⟨rfl, rfl⟩
/-! 104: NineDemands.so -/
def J_104_16 (M : IM) : Option (Int32 × IM) := (match F_132 (1 : Int32) M with | none => none | some (c2, M2) => (some ((c2, M2))))
def F_104 (a1 : Int32) (a2 : Int32) (a3 : Int32) (a4 : Int32) (M : IM) : Option (Int32 × IM) := (match F_134 a1 a2 M with | none => none | some c1 => (if c1 = 0 then (J_104_16 M) else (if F_139 a3 = 0 then (J_104_16 M) else (if inb a1 8 = true then (if F_1 (M (6 + 2 * a1.toNatClampNeg) 0) = 0 then (match F_18 (6 + 2 * a1.toNatClampNeg) a2 a3 M with | none => none | some c6 => (if c6 = 0 then (some ((0, M))) else (some ((1, M))))) else (if F_139 a4 = 0 then (match F_132 (1 : Int32) M with | none => none | some (c9, M9) => (some ((c9, M9)))) else (match F_18 (6 + 2 * a1.toNatClampNeg) a2 a3 M with | none => none | some c10 => (if F_143 c10 a4 = 0 then (some ((0, M))) else (some ((1, M))))))) else none))))
theorem TJ_104_16 {X : AX} {d : Nat} (hd : 3 ≤ d) {M : IM} {v : Option Value} {M' : IM} {o : Int32 × IM} (h : J_104_16 M = some o) (hC : v = some (.int o.1) ∧ M' = o.2) : Rc X d 104 16 [some (.ref (0)), none, none, none, none, none] [] M v M' := by
  obtain ⟨d, rfl⟩ : ∃ e, d = e + 1 := ⟨d - 1, by omega⟩
  unfold J_104_16 at h
  refine Rc.run tb_104 2 (pc' := 18) (ls' := [some (.ref (0)), none, none, none, none, none]) (st' := [.int (1), .ref (0)]) rfl rfl ?_
  cases hc2 : F_132 (1 : Int32) M with
  | none => rw [hc2] at h; cases h
  | some r2 =>
    obtain ⟨c2, M2⟩ := r2
    rw [hc2] at h
    dsimp only at h
    have hq2 := T_132 (X := X) (d := d) (by omega) (M := M) hc2
    refine Rc.callV tb_104 rfl rfl rfl mS_132 mP_132 mL_132 mO_132 rfl rfl ob_0 rfl rfl hq2 ?_
    obtain rfl := Option.some.inj h
    obtain ⟨rfl, rfl⟩ := hC
    exact Rc.iret (ins := .ireturn) tb_104 rfl mR_104
theorem TF_104 {X : AX} {d : Nat} (hd : 3 ≤ d) {a1 : Int32} {a2 : Int32} {a3 : Int32} {a4 : Int32} {M : IM} {v : Option Value} {M' : IM} {o : Int32 × IM} (h : F_104 a1 a2 a3 a4 M = some o) (hC : v = some (.int o.1) ∧ M' = o.2) : Rc X d 104 0 [some (.ref (0)), some (.int (a1)), some (.int (a2)), some (.int (a3)), some (.int (a4)), none] [] M v M' := by
  obtain ⟨d, rfl⟩ : ∃ e, d = e + 1 := ⟨d - 1, by omega⟩
  unfold F_104 at h
  refine Rc.run tb_104 3 (pc' := 3) (ls' := [some (.ref (0)), some (.int (a1)), some (.int (a2)), some (.int (a3)), some (.int (a4)), none]) (st' := [.int (a2), .int (a1), .ref (0)]) rfl rfl ?_
  cases hc1 : F_134 a1 a2 M with
  | none => rw [hc1] at h; cases h
  | some c1 =>
    rw [hc1] at h
    dsimp only at h
    have hq1 := T_134 (X := X) (d := d) (by omega) (M := M) hc1
    have hz1 := Rc.bool mR_134 hq1
    refine Rc.callV tb_104 rfl rfl rfl mS_134 mP_134 mL_134 mO_134 rfl rfl ob_0 rfl rfl hq1 ?_
    refine Rc.if_eq (pc1 := 16) tb_104 rfl rfl (by decide) (by decide) (fun hb16 => ?_) (fun hb16 => ?_)
    · rw [if_pos hb16] at h
      refine Rc.mask (b := 1) ((tb_104.2 16).trans rfl) (ls' := [some (.ref (0)), none, none, none, none, none]) rfl ?_
      exact TJ_104_16 (X := X) (d := d + 1) (by omega) h hC
    · rw [if_neg hb16] at h
      refine Rc.run tb_104 1 (pc' := 10) (ls' := [some (.ref (0)), some (.int (a1)), some (.int (a2)), some (.int (a3)), some (.int (a4)), none]) (st' := [.int (a3)]) rfl rfl ?_
      have hq3 := T_139 (X := X) (d := d) (by omega) a3 M
      have hz3 := Rc.bool mR_139 hq3
      refine Rc.callS tb_104 rfl rfl rfl mS_139 mP_139 mL_139 rfl rfl rfl hq3 ?_
      refine Rc.if_ne (pc1 := 22) tb_104 rfl rfl (by decide) (by decide) (fun hb15 => ?_) (fun hb15 => ?_)
      · rw [if_pos hb15] at h
        refine Rc.mask (b := 1) ((tb_104.2 16).trans rfl) (ls' := [some (.ref (0)), none, none, none, none, none]) rfl ?_
        exact TJ_104_16 (X := X) (d := d + 1) (by omega) h hC
      · rw [if_neg hb15] at h
        refine Rc.run tb_104 1 (pc' := 23) (ls' := [some (.ref (0)), some (.int (a1)), some (.int (a2)), some (.int (a3)), some (.int (a4)), none]) (st' := [.ref (0)]) rfl rfl ?_
        refine Rc.getR tb_104 rfl rfl ob_0 (by decide +kernel) tg_0_0 (by decide) ?_
        refine Rc.getR tb_104 rfl rfl (VilH.ob vh_1) (by decide +kernel) (VilH.f1 vh_1) (by decide) ?_
        refine Rc.run tb_104 1 (pc' := 30) (ls' := [some (.ref (0)), some (.int (a1)), some (.int (a2)), some (.int (a3)), some (.int (a4)), none]) (st' := [.int (a1), .ref (3)]) rfl rfl ?_
        by_cases hb4 : inb a1 8 = true
        · rw [if_pos hb4] at h
          refine Rc.aald tb_104 rfl rfl (by decide) (Or.inl (by decide +kernel)) (by rw [ln_3]; exact hb4) (la_3 hb4) (by have := lawEl_1 hb4; exact LawH.lt0 this) ?_
          refine Rc.run tb_104 2 (pc' := 35) (ls' := [some (.ref (0)), some (.int (a1)), some (.int (a2)), some (.int (a3)), some (.int (a4)), some (.ref ((6 + 2 * a1.toNatClampNeg)))]) (st' := [.ref ((6 + 2 * a1.toNatClampNeg))]) rfl rfl ?_
          refine Rc.getI tb_104 rfl rfl (LawH.ob (lawEl_1 hb4)) (by decide +kernel) (LawH.f0 (lawEl_1 hb4)) ?_
          have hq5 := T_1 (X := X) (d := d) (by omega) (M (6 + 2 * a1.toNatClampNeg) 0) M
          have hz5 := Rc.bool mR_1 hq5
          refine Rc.callS tb_104 rfl rfl rfl mS_1 mP_1 mL_1 rfl rfl rfl hq5 ?_
          refine Rc.if_ne (pc1 := 60) tb_104 rfl rfl (by decide) (by decide) (fun hb14 => ?_) (fun hb14 => ?_)
          · rw [if_pos hb14] at h
            refine Rc.run tb_104 3 (pc' := 48) (ls' := [some (.ref (0)), some (.int (a1)), some (.int (a2)), some (.int (a3)), some (.int (a4)), some (.ref ((6 + 2 * a1.toNatClampNeg)))]) (st' := [.int (a3), .int (a2), .ref ((6 + 2 * a1.toNatClampNeg))]) rfl rfl ?_
            cases hc6 : F_18 (6 + 2 * a1.toNatClampNeg) a2 a3 M with
            | none => rw [hc6] at h; cases h
            | some c6 =>
              rw [hc6] at h
              dsimp only at h
              have hq6 := T_18 (X := X) (d := d) (by omega) (M := M) (lawEl_1 hb4) hc6
              refine Rc.callV tb_104 rfl rfl rfl mS_18 mP_18 mL_18 mO_18 rfl rfl (LawH.ob (lawEl_1 hb4)) rfl rfl hq6 ?_
              refine Rc.if_eq (pc1 := 58) tb_104 rfl rfl (by decide) (by decide) (fun hb7 => ?_) (fun hb7 => ?_)
              · rw [if_pos hb7] at h
                refine Rc.run tb_104 1 (pc' := 59) (ls' := [some (.ref (0)), some (.int (a1)), some (.int (a2)), some (.int (a3)), some (.int (a4)), some (.ref ((6 + 2 * a1.toNatClampNeg)))]) (st' := [.int (0)]) rfl rfl ?_
                obtain rfl := Option.some.inj h
                obtain ⟨rfl, rfl⟩ := hC
                exact Rc.iret (ins := .ireturn) tb_104 rfl mR_104
              · rw [if_neg hb7] at h
                refine Rc.run tb_104 2 (pc' := 59) (ls' := [some (.ref (0)), some (.int (a1)), some (.int (a2)), some (.int (a3)), some (.int (a4)), some (.ref ((6 + 2 * a1.toNatClampNeg)))]) (st' := [.int (1)]) rfl rfl ?_
                obtain rfl := Option.some.inj h
                obtain ⟨rfl, rfl⟩ := hC
                exact Rc.iret (ins := .ireturn) tb_104 rfl mR_104
          · rw [if_neg hb14] at h
            refine Rc.run tb_104 1 (pc' := 62) (ls' := [some (.ref (0)), some (.int (a1)), some (.int (a2)), some (.int (a3)), some (.int (a4)), some (.ref ((6 + 2 * a1.toNatClampNeg)))]) (st' := [.int (a4)]) rfl rfl ?_
            have hq8 := T_139 (X := X) (d := d) (by omega) a4 M
            have hz8 := Rc.bool mR_139 hq8
            refine Rc.callS tb_104 rfl rfl rfl mS_139 mP_139 mL_139 rfl rfl rfl hq8 ?_
            refine Rc.if_ne (pc1 := 74) tb_104 rfl rfl (by decide) (by decide) (fun hb13 => ?_) (fun hb13 => ?_)
            · rw [if_pos hb13] at h
              refine Rc.run tb_104 2 (pc' := 70) (ls' := [some (.ref (0)), some (.int (a1)), some (.int (a2)), some (.int (a3)), some (.int (a4)), some (.ref ((6 + 2 * a1.toNatClampNeg)))]) (st' := [.int (1), .ref (0)]) rfl rfl ?_
              cases hc9 : F_132 (1 : Int32) M with
              | none => rw [hc9] at h; cases h
              | some r9 =>
                obtain ⟨c9, M9⟩ := r9
                rw [hc9] at h
                dsimp only at h
                have hq9 := T_132 (X := X) (d := d) (by omega) (M := M) hc9
                refine Rc.callV tb_104 rfl rfl rfl mS_132 mP_132 mL_132 mO_132 rfl rfl ob_0 rfl rfl hq9 ?_
                obtain rfl := Option.some.inj h
                obtain ⟨rfl, rfl⟩ := hC
                exact Rc.iret (ins := .ireturn) tb_104 rfl mR_104
            · rw [if_neg hb13] at h
              refine Rc.run tb_104 3 (pc' := 78) (ls' := [some (.ref (0)), some (.int (a1)), some (.int (a2)), some (.int (a3)), some (.int (a4)), some (.ref ((6 + 2 * a1.toNatClampNeg)))]) (st' := [.int (a3), .int (a2), .ref ((6 + 2 * a1.toNatClampNeg))]) rfl rfl ?_
              cases hc10 : F_18 (6 + 2 * a1.toNatClampNeg) a2 a3 M with
              | none => rw [hc10] at h; cases h
              | some c10 =>
                rw [hc10] at h
                dsimp only at h
                have hq10 := T_18 (X := X) (d := d) (by omega) (M := M) (lawEl_1 hb4) hc10
                refine Rc.callV tb_104 rfl rfl rfl mS_18 mP_18 mL_18 mO_18 rfl rfl (LawH.ob (lawEl_1 hb4)) rfl rfl hq10 ?_
                refine Rc.run tb_104 1 (pc' := 83) (ls' := [some (.ref (0)), some (.int (a1)), some (.int (a2)), some (.int (a3)), some (.int (a4)), some (.ref ((6 + 2 * a1.toNatClampNeg)))]) (st' := [.int (a4), .int (c10)]) rfl rfl ?_
                have hq11 := T_143 (X := X) (d := d) (by omega) c10 a4 M
                have hz11 := Rc.bool mR_143 hq11
                refine Rc.callS tb_104 rfl rfl rfl mS_143 mP_143 mL_143 rfl rfl rfl hq11 ?_
                refine Rc.if_eq (pc1 := 93) tb_104 rfl rfl (by decide) (by decide) (fun hb12 => ?_) (fun hb12 => ?_)
                · rw [if_pos hb12] at h
                  refine Rc.run tb_104 1 (pc' := 94) (ls' := [some (.ref (0)), some (.int (a1)), some (.int (a2)), some (.int (a3)), some (.int (a4)), some (.ref ((6 + 2 * a1.toNatClampNeg)))]) (st' := [.int (0)]) rfl rfl ?_
                  obtain rfl := Option.some.inj h
                  obtain ⟨rfl, rfl⟩ := hC
                  exact Rc.iret (ins := .ireturn) tb_104 rfl mR_104
                · rw [if_neg hb12] at h
                  refine Rc.run tb_104 2 (pc' := 94) (ls' := [some (.ref (0)), some (.int (a1)), some (.int (a2)), some (.int (a3)), some (.int (a4)), some (.ref ((6 + 2 * a1.toNatClampNeg)))]) (st' := [.int (1)]) rfl rfl ?_
                  obtain rfl := Option.some.inj h
                  obtain ⟨rfl, rfl⟩ := hC
                  exact Rc.iret (ins := .ireturn) tb_104 rfl mR_104
        · rw [if_neg hb4] at h
          cases h
theorem T_104 {X : AX} {d : Nat} (hd : 3 ≤ d) {a1 : Int32} {a2 : Int32} {a3 : Int32} {a4 : Int32} {M : IM} {x : Int32} {M1 : IM} (h : F_104 a1 a2 a3 a4 M = some (x, M1)) : Rc X d 104 0 [some (.ref (0)), some (.int (a1)), some (.int (a2)), some (.int (a3)), some (.int (a4)), none] [] M (some (.int x)) M1 := TF_104 hd h ⟨rfl, rfl⟩
/-! 105: NineDemands.breach -/
def F_105 (a1 : Int32) (M : IM) : Option (Int32 × IM) := if F_133 a1 M = 0 then (match F_132 (1 : Int32) M with | none => none | some (c2, M2) => (some ((c2, M2)))) else (if inb a1 8 = true then (match F_20 (6 + 2 * a1.toNatClampNeg) 2 M with | none => none | some c4 => (if (0 : Int32) ≤ c4 then (some ((c4, M))) else (match F_132 (2 : Int32) M with | none => none | some (c5, M5) => (some ((c5, M5)))))) else none)
theorem TF_105 {X : AX} {d : Nat} (hd : 4 ≤ d) {a1 : Int32} {M : IM} {v : Option Value} {M' : IM} {o : Int32 × IM} (h : F_105 a1 M = some o) (hC : v = some (.int o.1) ∧ M' = o.2) : Rc X d 105 0 [some (.ref (0)), some (.int (a1)), none] [] M v M' := by
  obtain ⟨d, rfl⟩ : ∃ e, d = e + 1 := ⟨d - 1, by omega⟩
  unfold F_105 at h
  refine Rc.run tb_105 2 (pc' := 2) (ls' := [some (.ref (0)), some (.int (a1)), none]) (st' := [.int (a1), .ref (0)]) rfl rfl ?_
  have hq1 := T_133 (X := X) (d := d) (by omega) a1 M
  have hz1 := Rc.bool mR_133 hq1
  refine Rc.callV tb_105 rfl rfl rfl mS_133 mP_133 mL_133 mO_133 rfl rfl ob_0 rfl rfl hq1 ?_
  refine Rc.if_ne (pc1 := 14) tb_105 rfl rfl (by decide) (by decide) (fun hb7 => ?_) (fun hb7 => ?_)
  · rw [if_pos hb7] at h
    refine Rc.run tb_105 2 (pc' := 10) (ls' := [some (.ref (0)), some (.int (a1)), none]) (st' := [.int (1), .ref (0)]) rfl rfl ?_
    cases hc2 : F_132 (1 : Int32) M with
    | none => rw [hc2] at h; cases h
    | some r2 =>
      obtain ⟨c2, M2⟩ := r2
      rw [hc2] at h
      dsimp only at h
      have hq2 := T_132 (X := X) (d := d) (by omega) (M := M) hc2
      refine Rc.callV tb_105 rfl rfl rfl mS_132 mP_132 mL_132 mO_132 rfl rfl ob_0 rfl rfl hq2 ?_
      obtain rfl := Option.some.inj h
      obtain ⟨rfl, rfl⟩ := hC
      exact Rc.iret (ins := .ireturn) tb_105 rfl mR_105
  · rw [if_neg hb7] at h
    refine Rc.run tb_105 1 (pc' := 15) (ls' := [some (.ref (0)), some (.int (a1)), none]) (st' := [.ref (0)]) rfl rfl ?_
    refine Rc.getR tb_105 rfl rfl ob_0 (by decide +kernel) tg_0_0 (by decide) ?_
    refine Rc.getR tb_105 rfl rfl (VilH.ob vh_1) (by decide +kernel) (VilH.f1 vh_1) (by decide) ?_
    refine Rc.run tb_105 1 (pc' := 22) (ls' := [some (.ref (0)), some (.int (a1)), none]) (st' := [.int (a1), .ref (3)]) rfl rfl ?_
    by_cases hb3 : inb a1 8 = true
    · rw [if_pos hb3] at h
      refine Rc.aald tb_105 rfl rfl (by decide) (Or.inl (by decide +kernel)) (by rw [ln_3]; exact hb3) (la_3 hb3) (by have := lawEl_1 hb3; exact LawH.lt0 this) ?_
      refine Rc.run tb_105 1 (pc' := 24) (ls' := [some (.ref (0)), some (.int (a1)), none]) (st' := [.ref (0), .ref ((6 + 2 * a1.toNatClampNeg))]) rfl rfl ?_
      refine Rc.getR tb_105 rfl rfl ob_0 (by decide +kernel) tg_0_0 (by decide) ?_
      refine Rc.getR tb_105 rfl rfl (VilH.ob vh_1) (by decide +kernel) (VilH.f0 vh_1) (by decide) ?_
      cases hc4 : F_20 (6 + 2 * a1.toNatClampNeg) 2 M with
      | none => rw [hc4] at h; cases h
      | some c4 =>
        rw [hc4] at h
        dsimp only at h
        have hq4 := T_20 (X := X) (d := d) (by omega) (M := M) (lawEl_1 hb3) (ia_2).1 hc4
        refine Rc.callV tb_105 rfl rfl rfl mS_20 mP_20 mL_20 mO_20 rfl rfl (LawH.ob (lawEl_1 hb3)) rfl rfl hq4 ?_
        refine Rc.run tb_105 2 (pc' := 35) (ls' := [some (.ref (0)), some (.int (a1)), some (.int (c4))]) (st' := [.int (c4)]) rfl rfl ?_
        refine Rc.if_ge (pc1 := 46) tb_105 rfl rfl (by decide) (by decide) (fun hb6 => ?_) (fun hb6 => ?_)
        · rw [if_pos hb6] at h
          refine Rc.run tb_105 1 (pc' := 47) (ls' := [some (.ref (0)), some (.int (a1)), some (.int (c4))]) (st' := [.int (c4)]) rfl rfl ?_
          obtain rfl := Option.some.inj h
          obtain ⟨rfl, rfl⟩ := hC
          exact Rc.iret (ins := .ireturn) tb_105 rfl mR_105
        · rw [if_neg hb6] at h
          refine Rc.run tb_105 2 (pc' := 40) (ls' := [some (.ref (0)), some (.int (a1)), some (.int (c4))]) (st' := [.int (2), .ref (0)]) rfl rfl ?_
          cases hc5 : F_132 (2 : Int32) M with
          | none => rw [hc5] at h; cases h
          | some r5 =>
            obtain ⟨c5, M5⟩ := r5
            rw [hc5] at h
            dsimp only at h
            have hq5 := T_132 (X := X) (d := d) (by omega) (M := M) hc5
            refine Rc.callV tb_105 rfl rfl rfl mS_132 mP_132 mL_132 mO_132 rfl rfl ob_0 rfl rfl hq5 ?_
            refine Rc.run tb_105 1 (pc' := 47) (ls' := [some (.ref (0)), some (.int (a1)), some (.int (c4))]) (st' := [.int (c5)]) rfl rfl ?_
            obtain rfl := Option.some.inj h
            obtain ⟨rfl, rfl⟩ := hC
            exact Rc.iret (ins := .ireturn) tb_105 rfl mR_105
    · rw [if_neg hb3] at h
      cases h
theorem T_105 {X : AX} {d : Nat} (hd : 4 ≤ d) {a1 : Int32} {M : IM} {x : Int32} {M1 : IM} (h : F_105 a1 M = some (x, M1)) : Rc X d 105 0 [some (.ref (0)), some (.int (a1)), none] [] M (some (.int x)) M1 := TF_105 hd h ⟨rfl, rfl⟩
/-! 106: NineDemands.kept -/
def J_106_43_4 (x1 : Int32) (x2 : Int32) (M : IM) : Option ((Int32 × Int32) ⊕ (Int32 × Int32)) := some (Sum.inl (x1, x2 + 1))
def B_106_4 (M : IM) : (Int32 × Int32) → Option ((Int32 × Int32) ⊕ (Int32 × Int32)) := fun (x1, x2) => if M 1 2 ≤ x2 then (some (Sum.inr (x1, x2))) else (if inb x2 8 = true then (match F_20 (6 + 2 * x2.toNatClampNeg) 2 M with | none => none | some c2 => (if (0 : Int32) ≤ c2 then (J_106_43_4 x1 x2 M) else (J_106_43_4 (x1 ||| ((1 : Int32) <<< (x2 &&& 31))) x2 M))) else none)
def L_106_4 (M : IM) (x1 : Int32) (x2 : Int32) : Option (Int32 × Int32) := loopN (B_106_4 M) FU (x1, x2)
def F_106 (M : IM) : Option (Int32) := (match L_106_4 M 0 0 with | none => none | some (x1_5, x2_5) => (some (x1_5)))
theorem TJ_106_43_4 {X : AX} {d : Nat} (hd : 4 ≤ d) {x1 : Int32} {x2 : Int32} {M : IM} {v : Option Value} {M' : IM} {o : (Int32 × Int32) ⊕ (Int32 × Int32)} (h : J_106_43_4 x1 x2 M = some o) (hP : ∀ s', o = .inl s' → (fun (x1, x2) => Rc X d 106 4 [some (.ref (0)), some (.int (x1)), some (.int (x2))] [] M v M') s') (hE : ∀ r, o = .inr r → (fun (x1, x2) => Rc X d 106 49 [none, some (.int (x1)), none] [] M v M') r) : Rc X d 106 43 [some (.ref (0)), some (.int (x1)), some (.int (x2))] [] M v M' := by
  obtain ⟨d, rfl⟩ : ∃ e, d = e + 1 := ⟨d - 1, by omega⟩
  unfold J_106_43_4 at h
  dsimp only at hP hE
  refine Rc.run tb_106 2 (pc' := 4) (ls' := [some (.ref (0)), some (.int (x1)), some (.int (x2 + 1))]) (st' := []) rfl rfl ?_
  refine Rc.mask (b := 7) ((tb_106.2 4).trans rfl) (ls' := [some (.ref (0)), some (.int (x1)), some (.int (x2 + 1))]) rfl ?_
  obtain rfl := Option.some.inj h
  exact hP _ rfl
theorem TB_106_4 {X : AX} {d : Nat} (hd : 4 ≤ d) {M : IM} {v : Option Value} {M' : IM} : ∀ (s : Int32 × Int32) (o : (Int32 × Int32) ⊕ (Int32 × Int32)), B_106_4 M s = some o → (∀ s', o = .inl s' → (fun (x1, x2) => Rc X d 106 4 [some (.ref (0)), some (.int (x1)), some (.int (x2))] [] M v M') s') → (∀ r, o = .inr r → (fun (x1, x2) => Rc X d 106 49 [none, some (.int (x1)), none] [] M v M') r) → (fun (x1, x2) => Rc X d 106 4 [some (.ref (0)), some (.int (x1)), some (.int (x2))] [] M v M') s := by
  rintro ⟨x1, x2⟩ o h hP hE
  show Rc X d 106 4 [some (.ref (0)), some (.int (x1)), some (.int (x2))] [] M v M'
  obtain ⟨d, rfl⟩ : ∃ e, d = e + 1 := ⟨d - 1, by omega⟩
  unfold B_106_4 at h
  dsimp only at h hP hE
  refine Rc.run tb_106 2 (pc' := 6) (ls' := [some (.ref (0)), some (.int (x1)), some (.int (x2))]) (st' := [.ref (0), .int (x2)]) rfl rfl ?_
  refine Rc.getR tb_106 rfl rfl ob_0 (by decide +kernel) tg_0_0 (by decide) ?_
  refine Rc.getI tb_106 rfl rfl (VilH.ob vh_1) (by decide +kernel) (VilH.f2 vh_1) ?_
  refine Rc.icmp_ge (pc1 := 49) tb_106 rfl rfl (by decide) (by decide) (fun hb4 => ?_) (fun hb4 => ?_)
  · rw [if_pos hb4] at h
    refine Rc.mask (b := 2) ((tb_106.2 49).trans rfl) (ls' := [none, some (.int (x1)), none]) rfl ?_
    obtain rfl := Option.some.inj h
    exact hE _ rfl
  · rw [if_neg hb4] at h
    refine Rc.run tb_106 1 (pc' := 16) (ls' := [some (.ref (0)), some (.int (x1)), some (.int (x2))]) (st' := [.ref (0)]) rfl rfl ?_
    refine Rc.getR tb_106 rfl rfl ob_0 (by decide +kernel) tg_0_0 (by decide) ?_
    refine Rc.getR tb_106 rfl rfl (VilH.ob vh_1) (by decide +kernel) (VilH.f1 vh_1) (by decide) ?_
    refine Rc.run tb_106 1 (pc' := 23) (ls' := [some (.ref (0)), some (.int (x1)), some (.int (x2))]) (st' := [.int (x2), .ref (3)]) rfl rfl ?_
    by_cases hb1 : inb x2 8 = true
    · rw [if_pos hb1] at h
      refine Rc.aald tb_106 rfl rfl (by decide) (Or.inl (by decide +kernel)) (by rw [ln_3]; exact hb1) (la_3 hb1) (by have := lawEl_1 hb1; exact LawH.lt0 this) ?_
      refine Rc.run tb_106 1 (pc' := 25) (ls' := [some (.ref (0)), some (.int (x1)), some (.int (x2))]) (st' := [.ref (0), .ref ((6 + 2 * x2.toNatClampNeg))]) rfl rfl ?_
      refine Rc.getR tb_106 rfl rfl ob_0 (by decide +kernel) tg_0_0 (by decide) ?_
      refine Rc.getR tb_106 rfl rfl (VilH.ob vh_1) (by decide +kernel) (VilH.f0 vh_1) (by decide) ?_
      cases hc2 : F_20 (6 + 2 * x2.toNatClampNeg) 2 M with
      | none => rw [hc2] at h; cases h
      | some c2 =>
        rw [hc2] at h
        dsimp only at h
        have hq2 := T_20 (X := X) (d := d) (by omega) (M := M) (lawEl_1 hb1) (ia_2).1 hc2
        refine Rc.callV tb_106 rfl rfl rfl mS_20 mP_20 mL_20 mO_20 rfl rfl (LawH.ob (lawEl_1 hb1)) rfl rfl hq2 ?_
        refine Rc.if_ge (pc1 := 43) tb_106 rfl rfl (by decide) (by decide) (fun hb3 => ?_) (fun hb3 => ?_)
        · rw [if_pos hb3] at h
          refine Rc.mask (b := 7) ((tb_106.2 43).trans rfl) (ls' := [some (.ref (0)), some (.int (x1)), some (.int (x2))]) rfl ?_
          exact TJ_106_43_4 (X := X) (d := d + 1) (by omega) h hP hE
        · rw [if_neg hb3] at h
          refine Rc.run tb_106 6 (pc' := 43) (ls' := [some (.ref (0)), some (.int (x1 ||| ((1 : Int32) <<< (x2 &&& 31)))), some (.int (x2))]) (st' := []) rfl rfl ?_
          refine Rc.mask (b := 7) ((tb_106.2 43).trans rfl) (ls' := [some (.ref (0)), some (.int (x1 ||| ((1 : Int32) <<< (x2 &&& 31)))), some (.int (x2))]) rfl ?_
          exact TJ_106_43_4 (X := X) (d := d + 1) (by omega) h hP hE
    · rw [if_neg hb1] at h
      cases h
theorem TL_106_4 {X : AX} {d : Nat} (hd : 4 ≤ d) {M : IM} {x1 : Int32} {x2 : Int32} {v : Option Value} {M' : IM} {r : Int32 × Int32} (h : L_106_4 M x1 x2 = some r) (hE : (fun (x1, x2) => Rc X d 106 49 [none, some (.int (x1)), none] [] M v M') r) : Rc X d 106 4 [some (.ref (0)), some (.int (x1)), some (.int (x2))] [] M v M' := by
  exact loopN_rc (P := fun (x1, x2) => Rc X d 106 4 [some (.ref (0)), some (.int (x1)), some (.int (x2))] [] M v M') (E := fun (x1, x2) => Rc X d 106 49 [none, some (.int (x1)), none] [] M v M') (TB_106_4 (X := X) hd) FU _ r h hE
theorem TF_106 {X : AX} {d : Nat} (hd : 4 ≤ d) {M : IM} {v : Option Value} {M' : IM} {o : Int32} (h : F_106 M = some o) (hC : v = some (.int o) ∧ M' = M) : Rc X d 106 0 [some (.ref (0)), none, none] [] M v M' := by
  obtain ⟨d, rfl⟩ : ∃ e, d = e + 1 := ⟨d - 1, by omega⟩
  unfold F_106 at h
  refine Rc.run tb_106 4 (pc' := 4) (ls' := [some (.ref (0)), some (.int (0)), some (.int (0))]) (st' := []) rfl rfl ?_
  refine Rc.mask (b := 7) ((tb_106.2 4).trans rfl) (ls' := [some (.ref (0)), some (.int (0)), some (.int (0))]) rfl ?_
  cases hl5 : L_106_4 M 0 0 with
  | none => rw [hl5] at h; cases h
  | some r5 =>
    obtain ⟨x1_5, x2_5⟩ := r5
    rw [hl5] at h
    dsimp only at h
    refine TL_106_4 (X := X) (d := d + 1) (by omega) hl5 ?_
    refine Rc.run tb_106 1 (pc' := 50) (ls' := [none, some (.int (x1_5)), none]) (st' := [.int (x1_5)]) rfl rfl ?_
    obtain rfl := Option.some.inj h
    obtain ⟨rfl, rfl⟩ := hC
    exact Rc.iret (ins := .ireturn) tb_106 rfl mR_106
theorem T_106 {X : AX} {d : Nat} (hd : 4 ≤ d) {M : IM} {x : Int32} (h : F_106 M = some x) : Rc X d 106 0 [some (.ref (0)), none, none] [] M (some (.int x)) M := TF_106 hd h ⟨rfl, rfl⟩
/-! 135: NineDemands.isSet -/
def F_135 (a1 : Int32) (M : IM) : Int32 := if a1 < 0 then 0 else (if (1 : Int32) <<< ((M 1 2) &&& 31) ≤ a1 then 0 else 1)
theorem TF_135 {X : AX} {d : Nat} (hd : 0 ≤ d) {a1 : Int32} {M : IM} {v : Option Value} {M' : IM} {o : Int32} (h : F_135 a1 M = o) (hC : v = some (.int o) ∧ M' = M) : Rc X d 135 0 [some (.ref (0)), some (.int (a1))] [] M v M' := by
  unfold F_135 at h
  refine Rc.run tb_135 1 (pc' := 1) (ls' := [some (.ref (0)), some (.int (a1))]) (st' := [.int (a1)]) rfl rfl ?_
  refine Rc.if_lt (pc1 := 21) tb_135 rfl rfl (by decide) (by decide) (fun hb2 => ?_) (fun hb2 => ?_)
  · rw [if_pos hb2] at h
    refine Rc.run tb_135 1 (pc' := 22) (ls' := [none, none]) (st' := [.int (0)]) rfl rfl ?_
    subst h
    obtain ⟨rfl, rfl⟩ := hC
    exact Rc.zret tb_135 rfl mR_135 (Or.inl rfl)
  · rw [if_neg hb2] at h
    refine Rc.run tb_135 3 (pc' := 7) (ls' := [some (.ref (0)), some (.int (a1))]) (st' := [.ref (0), .int (1), .int (a1)]) rfl rfl ?_
    refine Rc.getR tb_135 rfl rfl ob_0 (by decide +kernel) tg_0_0 (by decide) ?_
    refine Rc.getI tb_135 rfl rfl (VilH.ob vh_1) (by decide +kernel) (VilH.f2 vh_1) ?_
    refine Rc.run tb_135 1 (pc' := 14) (ls' := [some (.ref (0)), some (.int (a1))]) (st' := [.int ((1 : Int32) <<< ((M 1 2) &&& 31)), .int (a1)]) rfl rfl ?_
    refine Rc.icmp_ge (pc1 := 21) tb_135 rfl rfl (by decide) (by decide) (fun hb1 => ?_) (fun hb1 => ?_)
    · rw [if_pos hb1] at h
      refine Rc.run tb_135 1 (pc' := 22) (ls' := [none, none]) (st' := [.int (0)]) rfl rfl ?_
      subst h
      obtain ⟨rfl, rfl⟩ := hC
      exact Rc.zret tb_135 rfl mR_135 (Or.inl rfl)
    · rw [if_neg hb1] at h
      refine Rc.run tb_135 2 (pc' := 22) (ls' := [some (.ref (0)), some (.int (a1))]) (st' := [.int (1)]) rfl rfl ?_
      subst h
      obtain ⟨rfl, rfl⟩ := hC
      exact Rc.zret tb_135 rfl mR_135 (Or.inr rfl)
theorem T_135 {X : AX} {d : Nat} (hd : 0 ≤ d) (a1 : Int32) (M : IM) : Rc X d 135 0 [some (.ref (0)), some (.int (a1))] [] M (some (.int (F_135 a1 M))) M := TF_135 hd rfl ⟨rfl, rfl⟩
/-! 112: NineDemands.word -/
def B_112_24 (x1 : Int32) (x2 : Int32) : (Int32 × IM) → Option ((Int32 × IM) ⊕ (Int32 × IM)) := fun (x3, M) => if (12 : Int32) ≤ x3 then (some (Sum.inr (x3, M))) else (if inb x3 12 = true then (some (Sum.inl (x3 + 1, iset M 67 x3.toNatClampNeg (F_13 x2 x3)))) else none)
def L_112_24 (x1 : Int32) (x2 : Int32) (x3 : Int32) (M : IM) : Option (Int32 × IM) := loopN (B_112_24 x1 x2) FU (x3, M)
def J_112_47_16 (x1 : Int32) (x2 : Int32) (M : IM) : Option ((Int32 × IM) ⊕ ((Int32 × IM) ⊕ (Int32 × IM))) := (match F_86 1 x1 67 M with | none => none | some c7 => (if c7 = 0 then (some (Sum.inl (x2 + 1, M))) else (some (Sum.inr (Sum.inr (x2, M))))))
def B_112_16 (x1 : Int32) : (Int32 × IM) → Option ((Int32 × IM) ⊕ ((Int32 × IM) ⊕ (Int32 × IM))) := fun (x2, M) => if (12 : Int32) ≤ x2 then (some (Sum.inr (Sum.inl (x2, M)))) else (match L_112_24 x1 x2 0 M with | none => none | some (x3_6, M6) => (J_112_47_16 x1 x2 M6))
def L_112_16 (x1 : Int32) (x2 : Int32) (M : IM) : Option ((Int32 × IM) ⊕ (Int32 × IM)) := loopN (B_112_16 x1) FU (x2, M)
def J_112_70 (M : IM) : Option (Int32 × IM) := (match F_132 (2 : Int32) M with | none => none | some (c11, M11) => (some ((c11, M11))))
def F_112 (a1 : Int32) (M : IM) : Option (Int32 × IM) := if F_135 a1 M = 0 then (match F_132 (1 : Int32) M with | none => none | some (c2, M2) => (some ((c2, M2)))) else (match L_112_16 a1 0 M with | none => none | some (.inl (x2_10, M10)) => (J_112_70 M10) | some (.inr q) => some (q))
theorem TB_112_24 {X : AX} {d : Nat} (hd : 5 ≤ d) {x1 : Int32} {x2 : Int32} {v : Option Value} {M' : IM} : ∀ (s : Int32 × IM) (o : (Int32 × IM) ⊕ (Int32 × IM)), B_112_24 x1 x2 s = some o → (∀ s', o = .inl s' → (fun (x3, M) => Rc X d 112 24 [some (.ref (0)), some (.int (x1)), some (.int (x2)), some (.int (x3))] [] M v M') s') → (∀ r, o = .inr r → (fun (x3, M) => Rc X d 112 47 [some (.ref (0)), some (.int (x1)), some (.int (x2)), none] [] M v M') r) → (fun (x3, M) => Rc X d 112 24 [some (.ref (0)), some (.int (x1)), some (.int (x2)), some (.int (x3))] [] M v M') s := by
  rintro ⟨x3, M⟩ o h hP hE
  show Rc X d 112 24 [some (.ref (0)), some (.int (x1)), some (.int (x2)), some (.int (x3))] [] M v M'
  obtain ⟨d, rfl⟩ : ∃ e, d = e + 1 := ⟨d - 1, by omega⟩
  unfold B_112_24 at h
  dsimp only at h hP hE
  refine Rc.run tb_112 2 (pc' := 27) (ls' := [some (.ref (0)), some (.int (x1)), some (.int (x2)), some (.int (x3))]) (st' := [.int (12), .int (x3)]) rfl rfl ?_
  refine Rc.icmp_ge (pc1 := 47) tb_112 rfl rfl (by decide) (by decide) (fun hb5 => ?_) (fun hb5 => ?_)
  · rw [if_pos hb5] at h
    refine Rc.mask (b := 7) ((tb_112.2 47).trans rfl) (ls' := [some (.ref (0)), some (.int (x1)), some (.int (x2)), none]) rfl ?_
    obtain rfl := Option.some.inj h
    exact hE _ rfl
  · rw [if_neg hb5] at h
    refine Rc.run tb_112 1 (pc' := 31) (ls' := [some (.ref (0)), some (.int (x1)), some (.int (x2)), some (.int (x3))]) (st' := [.ref (0)]) rfl rfl ?_
    refine Rc.getR tb_112 rfl rfl ob_0 (by decide +kernel) tg_0_10 (by decide) ?_
    refine Rc.run tb_112 3 (pc' := 37) (ls' := [some (.ref (0)), some (.int (x1)), some (.int (x2)), some (.int (x3))]) (st' := [.int (x3), .int (x2), .int (x3), .ref (67)]) rfl rfl ?_
    have hq3 := T_13 (X := X) (d := d) (by omega) x2 x3 M
    refine Rc.callS tb_112 rfl rfl rfl mS_13 mP_13 mL_13 rfl rfl rfl hq3 ?_
    by_cases hb4 : inb x3 12 = true
    · rw [if_pos hb4] at h
      refine Rc.iast tb_112 rfl rfl ia_67 hb4 ?_
      refine Rc.run tb_112 2 (pc' := 24) (ls' := [some (.ref (0)), some (.int (x1)), some (.int (x2)), some (.int (x3 + 1))]) (st' := []) rfl rfl ?_
      refine Rc.mask (b := 15) ((tb_112.2 24).trans rfl) (ls' := [some (.ref (0)), some (.int (x1)), some (.int (x2)), some (.int (x3 + 1))]) rfl ?_
      obtain rfl := Option.some.inj h
      exact hP _ rfl
    · rw [if_neg hb4] at h
      cases h
theorem TL_112_24 {X : AX} {d : Nat} (hd : 5 ≤ d) {x1 : Int32} {x2 : Int32} {x3 : Int32} {M : IM} {v : Option Value} {M' : IM} {r : Int32 × IM} (h : L_112_24 x1 x2 x3 M = some r) (hE : (fun (x3, M) => Rc X d 112 47 [some (.ref (0)), some (.int (x1)), some (.int (x2)), none] [] M v M') r) : Rc X d 112 24 [some (.ref (0)), some (.int (x1)), some (.int (x2)), some (.int (x3))] [] M v M' := by
  exact loopN_rc (P := fun (x3, M) => Rc X d 112 24 [some (.ref (0)), some (.int (x1)), some (.int (x2)), some (.int (x3))] [] M v M') (E := fun (x3, M) => Rc X d 112 47 [some (.ref (0)), some (.int (x1)), some (.int (x2)), none] [] M v M') (TB_112_24 (X := X) hd) FU _ r h hE
theorem TJ_112_47_16 {X : AX} {d : Nat} (hd : 5 ≤ d) {x1 : Int32} {x2 : Int32} {M : IM} {v : Option Value} {M' : IM} {o : (Int32 × IM) ⊕ ((Int32 × IM) ⊕ (Int32 × IM))} (h : J_112_47_16 x1 x2 M = some o) (hP : ∀ s', o = .inl s' → (fun (x2, M) => Rc X d 112 16 [some (.ref (0)), some (.int (x1)), some (.int (x2)), none] [] M v M') s') (hE : ∀ r, o = .inr r → (fun r => match r with | .inl (x2, M) => Rc X d 112 70 [some (.ref (0)), none, none, none] [] M v M' | .inr q => v = some (.int q.1) ∧ M' = q.2) r) : Rc X d 112 47 [some (.ref (0)), some (.int (x1)), some (.int (x2)), none] [] M v M' := by
  obtain ⟨d, rfl⟩ : ∃ e, d = e + 1 := ⟨d - 1, by omega⟩
  unfold J_112_47_16 at h
  dsimp only at hP hE
  refine Rc.run tb_112 1 (pc' := 48) (ls' := [some (.ref (0)), some (.int (x1)), some (.int (x2)), none]) (st' := [.ref (0)]) rfl rfl ?_
  refine Rc.getR tb_112 rfl rfl ob_0 (by decide +kernel) tg_0_0 (by decide) ?_
  refine Rc.run tb_112 2 (pc' := 53) (ls' := [some (.ref (0)), some (.int (x1)), some (.int (x2)), none]) (st' := [.ref (0), .int (x1), .ref (1)]) rfl rfl ?_
  refine Rc.getR tb_112 rfl rfl ob_0 (by decide +kernel) tg_0_10 (by decide) ?_
  cases hc7 : F_86 1 x1 67 M with
  | none => rw [hc7] at h; cases h
  | some c7 =>
    rw [hc7] at h
    dsimp only at h
    have hq7 := T_86 (X := X) (d := d) (by omega) (M := M) vh_1 (ia_67).1 hc7
    have hz7 := Rc.bool mR_86 hq7
    refine Rc.callV tb_112 rfl rfl rfl mS_86 mP_86 mL_86 mO_86 rfl rfl (VilH.ob vh_1) rfl rfl hq7 ?_
    refine Rc.if_eq (pc1 := 64) tb_112 rfl rfl (by decide) (by decide) (fun hb8 => ?_) (fun hb8 => ?_)
    · rw [if_pos hb8] at h
      refine Rc.run tb_112 2 (pc' := 16) (ls' := [some (.ref (0)), some (.int (x1)), some (.int (x2 + 1)), none]) (st' := []) rfl rfl ?_
      refine Rc.mask (b := 7) ((tb_112.2 16).trans rfl) (ls' := [some (.ref (0)), some (.int (x1)), some (.int (x2 + 1)), none]) rfl ?_
      obtain rfl := Option.some.inj h
      exact hP _ rfl
    · rw [if_neg hb8] at h
      refine Rc.run tb_112 1 (pc' := 63) (ls' := [some (.ref (0)), some (.int (x1)), some (.int (x2)), none]) (st' := [.int (x2)]) rfl rfl ?_
      obtain rfl := Option.some.inj h
      obtain ⟨rfl, rfl⟩ := hE _ rfl
      exact Rc.iret (ins := .ireturn) tb_112 rfl mR_112
theorem TB_112_16 {X : AX} {d : Nat} (hd : 5 ≤ d) {x1 : Int32} {v : Option Value} {M' : IM} : ∀ (s : Int32 × IM) (o : (Int32 × IM) ⊕ ((Int32 × IM) ⊕ (Int32 × IM))), B_112_16 x1 s = some o → (∀ s', o = .inl s' → (fun (x2, M) => Rc X d 112 16 [some (.ref (0)), some (.int (x1)), some (.int (x2)), none] [] M v M') s') → (∀ r, o = .inr r → (fun r => match r with | .inl (x2, M) => Rc X d 112 70 [some (.ref (0)), none, none, none] [] M v M' | .inr q => v = some (.int q.1) ∧ M' = q.2) r) → (fun (x2, M) => Rc X d 112 16 [some (.ref (0)), some (.int (x1)), some (.int (x2)), none] [] M v M') s := by
  rintro ⟨x2, M⟩ o h hP hE
  show Rc X d 112 16 [some (.ref (0)), some (.int (x1)), some (.int (x2)), none] [] M v M'
  obtain ⟨d, rfl⟩ : ∃ e, d = e + 1 := ⟨d - 1, by omega⟩
  unfold B_112_16 at h
  dsimp only at h hP hE
  refine Rc.run tb_112 2 (pc' := 19) (ls' := [some (.ref (0)), some (.int (x1)), some (.int (x2)), none]) (st' := [.int (12), .int (x2)]) rfl rfl ?_
  refine Rc.icmp_ge (pc1 := 70) tb_112 rfl rfl (by decide) (by decide) (fun hb9 => ?_) (fun hb9 => ?_)
  · rw [if_pos hb9] at h
    refine Rc.mask (b := 1) ((tb_112.2 70).trans rfl) (ls' := [some (.ref (0)), none, none, none]) rfl ?_
    obtain rfl := Option.some.inj h
    exact hE _ rfl
  · rw [if_neg hb9] at h
    refine Rc.run tb_112 2 (pc' := 24) (ls' := [some (.ref (0)), some (.int (x1)), some (.int (x2)), some (.int (0))]) (st' := []) rfl rfl ?_
    refine Rc.mask (b := 15) ((tb_112.2 24).trans rfl) (ls' := [some (.ref (0)), some (.int (x1)), some (.int (x2)), some (.int (0))]) rfl ?_
    cases hl6 : L_112_24 x1 x2 0 M with
    | none => rw [hl6] at h; cases h
    | some r6 =>
      obtain ⟨x3_6, M6⟩ := r6
      rw [hl6] at h
      dsimp only at h
      refine TL_112_24 (X := X) (d := d + 1) (by omega) hl6 ?_
      refine Rc.mask (b := 7) ((tb_112.2 47).trans rfl) (ls' := [some (.ref (0)), some (.int (x1)), some (.int (x2)), none]) rfl ?_
      exact TJ_112_47_16 (X := X) (d := d + 1) (by omega) h hP hE
theorem TL_112_16 {X : AX} {d : Nat} (hd : 5 ≤ d) {x1 : Int32} {x2 : Int32} {M : IM} {v : Option Value} {M' : IM} {r : (Int32 × IM) ⊕ (Int32 × IM)} (h : L_112_16 x1 x2 M = some r) (hE : (fun r => match r with | .inl (x2, M) => Rc X d 112 70 [some (.ref (0)), none, none, none] [] M v M' | .inr q => v = some (.int q.1) ∧ M' = q.2) r) : Rc X d 112 16 [some (.ref (0)), some (.int (x1)), some (.int (x2)), none] [] M v M' := by
  exact loopN_rc (P := fun (x2, M) => Rc X d 112 16 [some (.ref (0)), some (.int (x1)), some (.int (x2)), none] [] M v M') (E := fun r => match r with | .inl (x2, M) => Rc X d 112 70 [some (.ref (0)), none, none, none] [] M v M' | .inr q => v = some (.int q.1) ∧ M' = q.2) (TB_112_16 (X := X) hd) FU _ r h hE
theorem TJ_112_70 {X : AX} {d : Nat} (hd : 5 ≤ d) {M : IM} {v : Option Value} {M' : IM} {o : Int32 × IM} (h : J_112_70 M = some o) (hC : v = some (.int o.1) ∧ M' = o.2) : Rc X d 112 70 [some (.ref (0)), none, none, none] [] M v M' := by
  obtain ⟨d, rfl⟩ : ∃ e, d = e + 1 := ⟨d - 1, by omega⟩
  unfold J_112_70 at h
  refine Rc.run tb_112 2 (pc' := 72) (ls' := [some (.ref (0)), none, none, none]) (st' := [.int (2), .ref (0)]) rfl rfl ?_
  cases hc11 : F_132 (2 : Int32) M with
  | none => rw [hc11] at h; cases h
  | some r11 =>
    obtain ⟨c11, M11⟩ := r11
    rw [hc11] at h
    dsimp only at h
    have hq11 := T_132 (X := X) (d := d) (by omega) (M := M) hc11
    refine Rc.callV tb_112 rfl rfl rfl mS_132 mP_132 mL_132 mO_132 rfl rfl ob_0 rfl rfl hq11 ?_
    obtain rfl := Option.some.inj h
    obtain ⟨rfl, rfl⟩ := hC
    exact Rc.iret (ins := .ireturn) tb_112 rfl mR_112
theorem TF_112 {X : AX} {d : Nat} (hd : 5 ≤ d) {a1 : Int32} {M : IM} {v : Option Value} {M' : IM} {o : Int32 × IM} (h : F_112 a1 M = some o) (hC : v = some (.int o.1) ∧ M' = o.2) : Rc X d 112 0 [some (.ref (0)), some (.int (a1)), none, none] [] M v M' := by
  obtain ⟨d, rfl⟩ : ∃ e, d = e + 1 := ⟨d - 1, by omega⟩
  unfold F_112 at h
  refine Rc.run tb_112 2 (pc' := 2) (ls' := [some (.ref (0)), some (.int (a1)), none, none]) (st' := [.int (a1), .ref (0)]) rfl rfl ?_
  have hq1 := T_135 (X := X) (d := d) (by omega) a1 M
  have hz1 := Rc.bool mR_135 hq1
  refine Rc.callV tb_112 rfl rfl rfl mS_135 mP_135 mL_135 mO_135 rfl rfl ob_0 rfl rfl hq1 ?_
  refine Rc.if_ne (pc1 := 14) tb_112 rfl rfl (by decide) (by decide) (fun hb12 => ?_) (fun hb12 => ?_)
  · rw [if_pos hb12] at h
    refine Rc.run tb_112 2 (pc' := 10) (ls' := [some (.ref (0)), some (.int (a1)), none, none]) (st' := [.int (1), .ref (0)]) rfl rfl ?_
    cases hc2 : F_132 (1 : Int32) M with
    | none => rw [hc2] at h; cases h
    | some r2 =>
      obtain ⟨c2, M2⟩ := r2
      rw [hc2] at h
      dsimp only at h
      have hq2 := T_132 (X := X) (d := d) (by omega) (M := M) hc2
      refine Rc.callV tb_112 rfl rfl rfl mS_132 mP_132 mL_132 mO_132 rfl rfl ob_0 rfl rfl hq2 ?_
      obtain rfl := Option.some.inj h
      obtain ⟨rfl, rfl⟩ := hC
      exact Rc.iret (ins := .ireturn) tb_112 rfl mR_112
  · rw [if_neg hb12] at h
    refine Rc.run tb_112 2 (pc' := 16) (ls' := [some (.ref (0)), some (.int (a1)), some (.int (0)), none]) (st' := []) rfl rfl ?_
    refine Rc.mask (b := 7) ((tb_112.2 16).trans rfl) (ls' := [some (.ref (0)), some (.int (a1)), some (.int (0)), none]) rfl ?_
    cases hl10 : L_112_16 a1 0 M with
    | none => rw [hl10] at h; cases h
    | some rr10 =>
      rw [hl10] at h
      cases rr10 with
      | inl r10 =>
        obtain ⟨x2_10, M10⟩ := r10
        dsimp only at h
        refine TL_112_16 (X := X) (d := d + 1) (by omega) hl10 ?_
        refine Rc.mask (b := 1) ((tb_112.2 70).trans rfl) (ls' := [some (.ref (0)), none, none, none]) rfl ?_
        exact TJ_112_70 (X := X) (d := d + 1) (by omega) h hC
      | inr q =>
        dsimp only at h
        refine TL_112_16 (X := X) (d := d + 1) (by omega) hl10 ?_
        obtain rfl := Option.some.inj h
        obtain ⟨rfl, rfl⟩ := hC
        exact ⟨rfl, rfl⟩
theorem T_112 {X : AX} {d : Nat} (hd : 5 ≤ d) {a1 : Int32} {M : IM} {x : Int32} {M1 : IM} (h : F_112 a1 M = some (x, M1)) : Rc X d 112 0 [some (.ref (0)), some (.int (a1)), none, none] [] M (some (.int x)) M1 := TF_112 hd h ⟨rfl, rfl⟩
/-! 113: NineDemands.show -/
def J_113_14 (M : IM) : Option (Int32 × IM) := (match F_132 (1 : Int32) M with | none => none | some (c2, M2) => (some ((c2, M2))))
def F_113 (a1 : Int32) (a2 : Int32) (M : IM) : Option (Int32 × IM) := if F_135 a1 M = 0 then (J_113_14 M) else (if ((-2) : Int32) ≤ a2 then (match F_40 1 a1 M with | none => none | some M3 => (if a2 = (-1) then (some ((M3 62 2, M3))) else (if a2 = (-2) then (if M3 62 3 = 0 then (some ((0, M3))) else (some ((1, M3)))) else (if M3 62 2 ≤ a2 then (match F_132 (2 : Int32) M3 with | none => none | some (c5, M5) => (some ((c5, M5)))) else (if inb a2 36 = true then (some ((M3 64 a2.toNatClampNeg, M3))) else none))))) else (J_113_14 M))
theorem TJ_113_14 {X : AX} {d : Nat} (hd : 6 ≤ d) {M : IM} {v : Option Value} {M' : IM} {o : Int32 × IM} (h : J_113_14 M = some o) (hC : v = some (.int o.1) ∧ M' = o.2) : Rc X d 113 14 [some (.ref (0)), none, none] [] M v M' := by
  obtain ⟨d, rfl⟩ : ∃ e, d = e + 1 := ⟨d - 1, by omega⟩
  unfold J_113_14 at h
  refine Rc.run tb_113 2 (pc' := 16) (ls' := [some (.ref (0)), none, none]) (st' := [.int (1), .ref (0)]) rfl rfl ?_
  cases hc2 : F_132 (1 : Int32) M with
  | none => rw [hc2] at h; cases h
  | some r2 =>
    obtain ⟨c2, M2⟩ := r2
    rw [hc2] at h
    dsimp only at h
    have hq2 := T_132 (X := X) (d := d) (by omega) (M := M) hc2
    refine Rc.callV tb_113 rfl rfl rfl mS_132 mP_132 mL_132 mO_132 rfl rfl ob_0 rfl rfl hq2 ?_
    obtain rfl := Option.some.inj h
    obtain ⟨rfl, rfl⟩ := hC
    exact Rc.iret (ins := .ireturn) tb_113 rfl mR_113
theorem TF_113 {X : AX} {d : Nat} (hd : 6 ≤ d) {a1 : Int32} {a2 : Int32} {M : IM} {v : Option Value} {M' : IM} {o : Int32 × IM} (h : F_113 a1 a2 M = some o) (hC : v = some (.int o.1) ∧ M' = o.2) : Rc X d 113 0 [some (.ref (0)), some (.int (a1)), some (.int (a2))] [] M v M' := by
  obtain ⟨d, rfl⟩ : ∃ e, d = e + 1 := ⟨d - 1, by omega⟩
  unfold F_113 at h
  refine Rc.run tb_113 2 (pc' := 2) (ls' := [some (.ref (0)), some (.int (a1)), some (.int (a2))]) (st' := [.int (a1), .ref (0)]) rfl rfl ?_
  have hq1 := T_135 (X := X) (d := d) (by omega) a1 M
  have hz1 := Rc.bool mR_135 hq1
  refine Rc.callV tb_113 rfl rfl rfl mS_135 mP_135 mL_135 mO_135 rfl rfl ob_0 rfl rfl hq1 ?_
  refine Rc.if_eq (pc1 := 14) tb_113 rfl rfl (by decide) (by decide) (fun hb11 => ?_) (fun hb11 => ?_)
  · rw [if_pos hb11] at h
    refine Rc.mask (b := 1) ((tb_113.2 14).trans rfl) (ls' := [some (.ref (0)), none, none]) rfl ?_
    exact TJ_113_14 (X := X) (d := d + 1) (by omega) h hC
  · rw [if_neg hb11] at h
    refine Rc.run tb_113 2 (pc' := 11) (ls' := [some (.ref (0)), some (.int (a1)), some (.int (a2))]) (st' := [.int ((-2)), .int (a2)]) rfl rfl ?_
    refine Rc.icmp_ge (pc1 := 20) tb_113 rfl rfl (by decide) (by decide) (fun hb10 => ?_) (fun hb10 => ?_)
    · rw [if_pos hb10] at h
      refine Rc.run tb_113 1 (pc' := 21) (ls' := [some (.ref (0)), some (.int (a1)), some (.int (a2))]) (st' := [.ref (0)]) rfl rfl ?_
      refine Rc.getR tb_113 rfl rfl ob_0 (by decide +kernel) tg_0_8 (by decide) ?_
      refine Rc.run tb_113 1 (pc' := 25) (ls' := [some (.ref (0)), some (.int (a1)), some (.int (a2))]) (st' := [.ref (0), .ref (62)]) rfl rfl ?_
      refine Rc.getR tb_113 rfl rfl ob_0 (by decide +kernel) tg_0_0 (by decide) ?_
      refine Rc.run tb_113 1 (pc' := 29) (ls' := [some (.ref (0)), some (.int (a1)), some (.int (a2))]) (st' := [.int (a1), .ref (1), .ref (62)]) rfl rfl ?_
      cases hc3 : F_40 1 a1 M with
      | none => rw [hc3] at h; cases h
      | some M3 =>
        rw [hc3] at h
        dsimp only at h
        have hq3 := T_40 (X := X) (d := d) (by omega) (M := M) vh_1 hc3
        refine Rc.callV tb_113 rfl rfl rfl mS_40 mP_40 mL_40 mO_40 rfl rfl ob_62 rfl rfl hq3 ?_
        refine Rc.run tb_113 2 (pc' := 34) (ls' := [some (.ref (0)), some (.int (a1)), some (.int (a2))]) (st' := [.int ((-1)), .int (a2)]) rfl rfl ?_
        refine Rc.icmp_ne (pc1 := 45) tb_113 rfl rfl (by decide) (by decide) (fun hb9 => ?_) (fun hb9 => ?_)
        · rw [if_pos hb9] at h
          refine Rc.run tb_113 1 (pc' := 38) (ls' := [some (.ref (0)), some (.int (a1)), some (.int (a2))]) (st' := [.ref (0)]) rfl rfl ?_
          refine Rc.getR tb_113 rfl rfl ob_0 (by decide +kernel) tg_0_8 (by decide) ?_
          refine Rc.getI tb_113 rfl rfl ob_62 (by decide +kernel) tg_62_2 ?_
          obtain rfl := Option.some.inj h
          obtain ⟨rfl, rfl⟩ := hC
          exact Rc.iret (ins := .ireturn) tb_113 rfl mR_113
        · rw [if_neg hb9] at h
          refine Rc.run tb_113 2 (pc' := 48) (ls' := [some (.ref (0)), some (.int (a1)), some (.int (a2))]) (st' := [.int ((-2)), .int (a2)]) rfl rfl ?_
          refine Rc.icmp_ne (pc1 := 67) tb_113 rfl rfl (by decide) (by decide) (fun hb8 => ?_) (fun hb8 => ?_)
          · rw [if_pos hb8] at h
            refine Rc.run tb_113 1 (pc' := 52) (ls' := [some (.ref (0)), some (.int (a1)), some (.int (a2))]) (st' := [.ref (0)]) rfl rfl ?_
            refine Rc.getR tb_113 rfl rfl ob_0 (by decide +kernel) tg_0_8 (by decide) ?_
            refine Rc.getI tb_113 rfl rfl ob_62 (by decide +kernel) tg_62_3 ?_
            refine Rc.if_eq (pc1 := 65) tb_113 rfl rfl (by decide) (by decide) (fun hb4 => ?_) (fun hb4 => ?_)
            · rw [if_pos hb4] at h
              refine Rc.run tb_113 1 (pc' := 66) (ls' := [some (.ref (0)), some (.int (a1)), some (.int (a2))]) (st' := [.int (0)]) rfl rfl ?_
              obtain rfl := Option.some.inj h
              obtain ⟨rfl, rfl⟩ := hC
              exact Rc.iret (ins := .ireturn) tb_113 rfl mR_113
            · rw [if_neg hb4] at h
              refine Rc.run tb_113 2 (pc' := 66) (ls' := [some (.ref (0)), some (.int (a1)), some (.int (a2))]) (st' := [.int (1)]) rfl rfl ?_
              obtain rfl := Option.some.inj h
              obtain ⟨rfl, rfl⟩ := hC
              exact Rc.iret (ins := .ireturn) tb_113 rfl mR_113
          · rw [if_neg hb8] at h
            refine Rc.run tb_113 2 (pc' := 69) (ls' := [some (.ref (0)), some (.int (a1)), some (.int (a2))]) (st' := [.ref (0), .int (a2)]) rfl rfl ?_
            refine Rc.getR tb_113 rfl rfl ob_0 (by decide +kernel) tg_0_8 (by decide) ?_
            refine Rc.getI tb_113 rfl rfl ob_62 (by decide +kernel) tg_62_2 ?_
            refine Rc.icmp_ge (pc1 := 90) tb_113 rfl rfl (by decide) (by decide) (fun hb7 => ?_) (fun hb7 => ?_)
            · rw [if_pos hb7] at h
              refine Rc.run tb_113 2 (pc' := 92) (ls' := [some (.ref (0)), some (.int (a1)), some (.int (a2))]) (st' := [.int (2), .ref (0)]) rfl rfl ?_
              cases hc5 : F_132 (2 : Int32) M3 with
              | none => rw [hc5] at h; cases h
              | some r5 =>
                obtain ⟨c5, M5⟩ := r5
                rw [hc5] at h
                dsimp only at h
                have hq5 := T_132 (X := X) (d := d) (by omega) (M := M3) hc5
                refine Rc.callV tb_113 rfl rfl rfl mS_132 mP_132 mL_132 mO_132 rfl rfl ob_0 rfl rfl hq5 ?_
                obtain rfl := Option.some.inj h
                obtain ⟨rfl, rfl⟩ := hC
                exact Rc.iret (ins := .ireturn) tb_113 rfl mR_113
            · rw [if_neg hb7] at h
              refine Rc.run tb_113 1 (pc' := 79) (ls' := [some (.ref (0)), some (.int (a1)), some (.int (a2))]) (st' := [.ref (0)]) rfl rfl ?_
              refine Rc.getR tb_113 rfl rfl ob_0 (by decide +kernel) tg_0_8 (by decide) ?_
              refine Rc.getR tb_113 rfl rfl ob_62 (by decide +kernel) tg_62_1 (by decide) ?_
              refine Rc.run tb_113 1 (pc' := 86) (ls' := [some (.ref (0)), some (.int (a1)), some (.int (a2))]) (st' := [.int (a2), .ref (64)]) rfl rfl ?_
              by_cases hb6 : inb a2 36 = true
              · rw [if_pos hb6] at h
                refine Rc.iald tb_113 rfl rfl ia_64 hb6 ?_
                refine Rc.run tb_113 1 (pc' := 95) (ls' := [some (.ref (0)), some (.int (a1)), some (.int (a2))]) (st' := [.int (M3 64 a2.toNatClampNeg)]) rfl rfl ?_
                obtain rfl := Option.some.inj h
                obtain ⟨rfl, rfl⟩ := hC
                exact Rc.iret (ins := .ireturn) tb_113 rfl mR_113
              · rw [if_neg hb6] at h
                cases h
    · rw [if_neg hb10] at h
      refine Rc.mask (b := 1) ((tb_113.2 14).trans rfl) (ls' := [some (.ref (0)), none, none]) rfl ?_
      exact TJ_113_14 (X := X) (d := d + 1) (by omega) h hC
theorem T_113 {X : AX} {d : Nat} (hd : 6 ≤ d) {a1 : Int32} {a2 : Int32} {M : IM} {x : Int32} {M1 : IM} (h : F_113 a1 a2 M = some (x, M1)) : Rc X d 113 0 [some (.ref (0)), some (.int (a1)), some (.int (a2))] [] M (some (.int x)) M1 := TF_113 hd h ⟨rfl, rfl⟩
/-! 114: NineDemands.check -/
def J_114_15 (M : IM) : Option (Int32 × IM) := (match F_132 (1 : Int32) M with | none => none | some (c2, M2) => (some ((c2, M2))))
def B_114_51 (x1 : Int32) (t3 : Nat) : (Int32 × IM) → Option ((Int32 × IM) ⊕ ((Int32 × IM) ⊕ (Int32 × IM))) := fun (x4, M) => if M t3 1 ≤ x4 then (some (Sum.inr (Sum.inl (x4, M)))) else (if inb x4 40 = true then (match F_45 1 x1 (M (t3 + 1) x4.toNatClampNeg) M with | none => none | some (c7, M7) => (if c7 = 0 then (some (Sum.inr (Sum.inr (x4 + 1, M7)))) else (some (Sum.inl (x4 + 1, M7))))) else none)
def L_114_51 (x1 : Int32) (t3 : Nat) (x4 : Int32) (M : IM) : Option ((Int32 × IM) ⊕ (Int32 × IM)) := loopN (B_114_51 x1 t3) FU (x4, M)
def J_114_93 (t3 : Nat) (M : IM) : Option (Int32 × IM) := if M 62 3 = 0 then (some (((M t3 1) + 1, M))) else (some ((0, M)))
def F_114 (a1 : Int32) (a2 : Int32) (M : IM) : Option (Int32 × IM) := if F_135 a1 M = 0 then (J_114_15 M) else (if F_136 a2 = 0 then (J_114_15 M) else (if inb a2 4 = true then (if F_34 (69 + 2 * a2.toNatClampNeg) M = 0 then (match F_39 M with | none => none | some M6 => (match L_114_51 a1 (69 + 2 * a2.toNatClampNeg) 0 M6 with | none => none | some (.inl (x4_11, M11)) => (J_114_93 (69 + 2 * a2.toNatClampNeg) M11) | some (.inr q) => some (q))) else (match F_132 (2 : Int32) M with | none => none | some (c13, M13) => (some ((c13, M13))))) else none))
theorem TJ_114_15 {X : AX} {d : Nat} (hd : 6 ≤ d) {M : IM} {v : Option Value} {M' : IM} {o : Int32 × IM} (h : J_114_15 M = some o) (hC : v = some (.int o.1) ∧ M' = o.2) : Rc X d 114 15 [some (.ref (0)), none, none, none, none] [] M v M' := by
  obtain ⟨d, rfl⟩ : ∃ e, d = e + 1 := ⟨d - 1, by omega⟩
  unfold J_114_15 at h
  refine Rc.run tb_114 2 (pc' := 17) (ls' := [some (.ref (0)), none, none, none, none]) (st' := [.int (1), .ref (0)]) rfl rfl ?_
  cases hc2 : F_132 (1 : Int32) M with
  | none => rw [hc2] at h; cases h
  | some r2 =>
    obtain ⟨c2, M2⟩ := r2
    rw [hc2] at h
    dsimp only at h
    have hq2 := T_132 (X := X) (d := d) (by omega) (M := M) hc2
    refine Rc.callV tb_114 rfl rfl rfl mS_132 mP_132 mL_132 mO_132 rfl rfl ob_0 rfl rfl hq2 ?_
    obtain rfl := Option.some.inj h
    obtain ⟨rfl, rfl⟩ := hC
    exact Rc.iret (ins := .ireturn) tb_114 rfl mR_114
theorem TB_114_51 {X : AX} {d : Nat} (hd : 6 ≤ d) {x1 : Int32} {t3 : Nat} (ht3 : ShH t3) {v : Option Value} {M' : IM} : ∀ (s : Int32 × IM) (o : (Int32 × IM) ⊕ ((Int32 × IM) ⊕ (Int32 × IM))), B_114_51 x1 t3 s = some o → (∀ s', o = .inl s' → (fun (x4, M) => Rc X d 114 51 [some (.ref (0)), some (.int (x1)), none, some (.ref (t3)), some (.int (x4))] [] M v M') s') → (∀ r, o = .inr r → (fun r => match r with | .inl (x4, M) => Rc X d 114 93 [some (.ref (0)), none, none, some (.ref (t3)), none] [] M v M' | .inr q => v = some (.int q.1) ∧ M' = q.2) r) → (fun (x4, M) => Rc X d 114 51 [some (.ref (0)), some (.int (x1)), none, some (.ref (t3)), some (.int (x4))] [] M v M') s := by
  rintro ⟨x4, M⟩ o h hP hE
  show Rc X d 114 51 [some (.ref (0)), some (.int (x1)), none, some (.ref (t3)), some (.int (x4))] [] M v M'
  obtain ⟨d, rfl⟩ : ∃ e, d = e + 1 := ⟨d - 1, by omega⟩
  unfold B_114_51 at h
  dsimp only at h hP hE
  refine Rc.run tb_114 2 (pc' := 54) (ls' := [some (.ref (0)), some (.int (x1)), none, some (.ref (t3)), some (.int (x4))]) (st' := [.ref (t3), .int (x4)]) rfl rfl ?_
  refine Rc.getI tb_114 rfl rfl (ShH.ob ht3) (by decide +kernel) (ShH.f1 ht3) ?_
  refine Rc.icmp_ge (pc1 := 93) tb_114 rfl rfl (by decide) (by decide) (fun hb10 => ?_) (fun hb10 => ?_)
  · rw [if_pos hb10] at h
    refine Rc.mask (b := 9) ((tb_114.2 93).trans rfl) (ls' := [some (.ref (0)), none, none, some (.ref (t3)), none]) rfl ?_
    obtain rfl := Option.some.inj h
    exact hE _ rfl
  · rw [if_neg hb10] at h
    refine Rc.run tb_114 1 (pc' := 61) (ls' := [some (.ref (0)), some (.int (x1)), none, some (.ref (t3)), some (.int (x4))]) (st' := [.ref (0)]) rfl rfl ?_
    refine Rc.getR tb_114 rfl rfl ob_0 (by decide +kernel) tg_0_8 (by decide) ?_
    refine Rc.run tb_114 1 (pc' := 65) (ls' := [some (.ref (0)), some (.int (x1)), none, some (.ref (t3)), some (.int (x4))]) (st' := [.ref (0), .ref (62)]) rfl rfl ?_
    refine Rc.getR tb_114 rfl rfl ob_0 (by decide +kernel) tg_0_0 (by decide) ?_
    refine Rc.run tb_114 2 (pc' := 70) (ls' := [some (.ref (0)), some (.int (x1)), none, some (.ref (t3)), some (.int (x4))]) (st' := [.ref (t3), .int (x1), .ref (1), .ref (62)]) rfl rfl ?_
    refine Rc.getR tb_114 rfl rfl (ShH.ob ht3) (by decide +kernel) (ShH.f2 ht3) (by have := ShH.lt ht3; omega) ?_
    refine Rc.run tb_114 1 (pc' := 75) (ls' := [some (.ref (0)), some (.int (x1)), none, some (.ref (t3)), some (.int (x4))]) (st' := [.int (x4), .ref ((t3 + 1)), .int (x1), .ref (1), .ref (62)]) rfl rfl ?_
    by_cases hb9 : inb x4 40 = true
    · rw [if_pos hb9] at h
      refine Rc.iald tb_114 rfl rfl (ShH.row ht3) hb9 ?_
      cases hc7 : F_45 1 x1 (M (t3 + 1) x4.toNatClampNeg) M with
      | none => rw [hc7] at h; cases h
      | some r7 =>
        obtain ⟨c7, M7⟩ := r7
        rw [hc7] at h
        dsimp only at h
        have hq7 := T_45 (X := X) (d := d) (by omega) (M := M) vh_1 hc7
        have hz7 := Rc.bool mR_45 hq7
        refine Rc.callV tb_114 rfl rfl rfl mS_45 mP_45 mL_45 mO_45 rfl rfl ob_62 rfl rfl hq7 ?_
        refine Rc.if_ne (pc1 := 87) tb_114 rfl rfl (by decide) (by decide) (fun hb8 => ?_) (fun hb8 => ?_)
        · rw [if_pos hb8] at h
          refine Rc.run tb_114 3 (pc' := 86) (ls' := [some (.ref (0)), some (.int (x1)), none, some (.ref (t3)), some (.int (x4))]) (st' := [.int (x4 + 1)]) rfl rfl ?_
          obtain rfl := Option.some.inj h
          obtain ⟨rfl, rfl⟩ := hE _ rfl
          exact Rc.iret (ins := .ireturn) tb_114 rfl mR_114
        · rw [if_neg hb8] at h
          refine Rc.run tb_114 2 (pc' := 51) (ls' := [some (.ref (0)), some (.int (x1)), none, some (.ref (t3)), some (.int (x4 + 1))]) (st' := []) rfl rfl ?_
          refine Rc.mask (b := 27) ((tb_114.2 51).trans rfl) (ls' := [some (.ref (0)), some (.int (x1)), none, some (.ref (t3)), some (.int (x4 + 1))]) rfl ?_
          obtain rfl := Option.some.inj h
          exact hP _ rfl
    · rw [if_neg hb9] at h
      cases h
theorem TL_114_51 {X : AX} {d : Nat} (hd : 6 ≤ d) {x1 : Int32} {t3 : Nat} {x4 : Int32} {M : IM} (ht3 : ShH t3) {v : Option Value} {M' : IM} {r : (Int32 × IM) ⊕ (Int32 × IM)} (h : L_114_51 x1 t3 x4 M = some r) (hE : (fun r => match r with | .inl (x4, M) => Rc X d 114 93 [some (.ref (0)), none, none, some (.ref (t3)), none] [] M v M' | .inr q => v = some (.int q.1) ∧ M' = q.2) r) : Rc X d 114 51 [some (.ref (0)), some (.int (x1)), none, some (.ref (t3)), some (.int (x4))] [] M v M' := by
  exact loopN_rc (P := fun (x4, M) => Rc X d 114 51 [some (.ref (0)), some (.int (x1)), none, some (.ref (t3)), some (.int (x4))] [] M v M') (E := fun r => match r with | .inl (x4, M) => Rc X d 114 93 [some (.ref (0)), none, none, some (.ref (t3)), none] [] M v M' | .inr q => v = some (.int q.1) ∧ M' = q.2) (TB_114_51 (X := X) hd ht3) FU _ r h hE
theorem TJ_114_93 {X : AX} {d : Nat} (hd : 6 ≤ d) {t3 : Nat} {M : IM} (ht3 : ShH t3) {v : Option Value} {M' : IM} {o : Int32 × IM} (h : J_114_93 t3 M = some o) (hC : v = some (.int o.1) ∧ M' = o.2) : Rc X d 114 93 [some (.ref (0)), none, none, some (.ref (t3)), none] [] M v M' := by
  obtain ⟨d, rfl⟩ : ∃ e, d = e + 1 := ⟨d - 1, by omega⟩
  unfold J_114_93 at h
  refine Rc.run tb_114 1 (pc' := 94) (ls' := [some (.ref (0)), none, none, some (.ref (t3)), none]) (st' := [.ref (0)]) rfl rfl ?_
  refine Rc.getR tb_114 rfl rfl ob_0 (by decide +kernel) tg_0_8 (by decide) ?_
  refine Rc.getI tb_114 rfl rfl ob_62 (by decide +kernel) tg_62_3 ?_
  refine Rc.if_eq (pc1 := 107) tb_114 rfl rfl (by decide) (by decide) (fun hb12 => ?_) (fun hb12 => ?_)
  · rw [if_pos hb12] at h
    refine Rc.run tb_114 1 (pc' := 108) (ls' := [some (.ref (0)), none, none, some (.ref (t3)), none]) (st' := [.ref (t3)]) rfl rfl ?_
    refine Rc.getI tb_114 rfl rfl (ShH.ob ht3) (by decide +kernel) (ShH.f1 ht3) ?_
    refine Rc.run tb_114 2 (pc' := 113) (ls' := [some (.ref (0)), none, none, some (.ref (t3)), none]) (st' := [.int ((M t3 1) + 1)]) rfl rfl ?_
    obtain rfl := Option.some.inj h
    obtain ⟨rfl, rfl⟩ := hC
    exact Rc.iret (ins := .ireturn) tb_114 rfl mR_114
  · rw [if_neg hb12] at h
    refine Rc.run tb_114 2 (pc' := 113) (ls' := [some (.ref (0)), none, none, some (.ref (t3)), none]) (st' := [.int (0)]) rfl rfl ?_
    obtain rfl := Option.some.inj h
    obtain ⟨rfl, rfl⟩ := hC
    exact Rc.iret (ins := .ireturn) tb_114 rfl mR_114
theorem TF_114 {X : AX} {d : Nat} (hd : 6 ≤ d) {a1 : Int32} {a2 : Int32} {M : IM} {v : Option Value} {M' : IM} {o : Int32 × IM} (h : F_114 a1 a2 M = some o) (hC : v = some (.int o.1) ∧ M' = o.2) : Rc X d 114 0 [some (.ref (0)), some (.int (a1)), some (.int (a2)), none, none] [] M v M' := by
  obtain ⟨d, rfl⟩ : ∃ e, d = e + 1 := ⟨d - 1, by omega⟩
  unfold F_114 at h
  refine Rc.run tb_114 2 (pc' := 2) (ls' := [some (.ref (0)), some (.int (a1)), some (.int (a2)), none, none]) (st' := [.int (a1), .ref (0)]) rfl rfl ?_
  have hq1 := T_135 (X := X) (d := d) (by omega) a1 M
  have hz1 := Rc.bool mR_135 hq1
  refine Rc.callV tb_114 rfl rfl rfl mS_135 mP_135 mL_135 mO_135 rfl rfl ob_0 rfl rfl hq1 ?_
  refine Rc.if_eq (pc1 := 15) tb_114 rfl rfl (by decide) (by decide) (fun hb16 => ?_) (fun hb16 => ?_)
  · rw [if_pos hb16] at h
    refine Rc.mask (b := 1) ((tb_114.2 15).trans rfl) (ls' := [some (.ref (0)), none, none, none, none]) rfl ?_
    exact TJ_114_15 (X := X) (d := d + 1) (by omega) h hC
  · rw [if_neg hb16] at h
    refine Rc.run tb_114 1 (pc' := 9) (ls' := [some (.ref (0)), some (.int (a1)), some (.int (a2)), none, none]) (st' := [.int (a2)]) rfl rfl ?_
    have hq3 := T_136 (X := X) (d := d) (by omega) a2 M
    have hz3 := Rc.bool mR_136 hq3
    refine Rc.callS tb_114 rfl rfl rfl mS_136 mP_136 mL_136 rfl rfl rfl hq3 ?_
    refine Rc.if_ne (pc1 := 21) tb_114 rfl rfl (by decide) (by decide) (fun hb15 => ?_) (fun hb15 => ?_)
    · rw [if_pos hb15] at h
      refine Rc.mask (b := 1) ((tb_114.2 15).trans rfl) (ls' := [some (.ref (0)), none, none, none, none]) rfl ?_
      exact TJ_114_15 (X := X) (d := d + 1) (by omega) h hC
    · rw [if_neg hb15] at h
      refine Rc.run tb_114 1 (pc' := 22) (ls' := [some (.ref (0)), some (.int (a1)), some (.int (a2)), none, none]) (st' := [.ref (0)]) rfl rfl ?_
      refine Rc.getR tb_114 rfl rfl ob_0 (by decide +kernel) tg_0_4 (by decide) ?_
      refine Rc.run tb_114 1 (pc' := 26) (ls' := [some (.ref (0)), some (.int (a1)), some (.int (a2)), none, none]) (st' := [.int (a2), .ref (44)]) rfl rfl ?_
      by_cases hb4 : inb a2 4 = true
      · rw [if_pos hb4] at h
        refine Rc.aald tb_114 rfl rfl (by decide) (Or.inr (by decide +kernel)) (by rw [ln_44]; exact hb4) (sa_44 hb4) (ShH.lt0 (shEl hb4)) ?_
        refine Rc.run tb_114 2 (pc' := 29) (ls' := [some (.ref (0)), some (.int (a1)), some (.int (a2)), some (.ref ((69 + 2 * a2.toNatClampNeg))), none]) (st' := [.ref ((69 + 2 * a2.toNatClampNeg))]) rfl rfl ?_
        have hq5 := T_34 (X := X) (d := d) (by omega) (shEl hb4) M
        have hz5 := Rc.bool mR_34 hq5
        refine Rc.callV tb_114 rfl rfl rfl mS_34 mP_34 mL_34 mO_34 rfl rfl (ShH.ob (shEl hb4)) rfl rfl hq5 ?_
        refine Rc.if_eq (pc1 := 41) tb_114 rfl rfl (by decide) (by decide) (fun hb14 => ?_) (fun hb14 => ?_)
        · rw [if_pos hb14] at h
          refine Rc.run tb_114 1 (pc' := 42) (ls' := [some (.ref (0)), some (.int (a1)), some (.int (a2)), some (.ref ((69 + 2 * a2.toNatClampNeg))), none]) (st' := [.ref (0)]) rfl rfl ?_
          refine Rc.getR tb_114 rfl rfl ob_0 (by decide +kernel) tg_0_8 (by decide) ?_
          cases hc6 : F_39 M with
          | none => rw [hc6] at h; cases h
          | some M6 =>
            rw [hc6] at h
            dsimp only at h
            have hq6 := T_39 (X := X) (d := d) (by omega) (M := M) hc6
            refine Rc.callV tb_114 rfl rfl rfl mS_39 mP_39 mL_39 mO_39 rfl rfl ob_62 rfl rfl hq6 ?_
            refine Rc.run tb_114 2 (pc' := 51) (ls' := [some (.ref (0)), some (.int (a1)), some (.int (a2)), some (.ref ((69 + 2 * a2.toNatClampNeg))), some (.int (0))]) (st' := []) rfl rfl ?_
            refine Rc.mask (b := 27) ((tb_114.2 51).trans rfl) (ls' := [some (.ref (0)), some (.int (a1)), none, some (.ref ((69 + 2 * a2.toNatClampNeg))), some (.int (0))]) rfl ?_
            cases hl11 : L_114_51 a1 (69 + 2 * a2.toNatClampNeg) 0 M6 with
            | none => rw [hl11] at h; cases h
            | some rr11 =>
              rw [hl11] at h
              cases rr11 with
              | inl r11 =>
                obtain ⟨x4_11, M11⟩ := r11
                dsimp only at h
                refine TL_114_51 (X := X) (d := d + 1) (by omega) (shEl hb4) hl11 ?_
                refine Rc.mask (b := 9) ((tb_114.2 93).trans rfl) (ls' := [some (.ref (0)), none, none, some (.ref ((69 + 2 * a2.toNatClampNeg))), none]) rfl ?_
                exact TJ_114_93 (X := X) (d := d + 1) (by omega) (shEl hb4) h hC
              | inr q =>
                dsimp only at h
                refine TL_114_51 (X := X) (d := d + 1) (by omega) (shEl hb4) hl11 ?_
                obtain rfl := Option.some.inj h
                obtain ⟨rfl, rfl⟩ := hC
                exact ⟨rfl, rfl⟩
        · rw [if_neg hb14] at h
          refine Rc.run tb_114 2 (pc' := 37) (ls' := [some (.ref (0)), some (.int (a1)), some (.int (a2)), some (.ref ((69 + 2 * a2.toNatClampNeg))), none]) (st' := [.int (2), .ref (0)]) rfl rfl ?_
          cases hc13 : F_132 (2 : Int32) M with
          | none => rw [hc13] at h; cases h
          | some r13 =>
            obtain ⟨c13, M13⟩ := r13
            rw [hc13] at h
            dsimp only at h
            have hq13 := T_132 (X := X) (d := d) (by omega) (M := M) hc13
            refine Rc.callV tb_114 rfl rfl rfl mS_132 mP_132 mL_132 mO_132 rfl rfl ob_0 rfl rfl hq13 ?_
            obtain rfl := Option.some.inj h
            obtain ⟨rfl, rfl⟩ := hC
            exact Rc.iret (ins := .ireturn) tb_114 rfl mR_114
      · rw [if_neg hb4] at h
        cases h
theorem T_114 {X : AX} {d : Nat} (hd : 6 ≤ d) {a1 : Int32} {a2 : Int32} {M : IM} {x : Int32} {M1 : IM} (h : F_114 a1 a2 M = some (x, M1)) : Rc X d 114 0 [some (.ref (0)), some (.int (a1)), some (.int (a2)), none, none] [] M (some (.int x)) M1 := TF_114 hd h ⟨rfl, rfl⟩
/-! 122: NineDemands.trace -/
def J_122_27 (M : IM) : Option (Int32 × IM) := (match F_132 (2 : Int32) M with | none => none | some (c1, M1) => (some ((c1, M1))))
def F_122 (a1 : Int32) (M : IM) : Option (Int32 × IM) := if a1 < 0 then (J_122_27 M) else (if M 65 1 ≤ a1 then (J_122_27 M) else (if inb a1 40 = true then (some ((M 66 a1.toNatClampNeg, M))) else none))
theorem TJ_122_27 {X : AX} {d : Nat} (hd : 1 ≤ d) {M : IM} {v : Option Value} {M' : IM} {o : Int32 × IM} (h : J_122_27 M = some o) (hC : v = some (.int o.1) ∧ M' = o.2) : Rc X d 122 27 [some (.ref (0)), none] [] M v M' := by
  obtain ⟨d, rfl⟩ : ∃ e, d = e + 1 := ⟨d - 1, by omega⟩
  unfold J_122_27 at h
  refine Rc.run tb_122 2 (pc' := 29) (ls' := [some (.ref (0)), none]) (st' := [.int (2), .ref (0)]) rfl rfl ?_
  cases hc1 : F_132 (2 : Int32) M with
  | none => rw [hc1] at h; cases h
  | some r1 =>
    obtain ⟨c1, M1⟩ := r1
    rw [hc1] at h
    dsimp only at h
    have hq1 := T_132 (X := X) (d := d) (by omega) (M := M) hc1
    refine Rc.callV tb_122 rfl rfl rfl mS_132 mP_132 mL_132 mO_132 rfl rfl ob_0 rfl rfl hq1 ?_
    obtain rfl := Option.some.inj h
    obtain ⟨rfl, rfl⟩ := hC
    exact Rc.iret (ins := .ireturn) tb_122 rfl mR_122
theorem TF_122 {X : AX} {d : Nat} (hd : 1 ≤ d) {a1 : Int32} {M : IM} {v : Option Value} {M' : IM} {o : Int32 × IM} (h : F_122 a1 M = some o) (hC : v = some (.int o.1) ∧ M' = o.2) : Rc X d 122 0 [some (.ref (0)), some (.int (a1))] [] M v M' := by
  obtain ⟨d, rfl⟩ : ∃ e, d = e + 1 := ⟨d - 1, by omega⟩
  unfold F_122 at h
  refine Rc.run tb_122 1 (pc' := 1) (ls' := [some (.ref (0)), some (.int (a1))]) (st' := [.int (a1)]) rfl rfl ?_
  refine Rc.if_lt (pc1 := 27) tb_122 rfl rfl (by decide) (by decide) (fun hb4 => ?_) (fun hb4 => ?_)
  · rw [if_pos hb4] at h
    refine Rc.mask (b := 1) ((tb_122.2 27).trans rfl) (ls' := [some (.ref (0)), none]) rfl ?_
    exact TJ_122_27 (X := X) (d := d + 1) (by omega) h hC
  · rw [if_neg hb4] at h
    refine Rc.run tb_122 2 (pc' := 6) (ls' := [some (.ref (0)), some (.int (a1))]) (st' := [.ref (0), .int (a1)]) rfl rfl ?_
    refine Rc.getR tb_122 rfl rfl ob_0 (by decide +kernel) tg_0_9 (by decide) ?_
    refine Rc.getI tb_122 rfl rfl ob_65 (by decide +kernel) tg_65_1 ?_
    refine Rc.icmp_ge (pc1 := 27) tb_122 rfl rfl (by decide) (by decide) (fun hb3 => ?_) (fun hb3 => ?_)
    · rw [if_pos hb3] at h
      refine Rc.mask (b := 1) ((tb_122.2 27).trans rfl) (ls' := [some (.ref (0)), none]) rfl ?_
      exact TJ_122_27 (X := X) (d := d + 1) (by omega) h hC
    · rw [if_neg hb3] at h
      refine Rc.run tb_122 1 (pc' := 16) (ls' := [some (.ref (0)), some (.int (a1))]) (st' := [.ref (0)]) rfl rfl ?_
      refine Rc.getR tb_122 rfl rfl ob_0 (by decide +kernel) tg_0_9 (by decide) ?_
      refine Rc.getR tb_122 rfl rfl ob_65 (by decide +kernel) tg_65_0 (by decide) ?_
      refine Rc.run tb_122 1 (pc' := 23) (ls' := [some (.ref (0)), some (.int (a1))]) (st' := [.int (a1), .ref (66)]) rfl rfl ?_
      by_cases hb2 : inb a1 40 = true
      · rw [if_pos hb2] at h
        refine Rc.iald tb_122 rfl rfl ia_66 hb2 ?_
        refine Rc.run tb_122 1 (pc' := 32) (ls' := [some (.ref (0)), some (.int (a1))]) (st' := [.int (M 66 a1.toNatClampNeg)]) rfl rfl ?_
        obtain rfl := Option.some.inj h
        obtain ⟨rfl, rfl⟩ := hC
        exact Rc.iret (ins := .ireturn) tb_122 rfl mR_122
      · rw [if_neg hb2] at h
        cases h
theorem T_122 {X : AX} {d : Nat} (hd : 1 ≤ d) {a1 : Int32} {M : IM} {x : Int32} {M1 : IM} (h : F_122 a1 M = some (x, M1)) : Rc X d 122 0 [some (.ref (0)), some (.int (a1))] [] M (some (.int x)) M1 := TF_122 hd h ⟨rfl, rfl⟩
/-! 124: NineDemands.put -/
def J_124_48 (M : IM) : Option (Int32 × IM) := (match F_132 (1 : Int32) M with | none => none | some (c5, M5) => (some ((c5, M5))))
def F_124 (a1 : Int32) (a2 : Int32) (a3 : Int32) (M : IM) : Option (Int32 × IM) := if F_136 a1 = 0 then (match F_132 (1 : Int32) M with | none => none | some (c2, M2) => (some ((c2, M2)))) else (if inb a1 4 = true then (if F_34 (69 + 2 * a1.toNatClampNeg) M = 0 then (if a2 < 0 then (J_124_48 M) else (if a2 < M (69 + 2 * a1.toNatClampNeg) 1 then (if inb a2 40 = true then (some ((1, iset M ((69 + 2 * a1.toNatClampNeg) + 1) a2.toNatClampNeg (F_36 (69 + 2 * a1.toNatClampNeg) a3 M)))) else none) else (J_124_48 M))) else (match F_132 (2 : Int32) M with | none => none | some (c10, M10) => (some ((c10, M10))))) else none)
theorem TJ_124_48 {X : AX} {d : Nat} (hd : 1 ≤ d) {M : IM} {v : Option Value} {M' : IM} {o : Int32 × IM} (h : J_124_48 M = some o) (hC : v = some (.int o.1) ∧ M' = o.2) : Rc X d 124 48 [some (.ref (0)), none, none, none, none] [] M v M' := by
  obtain ⟨d, rfl⟩ : ∃ e, d = e + 1 := ⟨d - 1, by omega⟩
  unfold J_124_48 at h
  refine Rc.run tb_124 2 (pc' := 50) (ls' := [some (.ref (0)), none, none, none, none]) (st' := [.int (1), .ref (0)]) rfl rfl ?_
  cases hc5 : F_132 (1 : Int32) M with
  | none => rw [hc5] at h; cases h
  | some r5 =>
    obtain ⟨c5, M5⟩ := r5
    rw [hc5] at h
    dsimp only at h
    have hq5 := T_132 (X := X) (d := d) (by omega) (M := M) hc5
    refine Rc.callV tb_124 rfl rfl rfl mS_132 mP_132 mL_132 mO_132 rfl rfl ob_0 rfl rfl hq5 ?_
    obtain rfl := Option.some.inj h
    obtain ⟨rfl, rfl⟩ := hC
    exact Rc.iret (ins := .ireturn) tb_124 rfl mR_124
theorem TF_124 {X : AX} {d : Nat} (hd : 1 ≤ d) {a1 : Int32} {a2 : Int32} {a3 : Int32} {M : IM} {v : Option Value} {M' : IM} {o : Int32 × IM} (h : F_124 a1 a2 a3 M = some o) (hC : v = some (.int o.1) ∧ M' = o.2) : Rc X d 124 0 [some (.ref (0)), some (.int (a1)), some (.int (a2)), some (.int (a3)), none] [] M v M' := by
  obtain ⟨d, rfl⟩ : ∃ e, d = e + 1 := ⟨d - 1, by omega⟩
  unfold F_124 at h
  refine Rc.run tb_124 1 (pc' := 1) (ls' := [some (.ref (0)), some (.int (a1)), some (.int (a2)), some (.int (a3)), none]) (st' := [.int (a1)]) rfl rfl ?_
  have hq1 := T_136 (X := X) (d := d) (by omega) a1 M
  have hz1 := Rc.bool mR_136 hq1
  refine Rc.callS tb_124 rfl rfl rfl mS_136 mP_136 mL_136 rfl rfl rfl hq1 ?_
  refine Rc.if_ne (pc1 := 13) tb_124 rfl rfl (by decide) (by decide) (fun hb12 => ?_) (fun hb12 => ?_)
  · rw [if_pos hb12] at h
    refine Rc.run tb_124 2 (pc' := 9) (ls' := [some (.ref (0)), some (.int (a1)), some (.int (a2)), some (.int (a3)), none]) (st' := [.int (1), .ref (0)]) rfl rfl ?_
    cases hc2 : F_132 (1 : Int32) M with
    | none => rw [hc2] at h; cases h
    | some r2 =>
      obtain ⟨c2, M2⟩ := r2
      rw [hc2] at h
      dsimp only at h
      have hq2 := T_132 (X := X) (d := d) (by omega) (M := M) hc2
      refine Rc.callV tb_124 rfl rfl rfl mS_132 mP_132 mL_132 mO_132 rfl rfl ob_0 rfl rfl hq2 ?_
      obtain rfl := Option.some.inj h
      obtain ⟨rfl, rfl⟩ := hC
      exact Rc.iret (ins := .ireturn) tb_124 rfl mR_124
  · rw [if_neg hb12] at h
    refine Rc.run tb_124 1 (pc' := 14) (ls' := [some (.ref (0)), some (.int (a1)), some (.int (a2)), some (.int (a3)), none]) (st' := [.ref (0)]) rfl rfl ?_
    refine Rc.getR tb_124 rfl rfl ob_0 (by decide +kernel) tg_0_4 (by decide) ?_
    refine Rc.run tb_124 1 (pc' := 18) (ls' := [some (.ref (0)), some (.int (a1)), some (.int (a2)), some (.int (a3)), none]) (st' := [.int (a1), .ref (44)]) rfl rfl ?_
    by_cases hb3 : inb a1 4 = true
    · rw [if_pos hb3] at h
      refine Rc.aald tb_124 rfl rfl (by decide) (Or.inr (by decide +kernel)) (by rw [ln_44]; exact hb3) (sa_44 hb3) (ShH.lt0 (shEl hb3)) ?_
      refine Rc.run tb_124 2 (pc' := 23) (ls' := [some (.ref (0)), some (.int (a1)), some (.int (a2)), some (.int (a3)), some (.ref ((69 + 2 * a1.toNatClampNeg)))]) (st' := [.ref ((69 + 2 * a1.toNatClampNeg))]) rfl rfl ?_
      have hq4 := T_34 (X := X) (d := d) (by omega) (shEl hb3) M
      have hz4 := Rc.bool mR_34 hq4
      refine Rc.callV tb_124 rfl rfl rfl mS_34 mP_34 mL_34 mO_34 rfl rfl (ShH.ob (shEl hb3)) rfl rfl hq4 ?_
      refine Rc.if_eq (pc1 := 35) tb_124 rfl rfl (by decide) (by decide) (fun hb11 => ?_) (fun hb11 => ?_)
      · rw [if_pos hb11] at h
        refine Rc.run tb_124 1 (pc' := 36) (ls' := [some (.ref (0)), some (.int (a1)), some (.int (a2)), some (.int (a3)), some (.ref ((69 + 2 * a1.toNatClampNeg)))]) (st' := [.int (a2)]) rfl rfl ?_
        refine Rc.if_lt (pc1 := 48) tb_124 rfl rfl (by decide) (by decide) (fun hb9 => ?_) (fun hb9 => ?_)
        · rw [if_pos hb9] at h
          refine Rc.mask (b := 1) ((tb_124.2 48).trans rfl) (ls' := [some (.ref (0)), none, none, none, none]) rfl ?_
          exact TJ_124_48 (X := X) (d := d + 1) (by omega) h hC
        · rw [if_neg hb9] at h
          refine Rc.run tb_124 2 (pc' := 42) (ls' := [some (.ref (0)), some (.int (a1)), some (.int (a2)), some (.int (a3)), some (.ref ((69 + 2 * a1.toNatClampNeg)))]) (st' := [.ref ((69 + 2 * a1.toNatClampNeg)), .int (a2)]) rfl rfl ?_
          refine Rc.getI tb_124 rfl rfl (ShH.ob (shEl hb3)) (by decide +kernel) (ShH.f1 (shEl hb3)) ?_
          refine Rc.icmp_lt (pc1 := 54) tb_124 rfl rfl (by decide) (by decide) (fun hb8 => ?_) (fun hb8 => ?_)
          · rw [if_pos hb8] at h
            refine Rc.run tb_124 1 (pc' := 56) (ls' := [some (.ref (0)), some (.int (a1)), some (.int (a2)), some (.int (a3)), some (.ref ((69 + 2 * a1.toNatClampNeg)))]) (st' := [.ref ((69 + 2 * a1.toNatClampNeg))]) rfl rfl ?_
            refine Rc.getR tb_124 rfl rfl (ShH.ob (shEl hb3)) (by decide +kernel) (ShH.f2 (shEl hb3)) (by have := ShH.lt (shEl hb3); omega) ?_
            refine Rc.run tb_124 3 (pc' := 63) (ls' := [some (.ref (0)), some (.int (a1)), some (.int (a2)), some (.int (a3)), some (.ref ((69 + 2 * a1.toNatClampNeg)))]) (st' := [.int (a3), .ref ((69 + 2 * a1.toNatClampNeg)), .int (a2), .ref (((69 + 2 * a1.toNatClampNeg) + 1))]) rfl rfl ?_
            have hq6 := T_36 (X := X) (d := d) (by omega) (shEl hb3) a3 M
            refine Rc.callV tb_124 rfl rfl rfl mS_36 mP_36 mL_36 mO_36 rfl rfl (ShH.ob (shEl hb3)) rfl rfl hq6 ?_
            by_cases hb7 : inb a2 40 = true
            · rw [if_pos hb7] at h
              refine Rc.iast tb_124 rfl rfl (ShH.row (shEl hb3)) hb7 ?_
              refine Rc.run tb_124 1 (pc' := 68) (ls' := [some (.ref (0)), some (.int (a1)), some (.int (a2)), some (.int (a3)), some (.ref ((69 + 2 * a1.toNatClampNeg)))]) (st' := [.int (1)]) rfl rfl ?_
              obtain rfl := Option.some.inj h
              obtain ⟨rfl, rfl⟩ := hC
              exact Rc.iret (ins := .ireturn) tb_124 rfl mR_124
            · rw [if_neg hb7] at h
              cases h
          · rw [if_neg hb8] at h
            refine Rc.mask (b := 1) ((tb_124.2 48).trans rfl) (ls' := [some (.ref (0)), none, none, none, none]) rfl ?_
            exact TJ_124_48 (X := X) (d := d + 1) (by omega) h hC
      · rw [if_neg hb11] at h
        refine Rc.run tb_124 2 (pc' := 31) (ls' := [some (.ref (0)), some (.int (a1)), some (.int (a2)), some (.int (a3)), some (.ref ((69 + 2 * a1.toNatClampNeg)))]) (st' := [.int (2), .ref (0)]) rfl rfl ?_
        cases hc10 : F_132 (2 : Int32) M with
        | none => rw [hc10] at h; cases h
        | some r10 =>
          obtain ⟨c10, M10⟩ := r10
          rw [hc10] at h
          dsimp only at h
          have hq10 := T_132 (X := X) (d := d) (by omega) (M := M) hc10
          refine Rc.callV tb_124 rfl rfl rfl mS_132 mP_132 mL_132 mO_132 rfl rfl ob_0 rfl rfl hq10 ?_
          obtain rfl := Option.some.inj h
          obtain ⟨rfl, rfl⟩ := hC
          exact Rc.iret (ins := .ireturn) tb_124 rfl mR_124
    · rw [if_neg hb3] at h
      cases h
theorem T_124 {X : AX} {d : Nat} (hd : 1 ≤ d) {a1 : Int32} {a2 : Int32} {a3 : Int32} {M : IM} {x : Int32} {M1 : IM} (h : F_124 a1 a2 a3 M = some (x, M1)) : Rc X d 124 0 [some (.ref (0)), some (.int (a1)), some (.int (a2)), some (.int (a3)), none] [] M (some (.int x)) M1 := TF_124 hd h ⟨rfl, rfl⟩
/-! 125: NineDemands.move -/
def J_125_14 (M : IM) : Option (Int32 × IM) := (match F_132 (1 : Int32) M with | none => none | some (c2, M2) => (some ((c2, M2))))
def J_125_100 (M : IM) : Option (Int32 × IM) := (match F_132 (1 : Int32) M with | none => none | some (c9, M9) => (some ((c9, M9))))
def J_125_52 (M : IM) : Option (Int32 × IM) := (match F_132 (2 : Int32) M with | none => none | some (c16, M16) => (some ((c16, M16))))
def F_125 (a1 : Int32) (a2 : Int32) (a3 : Int32) (a4 : Int32) (a5 : Int32) (M : IM) : Option (Int32 × IM) := if F_136 a1 = 0 then (J_125_14 M) else (if F_136 a3 = 0 then (J_125_14 M) else (if inb a1 4 = true then (if inb a3 4 = true then (if F_34 (69 + 2 * a1.toNatClampNeg) M = 0 then (if F_34 (69 + 2 * a3.toNatClampNeg) M = 0 then (if M (69 + 2 * a1.toNatClampNeg) 0 = M (69 + 2 * a3.toNatClampNeg) 0 then (if F_37 (69 + 2 * a1.toNatClampNeg) a2 a5 M = 0 then (J_125_100 M) else (if F_37 (69 + 2 * a3.toNatClampNeg) a4 a5 M = 0 then (J_125_100 M) else (if cpok 40 a2 40 a4 a5 = true then (some ((a5, icpy M ((69 + 2 * a1.toNatClampNeg) + 1) a2.toNatClampNeg ((69 + 2 * a3.toNatClampNeg) + 1) a4.toNatClampNeg a5.toNatClampNeg))) else none))) else (match F_132 (5 : Int32) M with | none => none | some (c14, M14) => (some ((c14, M14))))) else (J_125_52 M)) else (J_125_52 M)) else none) else none))
theorem TJ_125_14 {X : AX} {d : Nat} (hd : 1 ≤ d) {M : IM} {v : Option Value} {M' : IM} {o : Int32 × IM} (h : J_125_14 M = some o) (hC : v = some (.int o.1) ∧ M' = o.2) : Rc X d 125 14 [some (.ref (0)), none, none, none, none, none, none, none] [] M v M' := by
  obtain ⟨d, rfl⟩ : ∃ e, d = e + 1 := ⟨d - 1, by omega⟩
  unfold J_125_14 at h
  refine Rc.run tb_125 2 (pc' := 16) (ls' := [some (.ref (0)), none, none, none, none, none, none, none]) (st' := [.int (1), .ref (0)]) rfl rfl ?_
  cases hc2 : F_132 (1 : Int32) M with
  | none => rw [hc2] at h; cases h
  | some r2 =>
    obtain ⟨c2, M2⟩ := r2
    rw [hc2] at h
    dsimp only at h
    have hq2 := T_132 (X := X) (d := d) (by omega) (M := M) hc2
    refine Rc.callV tb_125 rfl rfl rfl mS_132 mP_132 mL_132 mO_132 rfl rfl ob_0 rfl rfl hq2 ?_
    obtain rfl := Option.some.inj h
    obtain ⟨rfl, rfl⟩ := hC
    exact Rc.iret (ins := .ireturn) tb_125 rfl mR_125
theorem TJ_125_100 {X : AX} {d : Nat} (hd : 1 ≤ d) {M : IM} {v : Option Value} {M' : IM} {o : Int32 × IM} (h : J_125_100 M = some o) (hC : v = some (.int o.1) ∧ M' = o.2) : Rc X d 125 100 [some (.ref (0)), none, none, none, none, none, none, none] [] M v M' := by
  obtain ⟨d, rfl⟩ : ∃ e, d = e + 1 := ⟨d - 1, by omega⟩
  unfold J_125_100 at h
  refine Rc.run tb_125 2 (pc' := 102) (ls' := [some (.ref (0)), none, none, none, none, none, none, none]) (st' := [.int (1), .ref (0)]) rfl rfl ?_
  cases hc9 : F_132 (1 : Int32) M with
  | none => rw [hc9] at h; cases h
  | some r9 =>
    obtain ⟨c9, M9⟩ := r9
    rw [hc9] at h
    dsimp only at h
    have hq9 := T_132 (X := X) (d := d) (by omega) (M := M) hc9
    refine Rc.callV tb_125 rfl rfl rfl mS_132 mP_132 mL_132 mO_132 rfl rfl ob_0 rfl rfl hq9 ?_
    obtain rfl := Option.some.inj h
    obtain ⟨rfl, rfl⟩ := hC
    exact Rc.iret (ins := .ireturn) tb_125 rfl mR_125
theorem TJ_125_52 {X : AX} {d : Nat} (hd : 1 ≤ d) {M : IM} {v : Option Value} {M' : IM} {o : Int32 × IM} (h : J_125_52 M = some o) (hC : v = some (.int o.1) ∧ M' = o.2) : Rc X d 125 52 [some (.ref (0)), none, none, none, none, none, none, none] [] M v M' := by
  obtain ⟨d, rfl⟩ : ∃ e, d = e + 1 := ⟨d - 1, by omega⟩
  unfold J_125_52 at h
  refine Rc.run tb_125 2 (pc' := 54) (ls' := [some (.ref (0)), none, none, none, none, none, none, none]) (st' := [.int (2), .ref (0)]) rfl rfl ?_
  cases hc16 : F_132 (2 : Int32) M with
  | none => rw [hc16] at h; cases h
  | some r16 =>
    obtain ⟨c16, M16⟩ := r16
    rw [hc16] at h
    dsimp only at h
    have hq16 := T_132 (X := X) (d := d) (by omega) (M := M) hc16
    refine Rc.callV tb_125 rfl rfl rfl mS_132 mP_132 mL_132 mO_132 rfl rfl ob_0 rfl rfl hq16 ?_
    obtain rfl := Option.some.inj h
    obtain ⟨rfl, rfl⟩ := hC
    exact Rc.iret (ins := .ireturn) tb_125 rfl mR_125
theorem TF_125 {X : AX} {d : Nat} (hd : 1 ≤ d) {a1 : Int32} {a2 : Int32} {a3 : Int32} {a4 : Int32} {a5 : Int32} {M : IM} {v : Option Value} {M' : IM} {o : Int32 × IM} (h : F_125 a1 a2 a3 a4 a5 M = some o) (hC : v = some (.int o.1) ∧ M' = o.2) : Rc X d 125 0 [some (.ref (0)), some (.int (a1)), some (.int (a2)), some (.int (a3)), some (.int (a4)), some (.int (a5)), none, none] [] M v M' := by
  obtain ⟨d, rfl⟩ : ∃ e, d = e + 1 := ⟨d - 1, by omega⟩
  unfold F_125 at h
  refine Rc.run tb_125 1 (pc' := 1) (ls' := [some (.ref (0)), some (.int (a1)), some (.int (a2)), some (.int (a3)), some (.int (a4)), some (.int (a5)), none, none]) (st' := [.int (a1)]) rfl rfl ?_
  have hq1 := T_136 (X := X) (d := d) (by omega) a1 M
  have hz1 := Rc.bool mR_136 hq1
  refine Rc.callS tb_125 rfl rfl rfl mS_136 mP_136 mL_136 rfl rfl rfl hq1 ?_
  refine Rc.if_eq (pc1 := 14) tb_125 rfl rfl (by decide) (by decide) (fun hb20 => ?_) (fun hb20 => ?_)
  · rw [if_pos hb20] at h
    refine Rc.mask (b := 1) ((tb_125.2 14).trans rfl) (ls' := [some (.ref (0)), none, none, none, none, none, none, none]) rfl ?_
    exact TJ_125_14 (X := X) (d := d + 1) (by omega) h hC
  · rw [if_neg hb20] at h
    refine Rc.run tb_125 1 (pc' := 8) (ls' := [some (.ref (0)), some (.int (a1)), some (.int (a2)), some (.int (a3)), some (.int (a4)), some (.int (a5)), none, none]) (st' := [.int (a3)]) rfl rfl ?_
    have hq3 := T_136 (X := X) (d := d) (by omega) a3 M
    have hz3 := Rc.bool mR_136 hq3
    refine Rc.callS tb_125 rfl rfl rfl mS_136 mP_136 mL_136 rfl rfl rfl hq3 ?_
    refine Rc.if_ne (pc1 := 20) tb_125 rfl rfl (by decide) (by decide) (fun hb19 => ?_) (fun hb19 => ?_)
    · rw [if_pos hb19] at h
      refine Rc.mask (b := 1) ((tb_125.2 14).trans rfl) (ls' := [some (.ref (0)), none, none, none, none, none, none, none]) rfl ?_
      exact TJ_125_14 (X := X) (d := d + 1) (by omega) h hC
    · rw [if_neg hb19] at h
      refine Rc.run tb_125 1 (pc' := 21) (ls' := [some (.ref (0)), some (.int (a1)), some (.int (a2)), some (.int (a3)), some (.int (a4)), some (.int (a5)), none, none]) (st' := [.ref (0)]) rfl rfl ?_
      refine Rc.getR tb_125 rfl rfl ob_0 (by decide +kernel) tg_0_4 (by decide) ?_
      refine Rc.run tb_125 1 (pc' := 25) (ls' := [some (.ref (0)), some (.int (a1)), some (.int (a2)), some (.int (a3)), some (.int (a4)), some (.int (a5)), none, none]) (st' := [.int (a1), .ref (44)]) rfl rfl ?_
      by_cases hb4 : inb a1 4 = true
      · rw [if_pos hb4] at h
        refine Rc.aald tb_125 rfl rfl (by decide) (Or.inr (by decide +kernel)) (by rw [ln_44]; exact hb4) (sa_44 hb4) (ShH.lt0 (shEl hb4)) ?_
        refine Rc.run tb_125 2 (pc' := 29) (ls' := [some (.ref (0)), some (.int (a1)), some (.int (a2)), some (.int (a3)), some (.int (a4)), some (.int (a5)), some (.ref ((69 + 2 * a1.toNatClampNeg))), none]) (st' := [.ref (0)]) rfl rfl ?_
        refine Rc.getR tb_125 rfl rfl ob_0 (by decide +kernel) tg_0_4 (by decide) ?_
        refine Rc.run tb_125 1 (pc' := 33) (ls' := [some (.ref (0)), some (.int (a1)), some (.int (a2)), some (.int (a3)), some (.int (a4)), some (.int (a5)), some (.ref ((69 + 2 * a1.toNatClampNeg))), none]) (st' := [.int (a3), .ref (44)]) rfl rfl ?_
        by_cases hb5 : inb a3 4 = true
        · rw [if_pos hb5] at h
          refine Rc.aald tb_125 rfl rfl (by decide) (Or.inr (by decide +kernel)) (by rw [ln_44]; exact hb5) (sa_44 hb5) (ShH.lt0 (shEl hb5)) ?_
          refine Rc.run tb_125 2 (pc' := 38) (ls' := [some (.ref (0)), some (.int (a1)), some (.int (a2)), some (.int (a3)), some (.int (a4)), some (.int (a5)), some (.ref ((69 + 2 * a1.toNatClampNeg))), some (.ref ((69 + 2 * a3.toNatClampNeg)))]) (st' := [.ref ((69 + 2 * a1.toNatClampNeg))]) rfl rfl ?_
          have hq6 := T_34 (X := X) (d := d) (by omega) (shEl hb4) M
          have hz6 := Rc.bool mR_34 hq6
          refine Rc.callV tb_125 rfl rfl rfl mS_34 mP_34 mL_34 mO_34 rfl rfl (ShH.ob (shEl hb4)) rfl rfl hq6 ?_
          refine Rc.if_ne (pc1 := 52) tb_125 rfl rfl (by decide) (by decide) (fun hb18 => ?_) (fun hb18 => ?_)
          · rw [if_pos hb18] at h
            refine Rc.run tb_125 1 (pc' := 46) (ls' := [some (.ref (0)), some (.int (a1)), some (.int (a2)), some (.int (a3)), some (.int (a4)), some (.int (a5)), some (.ref ((69 + 2 * a1.toNatClampNeg))), some (.ref ((69 + 2 * a3.toNatClampNeg)))]) (st' := [.ref ((69 + 2 * a3.toNatClampNeg))]) rfl rfl ?_
            have hq7 := T_34 (X := X) (d := d) (by omega) (shEl hb5) M
            have hz7 := Rc.bool mR_34 hq7
            refine Rc.callV tb_125 rfl rfl rfl mS_34 mP_34 mL_34 mO_34 rfl rfl (ShH.ob (shEl hb5)) rfl rfl hq7 ?_
            refine Rc.if_eq (pc1 := 58) tb_125 rfl rfl (by decide) (by decide) (fun hb17 => ?_) (fun hb17 => ?_)
            · rw [if_pos hb17] at h
              refine Rc.run tb_125 1 (pc' := 60) (ls' := [some (.ref (0)), some (.int (a1)), some (.int (a2)), some (.int (a3)), some (.int (a4)), some (.int (a5)), some (.ref ((69 + 2 * a1.toNatClampNeg))), some (.ref ((69 + 2 * a3.toNatClampNeg)))]) (st' := [.ref ((69 + 2 * a1.toNatClampNeg))]) rfl rfl ?_
              refine Rc.getI tb_125 rfl rfl (ShH.ob (shEl hb4)) (by decide +kernel) (ShH.f0 (shEl hb4)) ?_
              refine Rc.run tb_125 1 (pc' := 65) (ls' := [some (.ref (0)), some (.int (a1)), some (.int (a2)), some (.int (a3)), some (.int (a4)), some (.int (a5)), some (.ref ((69 + 2 * a1.toNatClampNeg))), some (.ref ((69 + 2 * a3.toNatClampNeg)))]) (st' := [.ref ((69 + 2 * a3.toNatClampNeg)), .int (M (69 + 2 * a1.toNatClampNeg) 0)]) rfl rfl ?_
              refine Rc.getI tb_125 rfl rfl (ShH.ob (shEl hb5)) (by decide +kernel) (ShH.f0 (shEl hb5)) ?_
              refine Rc.icmp_eq (pc1 := 77) tb_125 rfl rfl (by decide) (by decide) (fun hb15 => ?_) (fun hb15 => ?_)
              · rw [if_pos hb15] at h
                refine Rc.run tb_125 3 (pc' := 82) (ls' := [some (.ref (0)), some (.int (a1)), some (.int (a2)), some (.int (a3)), some (.int (a4)), some (.int (a5)), some (.ref ((69 + 2 * a1.toNatClampNeg))), some (.ref ((69 + 2 * a3.toNatClampNeg)))]) (st' := [.int (a5), .int (a2), .ref ((69 + 2 * a1.toNatClampNeg))]) rfl rfl ?_
                have hq8 := T_37 (X := X) (d := d) (by omega) (shEl hb4) a2 a5 M
                have hz8 := Rc.bool mR_37 hq8
                refine Rc.callV tb_125 rfl rfl rfl mS_37 mP_37 mL_37 mO_37 rfl rfl (ShH.ob (shEl hb4)) rfl rfl hq8 ?_
                refine Rc.if_eq (pc1 := 100) tb_125 rfl rfl (by decide) (by decide) (fun hb13 => ?_) (fun hb13 => ?_)
                · rw [if_pos hb13] at h
                  refine Rc.mask (b := 1) ((tb_125.2 100).trans rfl) (ls' := [some (.ref (0)), none, none, none, none, none, none, none]) rfl ?_
                  exact TJ_125_100 (X := X) (d := d + 1) (by omega) h hC
                · rw [if_neg hb13] at h
                  refine Rc.run tb_125 3 (pc' := 94) (ls' := [some (.ref (0)), some (.int (a1)), some (.int (a2)), some (.int (a3)), some (.int (a4)), some (.int (a5)), some (.ref ((69 + 2 * a1.toNatClampNeg))), some (.ref ((69 + 2 * a3.toNatClampNeg)))]) (st' := [.int (a5), .int (a4), .ref ((69 + 2 * a3.toNatClampNeg))]) rfl rfl ?_
                  have hq10 := T_37 (X := X) (d := d) (by omega) (shEl hb5) a4 a5 M
                  have hz10 := Rc.bool mR_37 hq10
                  refine Rc.callV tb_125 rfl rfl rfl mS_37 mP_37 mL_37 mO_37 rfl rfl (ShH.ob (shEl hb5)) rfl rfl hq10 ?_
                  refine Rc.if_ne (pc1 := 106) tb_125 rfl rfl (by decide) (by decide) (fun hb12 => ?_) (fun hb12 => ?_)
                  · rw [if_pos hb12] at h
                    refine Rc.mask (b := 1) ((tb_125.2 100).trans rfl) (ls' := [some (.ref (0)), none, none, none, none, none, none, none]) rfl ?_
                    exact TJ_125_100 (X := X) (d := d + 1) (by omega) h hC
                  · rw [if_neg hb12] at h
                    refine Rc.run tb_125 1 (pc' := 108) (ls' := [some (.ref (0)), some (.int (a1)), some (.int (a2)), some (.int (a3)), some (.int (a4)), some (.int (a5)), some (.ref ((69 + 2 * a1.toNatClampNeg))), some (.ref ((69 + 2 * a3.toNatClampNeg)))]) (st' := [.ref ((69 + 2 * a1.toNatClampNeg))]) rfl rfl ?_
                    refine Rc.getR tb_125 rfl rfl (ShH.ob (shEl hb4)) (by decide +kernel) (ShH.f2 (shEl hb4)) (by have := ShH.lt (shEl hb4); omega) ?_
                    refine Rc.run tb_125 2 (pc' := 114) (ls' := [some (.ref (0)), some (.int (a1)), some (.int (a2)), some (.int (a3)), some (.int (a4)), some (.int (a5)), some (.ref ((69 + 2 * a1.toNatClampNeg))), some (.ref ((69 + 2 * a3.toNatClampNeg)))]) (st' := [.ref ((69 + 2 * a3.toNatClampNeg)), .int (a2), .ref (((69 + 2 * a1.toNatClampNeg) + 1))]) rfl rfl ?_
                    refine Rc.getR tb_125 rfl rfl (ShH.ob (shEl hb5)) (by decide +kernel) (ShH.f2 (shEl hb5)) (by have := ShH.lt (shEl hb5); omega) ?_
                    refine Rc.run tb_125 2 (pc' := 121) (ls' := [some (.ref (0)), some (.int (a1)), some (.int (a2)), some (.int (a3)), some (.int (a4)), some (.int (a5)), some (.ref ((69 + 2 * a1.toNatClampNeg))), some (.ref ((69 + 2 * a3.toNatClampNeg)))]) (st' := [.int (a5), .int (a4), .ref (((69 + 2 * a3.toNatClampNeg) + 1)), .int (a2), .ref (((69 + 2 * a1.toNatClampNeg) + 1))]) rfl rfl ?_
                    by_cases hb11 : cpok 40 a2 40 a4 a5 = true
                    · rw [if_pos hb11] at h
                      refine Rc.copy tb_125 rfl rfl rfl (ShH.row (shEl hb4)) (ShH.row (shEl hb5)) hb11 ?_
                      refine Rc.run tb_125 1 (pc' := 126) (ls' := [some (.ref (0)), some (.int (a1)), some (.int (a2)), some (.int (a3)), some (.int (a4)), some (.int (a5)), some (.ref ((69 + 2 * a1.toNatClampNeg))), some (.ref ((69 + 2 * a3.toNatClampNeg)))]) (st' := [.int (a5)]) rfl rfl ?_
                      obtain rfl := Option.some.inj h
                      obtain ⟨rfl, rfl⟩ := hC
                      exact Rc.iret (ins := .ireturn) tb_125 rfl mR_125
                    · rw [if_neg hb11] at h
                      cases h
              · rw [if_neg hb15] at h
                refine Rc.run tb_125 2 (pc' := 73) (ls' := [some (.ref (0)), some (.int (a1)), some (.int (a2)), some (.int (a3)), some (.int (a4)), some (.int (a5)), some (.ref ((69 + 2 * a1.toNatClampNeg))), some (.ref ((69 + 2 * a3.toNatClampNeg)))]) (st' := [.int (5), .ref (0)]) rfl rfl ?_
                cases hc14 : F_132 (5 : Int32) M with
                | none => rw [hc14] at h; cases h
                | some r14 =>
                  obtain ⟨c14, M14⟩ := r14
                  rw [hc14] at h
                  dsimp only at h
                  have hq14 := T_132 (X := X) (d := d) (by omega) (M := M) hc14
                  refine Rc.callV tb_125 rfl rfl rfl mS_132 mP_132 mL_132 mO_132 rfl rfl ob_0 rfl rfl hq14 ?_
                  obtain rfl := Option.some.inj h
                  obtain ⟨rfl, rfl⟩ := hC
                  exact Rc.iret (ins := .ireturn) tb_125 rfl mR_125
            · rw [if_neg hb17] at h
              refine Rc.mask (b := 1) ((tb_125.2 52).trans rfl) (ls' := [some (.ref (0)), none, none, none, none, none, none, none]) rfl ?_
              exact TJ_125_52 (X := X) (d := d + 1) (by omega) h hC
          · rw [if_neg hb18] at h
            refine Rc.mask (b := 1) ((tb_125.2 52).trans rfl) (ls' := [some (.ref (0)), none, none, none, none, none, none, none]) rfl ?_
            exact TJ_125_52 (X := X) (d := d + 1) (by omega) h hC
        · rw [if_neg hb5] at h
          cases h
      · rw [if_neg hb4] at h
        cases h
theorem T_125 {X : AX} {d : Nat} (hd : 1 ≤ d) {a1 : Int32} {a2 : Int32} {a3 : Int32} {a4 : Int32} {a5 : Int32} {M : IM} {x : Int32} {M1 : IM} (h : F_125 a1 a2 a3 a4 a5 M = some (x, M1)) : Rc X d 125 0 [some (.ref (0)), some (.int (a1)), some (.int (a2)), some (.int (a3)), some (.int (a4)), some (.int (a5)), none, none] [] M (some (.int x)) M1 := TF_125 hd h ⟨rfl, rfl⟩
/-! 126: NineDemands.image -/
def F_126 (M : IM) : Option (Int32 × IM) := (match F_82 22 1 M with | none => none | some M1 => (some (((iset M1 0 2 ((M1 0 2) + 1)) 0 2, iset M1 0 2 ((M1 0 2) + 1)))))
theorem TF_126 {X : AX} {d : Nat} (hd : 3 ≤ d) {M : IM} {v : Option Value} {M' : IM} {o : Int32 × IM} (h : F_126 M = some o) (hC : v = some (.int o.1) ∧ M' = o.2) : Rc X d 126 0 [some (.ref (0))] [] M v M' := by
  obtain ⟨d, rfl⟩ : ∃ e, d = e + 1 := ⟨d - 1, by omega⟩
  unfold F_126 at h
  refine Rc.run tb_126 1 (pc' := 1) (ls' := [some (.ref (0))]) (st' := [.ref (0)]) rfl rfl ?_
  refine Rc.getR tb_126 rfl rfl ob_0 (by decide +kernel) tg_0_1 (by decide) ?_
  refine Rc.run tb_126 1 (pc' := 5) (ls' := [some (.ref (0))]) (st' := [.ref (0), .ref (22)]) rfl rfl ?_
  refine Rc.getR tb_126 rfl rfl ob_0 (by decide +kernel) tg_0_0 (by decide) ?_
  cases hc1 : F_82 22 1 M with
  | none => rw [hc1] at h; cases h
  | some M1 =>
    rw [hc1] at h
    dsimp only at h
    have hq1 := T_82 (X := X) (d := d) (by omega) (M := M) vh_22 vh_1 hc1
    refine Rc.callV tb_126 rfl rfl rfl mS_82 mP_82 mL_82 mO_82 rfl rfl (VilH.ob vh_22) rfl rfl hq1 ?_
    refine Rc.run tb_126 2 (pc' := 13) (ls' := [some (.ref (0))]) (st' := [.ref (0), .ref (0)]) rfl rfl ?_
    refine Rc.getI tb_126 rfl rfl ob_0 (by decide +kernel) tg_0_2 ?_
    refine Rc.run tb_126 2 (pc' := 18) (ls' := [some (.ref (0))]) (st' := [.int ((M1 0 2) + 1), .ref (0)]) rfl rfl ?_
    refine Rc.putI tb_126 rfl rfl ob_0 (by decide +kernel) tg_0_2 rfl ?_
    refine Rc.run tb_126 1 (pc' := 22) (ls' := [some (.ref (0))]) (st' := [.ref (0)]) rfl rfl ?_
    refine Rc.getI tb_126 rfl rfl ob_0 (by decide +kernel) tg_0_2 ?_
    obtain rfl := Option.some.inj h
    obtain ⟨rfl, rfl⟩ := hC
    exact Rc.iret (ins := .ireturn) tb_126 rfl mR_126
theorem T_126 {X : AX} {d : Nat} (hd : 3 ≤ d) {M : IM} {x : Int32} {M1 : IM} (h : F_126 M = some (x, M1)) : Rc X d 126 0 [some (.ref (0))] [] M (some (.int x)) M1 := TF_126 hd h ⟨rfl, rfl⟩
/-! 127: NineDemands.restore -/
def F_127 (M : IM) : Option (Int32 × IM) := if M 0 2 = 0 then (match F_132 (2 : Int32) M with | none => none | some (c1, M1) => (some ((c1, M1)))) else (match F_82 1 22 M with | none => none | some M2 => (match F_256 68 ((-2) : Int32) M2 with | none => none | some M3 => (some ((M3 1 2, M3)))))
theorem TF_127 {X : AX} {d : Nat} (hd : 3 ≤ d) {M : IM} {v : Option Value} {M' : IM} {o : Int32 × IM} (h : F_127 M = some o) (hC : v = some (.int o.1) ∧ M' = o.2) : Rc X d 127 0 [some (.ref (0))] [] M v M' := by
  obtain ⟨d, rfl⟩ : ∃ e, d = e + 1 := ⟨d - 1, by omega⟩
  unfold F_127 at h
  refine Rc.run tb_127 1 (pc' := 1) (ls' := [some (.ref (0))]) (st' := [.ref (0)]) rfl rfl ?_
  refine Rc.getI tb_127 rfl rfl ob_0 (by decide +kernel) tg_0_2 ?_
  refine Rc.if_ne (pc1 := 13) tb_127 rfl rfl (by decide) (by decide) (fun hb4 => ?_) (fun hb4 => ?_)
  · rw [if_pos hb4] at h
    refine Rc.run tb_127 2 (pc' := 9) (ls' := [some (.ref (0))]) (st' := [.int (2), .ref (0)]) rfl rfl ?_
    cases hc1 : F_132 (2 : Int32) M with
    | none => rw [hc1] at h; cases h
    | some r1 =>
      obtain ⟨c1, M1⟩ := r1
      rw [hc1] at h
      dsimp only at h
      have hq1 := T_132 (X := X) (d := d) (by omega) (M := M) hc1
      refine Rc.callV tb_127 rfl rfl rfl mS_132 mP_132 mL_132 mO_132 rfl rfl ob_0 rfl rfl hq1 ?_
      obtain rfl := Option.some.inj h
      obtain ⟨rfl, rfl⟩ := hC
      exact Rc.iret (ins := .ireturn) tb_127 rfl mR_127
  · rw [if_neg hb4] at h
    refine Rc.run tb_127 1 (pc' := 14) (ls' := [some (.ref (0))]) (st' := [.ref (0)]) rfl rfl ?_
    refine Rc.getR tb_127 rfl rfl ob_0 (by decide +kernel) tg_0_0 (by decide) ?_
    refine Rc.run tb_127 1 (pc' := 18) (ls' := [some (.ref (0))]) (st' := [.ref (0), .ref (1)]) rfl rfl ?_
    refine Rc.getR tb_127 rfl rfl ob_0 (by decide +kernel) tg_0_1 (by decide) ?_
    cases hc2 : F_82 1 22 M with
    | none => rw [hc2] at h; cases h
    | some M2 =>
      rw [hc2] at h
      dsimp only at h
      have hq2 := T_82 (X := X) (d := d) (by omega) (M := M) vh_1 vh_22 hc2
      refine Rc.callV tb_127 rfl rfl rfl mS_82 mP_82 mL_82 mO_82 rfl rfl (VilH.ob vh_1) rfl rfl hq2 ?_
      refine Rc.run tb_127 1 (pc' := 25) (ls' := [some (.ref (0))]) (st' := [.ref (0)]) rfl rfl ?_
      refine Rc.getR tb_127 rfl rfl ob_0 (by decide +kernel) tg_0_11 (by decide) ?_
      refine Rc.run tb_127 1 (pc' := 30) (ls' := [some (.ref (0))]) (st' := [.int ((-2)), .ref (68)]) rfl rfl ?_
      cases hc3 : F_256 68 ((-2) : Int32) M2 with
      | none => rw [hc3] at h; cases h
      | some M3 =>
        rw [hc3] at h
        dsimp only at h
        have hq3 := T_256 (X := X) (d := d) (by omega) (M := M2) (ia_68).1 hc3
        refine Rc.callS tb_127 rfl rfl rfl mS_256 mP_256 mL_256 rfl rfl rfl hq3 ?_
        refine Rc.run tb_127 1 (pc' := 34) (ls' := [some (.ref (0))]) (st' := [.ref (0)]) rfl rfl ?_
        refine Rc.getR tb_127 rfl rfl ob_0 (by decide +kernel) tg_0_0 (by decide) ?_
        refine Rc.getI tb_127 rfl rfl (VilH.ob vh_1) (by decide +kernel) (VilH.f2 vh_1) ?_
        obtain rfl := Option.some.inj h
        obtain ⟨rfl, rfl⟩ := hC
        exact Rc.iret (ins := .ireturn) tb_127 rfl mR_127
theorem T_127 {X : AX} {d : Nat} (hd : 3 ≤ d) {M : IM} {x : Int32} {M1 : IM} (h : F_127 M = some (x, M1)) : Rc X d 127 0 [some (.ref (0))] [] M (some (.int x)) M1 := TF_127 hd h ⟨rfl, rfl⟩
/-! 128: NineDemands.tell -/
def F_128 (a1 : Int32) (M : IM) : Option (Int32 × IM) := if M 1 6 < 20 then (if inb (M 1 6) 20 = true then (some (((iset (iset M 5 (M 1 6).toNatClampNeg a1) 1 6 (((iset M 5 (M 1 6).toNatClampNeg a1) 1 6) + 1)) 1 6, iset (iset M 5 (M 1 6).toNatClampNeg a1) 1 6 (((iset M 5 (M 1 6).toNatClampNeg a1) 1 6) + 1)))) else none) else (match F_132 (4 : Int32) M with | none => none | some (c2, M2) => (some ((c2, M2))))
theorem TF_128 {X : AX} {d : Nat} (hd : 1 ≤ d) {a1 : Int32} {M : IM} {v : Option Value} {M' : IM} {o : Int32 × IM} (h : F_128 a1 M = some o) (hC : v = some (.int o.1) ∧ M' = o.2) : Rc X d 128 0 [some (.ref (0)), some (.int (a1))] [] M v M' := by
  obtain ⟨d, rfl⟩ : ∃ e, d = e + 1 := ⟨d - 1, by omega⟩
  unfold F_128 at h
  refine Rc.run tb_128 1 (pc' := 1) (ls' := [some (.ref (0)), some (.int (a1))]) (st' := [.ref (0)]) rfl rfl ?_
  refine Rc.getR tb_128 rfl rfl ob_0 (by decide +kernel) tg_0_0 (by decide) ?_
  refine Rc.getI tb_128 rfl rfl (VilH.ob vh_1) (by decide +kernel) (VilH.f6 vh_1) ?_
  refine Rc.run tb_128 1 (pc' := 9) (ls' := [some (.ref (0)), some (.int (a1))]) (st' := [.int (20), .int (M 1 6)]) rfl rfl ?_
  refine Rc.icmp_lt (pc1 := 18) tb_128 rfl rfl (by decide) (by decide) (fun hb3 => ?_) (fun hb3 => ?_)
  · rw [if_pos hb3] at h
    refine Rc.run tb_128 1 (pc' := 19) (ls' := [some (.ref (0)), some (.int (a1))]) (st' := [.ref (0)]) rfl rfl ?_
    refine Rc.getR tb_128 rfl rfl ob_0 (by decide +kernel) tg_0_0 (by decide) ?_
    refine Rc.getR tb_128 rfl rfl (VilH.ob vh_1) (by decide +kernel) (VilH.f5 vh_1) (by decide) ?_
    refine Rc.run tb_128 1 (pc' := 26) (ls' := [some (.ref (0)), some (.int (a1))]) (st' := [.ref (0), .ref (5)]) rfl rfl ?_
    refine Rc.getR tb_128 rfl rfl ob_0 (by decide +kernel) tg_0_0 (by decide) ?_
    refine Rc.getI tb_128 rfl rfl (VilH.ob vh_1) (by decide +kernel) (VilH.f6 vh_1) ?_
    refine Rc.run tb_128 1 (pc' := 33) (ls' := [some (.ref (0)), some (.int (a1))]) (st' := [.int (a1), .int (M 1 6), .ref (5)]) rfl rfl ?_
    by_cases hb1 : inb (M 1 6) 20 = true
    · rw [if_pos hb1] at h
      refine Rc.iast tb_128 rfl rfl ia_5 hb1 ?_
      refine Rc.run tb_128 1 (pc' := 35) (ls' := [some (.ref (0)), some (.int (a1))]) (st' := [.ref (0)]) rfl rfl ?_
      refine Rc.getR tb_128 rfl rfl ob_0 (by decide +kernel) tg_0_0 (by decide) ?_
      refine Rc.run tb_128 1 (pc' := 39) (ls' := [some (.ref (0)), some (.int (a1))]) (st' := [.ref (1), .ref (1)]) rfl rfl ?_
      refine Rc.getI tb_128 rfl rfl (VilH.ob vh_1) (by decide +kernel) (VilH.f6 vh_1) ?_
      refine Rc.run tb_128 2 (pc' := 44) (ls' := [some (.ref (0)), some (.int (a1))]) (st' := [.int (((iset M 5 (M 1 6).toNatClampNeg a1) 1 6) + 1), .ref (1)]) rfl rfl ?_
      refine Rc.putI tb_128 rfl rfl (VilH.ob vh_1) (by decide +kernel) (VilH.f6 vh_1) rfl ?_
      refine Rc.run tb_128 1 (pc' := 48) (ls' := [some (.ref (0)), some (.int (a1))]) (st' := [.ref (0)]) rfl rfl ?_
      refine Rc.getR tb_128 rfl rfl ob_0 (by decide +kernel) tg_0_0 (by decide) ?_
      refine Rc.getI tb_128 rfl rfl (VilH.ob vh_1) (by decide +kernel) (VilH.f6 vh_1) ?_
      obtain rfl := Option.some.inj h
      obtain ⟨rfl, rfl⟩ := hC
      exact Rc.iret (ins := .ireturn) tb_128 rfl mR_128
    · rw [if_neg hb1] at h
      cases h
  · rw [if_neg hb3] at h
    refine Rc.run tb_128 2 (pc' := 14) (ls' := [some (.ref (0)), some (.int (a1))]) (st' := [.int (4), .ref (0)]) rfl rfl ?_
    cases hc2 : F_132 (4 : Int32) M with
    | none => rw [hc2] at h; cases h
    | some r2 =>
      obtain ⟨c2, M2⟩ := r2
      rw [hc2] at h
      dsimp only at h
      have hq2 := T_132 (X := X) (d := d) (by omega) (M := M) hc2
      refine Rc.callV tb_128 rfl rfl rfl mS_132 mP_132 mL_132 mO_132 rfl rfl ob_0 rfl rfl hq2 ?_
      obtain rfl := Option.some.inj h
      obtain ⟨rfl, rfl⟩ := hC
      exact Rc.iret (ins := .ireturn) tb_128 rfl mR_128
theorem T_128 {X : AX} {d : Nat} (hd : 1 ≤ d) {a1 : Int32} {M : IM} {x : Int32} {M1 : IM} (h : F_128 a1 M = some (x, M1)) : Rc X d 128 0 [some (.ref (0)), some (.int (a1))] [] M (some (.int x)) M1 := TF_128 hd h ⟨rfl, rfl⟩
/-! 130: NineDemands.count -/
def F_130 (a1 : Int32) (M : IM) : Option (Int32 × IM) := if a1 = 0 then (some ((M 1 2, M))) else (if a1 = 1 then (match F_84 1 (((1 : Int32) <<< ((M 1 2) &&& 31)) - 1) M with | none => none | some c9 => (some ((c9, M)))) else (if a1 = 2 then (match F_85 1 M with | none => none | some c8 => (some ((c8, M)))) else (if a1 = 3 then (some ((M 1 4, M))) else (if a1 = 4 then (some ((M 1 6, M))) else (if a1 = 5 then (some ((M 65 1, M))) else (match F_132 (1 : Int32) M with | none => none | some (c1, M1) => (some ((c1, M1)))))))))
theorem TF_130 {X : AX} {d : Nat} (hd : 2 ≤ d) {a1 : Int32} {M : IM} {v : Option Value} {M' : IM} {o : Int32 × IM} (h : F_130 a1 M = some o) (hC : v = some (.int o.1) ∧ M' = o.2) : Rc X d 130 0 [some (.ref (0)), some (.int (a1))] [] M v M' := by
  obtain ⟨d, rfl⟩ : ∃ e, d = e + 1 := ⟨d - 1, by omega⟩
  unfold F_130 at h
  refine Rc.run tb_130 1 (pc' := 1) (ls' := [some (.ref (0)), some (.int (a1))]) (st' := [.int (a1)]) rfl rfl ?_
  by_cases hk2 : a1 = 0
  · rw [if_pos hk2] at h
    refine Rc.table (off := 39) (pc1 := 40) tb_130 rfl rfl (by decide) (tsw_at (k := 0) (by rw [hk2]; decide) (by decide +kernel)) (by decide) (by decide) ?_
    refine Rc.run tb_130 1 (pc' := 41) (ls' := [some (.ref (0)), some (.int (a1))]) (st' := [.ref (0)]) rfl rfl ?_
    refine Rc.getR tb_130 rfl rfl ob_0 (by decide +kernel) tg_0_0 (by decide) ?_
    refine Rc.getI tb_130 rfl rfl (VilH.ob vh_1) (by decide +kernel) (VilH.f2 vh_1) ?_
    obtain rfl := Option.some.inj h
    obtain ⟨rfl, rfl⟩ := hC
    exact Rc.iret (ins := .ireturn) tb_130 rfl mR_130
  · rw [if_neg hk2] at h
    by_cases hk3 : a1 = 1
    · rw [if_pos hk3] at h
      refine Rc.table (off := 47) (pc1 := 48) tb_130 rfl rfl (by decide) (tsw_at (k := 1) (by rw [hk3]; decide) (by decide +kernel)) (by decide) (by decide) ?_
      refine Rc.run tb_130 1 (pc' := 49) (ls' := [some (.ref (0)), some (.int (a1))]) (st' := [.ref (0)]) rfl rfl ?_
      refine Rc.getR tb_130 rfl rfl ob_0 (by decide +kernel) tg_0_0 (by decide) ?_
      refine Rc.run tb_130 2 (pc' := 54) (ls' := [some (.ref (0)), some (.int (a1))]) (st' := [.ref (0), .int (1), .ref (1)]) rfl rfl ?_
      refine Rc.getR tb_130 rfl rfl ob_0 (by decide +kernel) tg_0_0 (by decide) ?_
      refine Rc.getI tb_130 rfl rfl (VilH.ob vh_1) (by decide +kernel) (VilH.f2 vh_1) ?_
      refine Rc.run tb_130 3 (pc' := 63) (ls' := [some (.ref (0)), some (.int (a1))]) (st' := [.int (((1 : Int32) <<< ((M 1 2) &&& 31)) - 1), .ref (1)]) rfl rfl ?_
      cases hc9 : F_84 1 (((1 : Int32) <<< ((M 1 2) &&& 31)) - 1) M with
      | none => rw [hc9] at h; cases h
      | some c9 =>
        rw [hc9] at h
        dsimp only at h
        have hq9 := T_84 (X := X) (d := d) (by omega) (M := M) vh_1 hc9
        refine Rc.callV tb_130 rfl rfl rfl mS_84 mP_84 mL_84 mO_84 rfl rfl (VilH.ob vh_1) rfl rfl hq9 ?_
        obtain rfl := Option.some.inj h
        obtain ⟨rfl, rfl⟩ := hC
        exact Rc.iret (ins := .ireturn) tb_130 rfl mR_130
    · rw [if_neg hk3] at h
      by_cases hk4 : a1 = 2
      · rw [if_pos hk4] at h
        refine Rc.table (off := 66) (pc1 := 67) tb_130 rfl rfl (by decide) (tsw_at (k := 2) (by rw [hk4]; decide) (by decide +kernel)) (by decide) (by decide) ?_
        refine Rc.run tb_130 1 (pc' := 68) (ls' := [some (.ref (0)), some (.int (a1))]) (st' := [.ref (0)]) rfl rfl ?_
        refine Rc.getR tb_130 rfl rfl ob_0 (by decide +kernel) tg_0_0 (by decide) ?_
        cases hc8 : F_85 1 M with
        | none => rw [hc8] at h; cases h
        | some c8 =>
          rw [hc8] at h
          dsimp only at h
          have hq8 := T_85 (X := X) (d := d) (by omega) (M := M) vh_1 hc8
          refine Rc.callV tb_130 rfl rfl rfl mS_85 mP_85 mL_85 mO_85 rfl rfl (VilH.ob vh_1) rfl rfl hq8 ?_
          obtain rfl := Option.some.inj h
          obtain ⟨rfl, rfl⟩ := hC
          exact Rc.iret (ins := .ireturn) tb_130 rfl mR_130
      · rw [if_neg hk4] at h
        by_cases hk5 : a1 = 3
        · rw [if_pos hk5] at h
          refine Rc.table (off := 74) (pc1 := 75) tb_130 rfl rfl (by decide) (tsw_at (k := 3) (by rw [hk5]; decide) (by decide +kernel)) (by decide) (by decide) ?_
          refine Rc.run tb_130 1 (pc' := 76) (ls' := [some (.ref (0)), some (.int (a1))]) (st' := [.ref (0)]) rfl rfl ?_
          refine Rc.getR tb_130 rfl rfl ob_0 (by decide +kernel) tg_0_0 (by decide) ?_
          refine Rc.getI tb_130 rfl rfl (VilH.ob vh_1) (by decide +kernel) (VilH.f4 vh_1) ?_
          obtain rfl := Option.some.inj h
          obtain ⟨rfl, rfl⟩ := hC
          exact Rc.iret (ins := .ireturn) tb_130 rfl mR_130
        · rw [if_neg hk5] at h
          by_cases hk6 : a1 = 4
          · rw [if_pos hk6] at h
            refine Rc.table (off := 82) (pc1 := 83) tb_130 rfl rfl (by decide) (tsw_at (k := 4) (by rw [hk6]; decide) (by decide +kernel)) (by decide) (by decide) ?_
            refine Rc.run tb_130 1 (pc' := 84) (ls' := [some (.ref (0)), some (.int (a1))]) (st' := [.ref (0)]) rfl rfl ?_
            refine Rc.getR tb_130 rfl rfl ob_0 (by decide +kernel) tg_0_0 (by decide) ?_
            refine Rc.getI tb_130 rfl rfl (VilH.ob vh_1) (by decide +kernel) (VilH.f6 vh_1) ?_
            obtain rfl := Option.some.inj h
            obtain ⟨rfl, rfl⟩ := hC
            exact Rc.iret (ins := .ireturn) tb_130 rfl mR_130
          · rw [if_neg hk6] at h
            by_cases hk7 : a1 = 5
            · rw [if_pos hk7] at h
              refine Rc.table (off := 90) (pc1 := 91) tb_130 rfl rfl (by decide) (tsw_at (k := 5) (by rw [hk7]; decide) (by decide +kernel)) (by decide) (by decide) ?_
              refine Rc.run tb_130 1 (pc' := 92) (ls' := [some (.ref (0)), some (.int (a1))]) (st' := [.ref (0)]) rfl rfl ?_
              refine Rc.getR tb_130 rfl rfl ob_0 (by decide +kernel) tg_0_9 (by decide) ?_
              refine Rc.getI tb_130 rfl rfl ob_65 (by decide +kernel) tg_65_1 ?_
              obtain rfl := Option.some.inj h
              obtain ⟨rfl, rfl⟩ := hC
              exact Rc.iret (ins := .ireturn) tb_130 rfl mR_130
            · rw [if_neg hk7] at h
              refine Rc.table (off := 98) (pc1 := 99) tb_130 rfl rfl (by decide) (tsw_df [0, 1, 2, 3, 4, 5] (by decide +kernel) (fun k hk => by simp only [List.mem_cons, List.not_mem_nil, or_false] at hk; rcases hk with rfl | rfl | rfl | rfl | rfl | rfl <;> assumption)) (by decide) (by decide) ?_
              refine Rc.run tb_130 2 (pc' := 101) (ls' := [some (.ref (0)), some (.int (a1))]) (st' := [.int (1), .ref (0)]) rfl rfl ?_
              cases hc1 : F_132 (1 : Int32) M with
              | none => rw [hc1] at h; cases h
              | some r1 =>
                obtain ⟨c1, M1⟩ := r1
                rw [hc1] at h
                dsimp only at h
                have hq1 := T_132 (X := X) (d := d) (by omega) (M := M) hc1
                refine Rc.callV tb_130 rfl rfl rfl mS_132 mP_132 mL_132 mO_132 rfl rfl ob_0 rfl rfl hq1 ?_
                obtain rfl := Option.some.inj h
                obtain ⟨rfl, rfl⟩ := hC
                exact Rc.iret (ins := .ireturn) tb_130 rfl mR_130
theorem T_130 {X : AX} {d : Nat} (hd : 2 ≤ d) {a1 : Int32} {M : IM} {x : Int32} {M1 : IM} (h : F_130 a1 M = some (x, M1)) : Rc X d 130 0 [some (.ref (0)), some (.int (a1))] [] M (some (.int x)) M1 := TF_130 hd h ⟨rfl, rfl⟩
/-! 131: NineDemands.told -/
def J_131_19 (M : IM) : Option (Int32 × IM) := (match F_132 (1 : Int32) M with | none => none | some (c1, M1) => (some ((c1, M1))))
def F_131 (a1 : Int32) (M : IM) : Option (Int32 × IM) := if a1 < 1 then (J_131_19 M) else (if (5 : Int32) < a1 then (J_131_19 M) else (if inb a1 6 = true then (some ((M 43 a1.toNatClampNeg, M))) else none))
theorem TJ_131_19 {X : AX} {d : Nat} (hd : 1 ≤ d) {M : IM} {v : Option Value} {M' : IM} {o : Int32 × IM} (h : J_131_19 M = some o) (hC : v = some (.int o.1) ∧ M' = o.2) : Rc X d 131 19 [some (.ref (0)), none] [] M v M' := by
  obtain ⟨d, rfl⟩ : ∃ e, d = e + 1 := ⟨d - 1, by omega⟩
  unfold J_131_19 at h
  refine Rc.run tb_131 2 (pc' := 21) (ls' := [some (.ref (0)), none]) (st' := [.int (1), .ref (0)]) rfl rfl ?_
  cases hc1 : F_132 (1 : Int32) M with
  | none => rw [hc1] at h; cases h
  | some r1 =>
    obtain ⟨c1, M1⟩ := r1
    rw [hc1] at h
    dsimp only at h
    have hq1 := T_132 (X := X) (d := d) (by omega) (M := M) hc1
    refine Rc.callV tb_131 rfl rfl rfl mS_132 mP_132 mL_132 mO_132 rfl rfl ob_0 rfl rfl hq1 ?_
    obtain rfl := Option.some.inj h
    obtain ⟨rfl, rfl⟩ := hC
    exact Rc.iret (ins := .ireturn) tb_131 rfl mR_131
theorem TF_131 {X : AX} {d : Nat} (hd : 1 ≤ d) {a1 : Int32} {M : IM} {v : Option Value} {M' : IM} {o : Int32 × IM} (h : F_131 a1 M = some o) (hC : v = some (.int o.1) ∧ M' = o.2) : Rc X d 131 0 [some (.ref (0)), some (.int (a1))] [] M v M' := by
  obtain ⟨d, rfl⟩ : ∃ e, d = e + 1 := ⟨d - 1, by omega⟩
  unfold F_131 at h
  refine Rc.run tb_131 2 (pc' := 2) (ls' := [some (.ref (0)), some (.int (a1))]) (st' := [.int (1), .int (a1)]) rfl rfl ?_
  refine Rc.icmp_lt (pc1 := 19) tb_131 rfl rfl (by decide) (by decide) (fun hb4 => ?_) (fun hb4 => ?_)
  · rw [if_pos hb4] at h
    refine Rc.mask (b := 1) ((tb_131.2 19).trans rfl) (ls' := [some (.ref (0)), none]) rfl ?_
    exact TJ_131_19 (X := X) (d := d + 1) (by omega) h hC
  · rw [if_neg hb4] at h
    refine Rc.run tb_131 2 (pc' := 7) (ls' := [some (.ref (0)), some (.int (a1))]) (st' := [.int (5), .int (a1)]) rfl rfl ?_
    refine Rc.icmp_gt (pc1 := 19) tb_131 rfl rfl (by decide) (by decide) (fun hb3 => ?_) (fun hb3 => ?_)
    · rw [if_pos hb3] at h
      refine Rc.mask (b := 1) ((tb_131.2 19).trans rfl) (ls' := [some (.ref (0)), none]) rfl ?_
      exact TJ_131_19 (X := X) (d := d + 1) (by omega) h hC
    · rw [if_neg hb3] at h
      refine Rc.run tb_131 1 (pc' := 11) (ls' := [some (.ref (0)), some (.int (a1))]) (st' := [.ref (0)]) rfl rfl ?_
      refine Rc.getR tb_131 rfl rfl ob_0 (by decide +kernel) tg_0_3 (by decide) ?_
      refine Rc.run tb_131 1 (pc' := 15) (ls' := [some (.ref (0)), some (.int (a1))]) (st' := [.int (a1), .ref (43)]) rfl rfl ?_
      by_cases hb2 : inb a1 6 = true
      · rw [if_pos hb2] at h
        refine Rc.iald tb_131 rfl rfl ia_43 hb2 ?_
        refine Rc.run tb_131 1 (pc' := 24) (ls' := [some (.ref (0)), some (.int (a1))]) (st' := [.int (M 43 a1.toNatClampNeg)]) rfl rfl ?_
        obtain rfl := Option.some.inj h
        obtain ⟨rfl, rfl⟩ := hC
        exact Rc.iret (ins := .ireturn) tb_131 rfl mR_131
      · rw [if_neg hb2] at h
        cases h
theorem T_131 {X : AX} {d : Nat} (hd : 1 ≤ d) {a1 : Int32} {M : IM} {x : Int32} {M1 : IM} (h : F_131 a1 M = some (x, M1)) : Rc X d 131 0 [some (.ref (0)), some (.int (a1))] [] M (some (.int x)) M1 := TF_131 hd h ⟨rfl, rfl⟩
/-! 151: NineDemandsModel.size -/
def F_151 (a1 : Int32) : Int32 := if (4 : Int32) ≤ a1 then 3 else 2
theorem TF_151 {X : AX} {d : Nat} (hd : 0 ≤ d) {a1 : Int32} {M : IM} {v : Option Value} {M' : IM} {o : Int32} (h : F_151 a1 = o) (hC : v = some (.int o) ∧ M' = M) : Rc X d 151 0 [some (.int (a1))] [] M v M' := by
  unfold F_151 at h
  refine Rc.run tb_151 2 (pc' := 2) (ls' := [some (.int (a1))]) (st' := [.int (4), .int (a1)]) rfl rfl ?_
  refine Rc.icmp_ge (pc1 := 9) tb_151 rfl rfl (by decide) (by decide) (fun hb1 => ?_) (fun hb1 => ?_)
  · rw [if_pos hb1] at h
    refine Rc.run tb_151 1 (pc' := 10) (ls' := [some (.int (a1))]) (st' := [.int (3)]) rfl rfl ?_
    subst h
    obtain ⟨rfl, rfl⟩ := hC
    exact Rc.iret (ins := .ireturn) tb_151 rfl mR_151
  · rw [if_neg hb1] at h
    refine Rc.run tb_151 2 (pc' := 10) (ls' := [some (.int (a1))]) (st' := [.int (2)]) rfl rfl ?_
    subst h
    obtain ⟨rfl, rfl⟩ := hC
    exact Rc.iret (ins := .ireturn) tb_151 rfl mR_151
theorem T_151 {X : AX} {d : Nat} (hd : 0 ≤ d) (a1 : Int32) (M : IM) : Rc X d 151 0 [some (.int (a1))] [] M (some (.int (F_151 a1))) M := TF_151 hd rfl ⟨rfl, rfl⟩
/-! 152: NineDemandsModel.wants -/
def F_152 (a1 : Int32) (a2 : Int32) : Int32 := if a2 < F_151 a1 then (if (4 : Int32) ≤ a1 then (((a1 - 4) >>> (a2 &&& 31)) &&& 1) else ((a1 >>> (a2 &&& 31)) &&& 1)) else 2
theorem TF_152 {X : AX} {d : Nat} (hd : 1 ≤ d) {a1 : Int32} {a2 : Int32} {M : IM} {v : Option Value} {M' : IM} {o : Int32} (h : F_152 a1 a2 = o) (hC : v = some (.int o) ∧ M' = M) : Rc X d 152 0 [some (.int (a1)), some (.int (a2))] [] M v M' := by
  obtain ⟨d, rfl⟩ : ∃ e, d = e + 1 := ⟨d - 1, by omega⟩
  unfold F_152 at h
  refine Rc.run tb_152 2 (pc' := 2) (ls' := [some (.int (a1)), some (.int (a2))]) (st' := [.int (a1), .int (a2)]) rfl rfl ?_
  have hq1 := T_151 (X := X) (d := d) (by omega) a1 M
  refine Rc.callS tb_152 rfl rfl rfl mS_151 mP_151 mL_151 rfl rfl rfl hq1 ?_
  refine Rc.icmp_lt (pc1 := 12) tb_152 rfl rfl (by decide) (by decide) (fun hb3 => ?_) (fun hb3 => ?_)
  · rw [if_pos hb3] at h
    refine Rc.run tb_152 2 (pc' := 14) (ls' := [some (.int (a1)), some (.int (a2))]) (st' := [.int (4), .int (a1)]) rfl rfl ?_
    refine Rc.icmp_ge (pc1 := 21) tb_152 rfl rfl (by decide) (by decide) (fun hb2 => ?_) (fun hb2 => ?_)
    · rw [if_pos hb2] at h
      refine Rc.run tb_152 3 (pc' := 24) (ls' := [some (.int (a1)), some (.int (a2))]) (st' := [.int (a1 - 4)]) rfl rfl ?_
      refine Rc.run tb_152 4 (pc' := 28) (ls' := [none, some (.int (a2))]) (st' := [.int (((a1 - 4) >>> (a2 &&& 31)) &&& 1)]) rfl rfl ?_
      subst h
      obtain ⟨rfl, rfl⟩ := hC
      exact Rc.iret (ins := .ireturn) tb_152 rfl mR_152
    · rw [if_neg hb2] at h
      refine Rc.run tb_152 2 (pc' := 24) (ls' := [some (.int (a1)), some (.int (a2))]) (st' := [.int (a1)]) rfl rfl ?_
      refine Rc.run tb_152 4 (pc' := 28) (ls' := [none, some (.int (a2))]) (st' := [.int ((a1 >>> (a2 &&& 31)) &&& 1)]) rfl rfl ?_
      subst h
      obtain ⟨rfl, rfl⟩ := hC
      exact Rc.iret (ins := .ireturn) tb_152 rfl mR_152
  · rw [if_neg hb3] at h
    refine Rc.run tb_152 2 (pc' := 28) (ls' := [some (.int (a1)), some (.int (a2))]) (st' := [.int (2)]) rfl rfl ?_
    subst h
    obtain ⟨rfl, rfl⟩ := hC
    exact Rc.iret (ins := .ireturn) tb_152 rfl mR_152
theorem T_152 {X : AX} {d : Nat} (hd : 1 ≤ d) (a1 : Int32) (a2 : Int32) (M : IM) : Rc X d 152 0 [some (.int (a1)), some (.int (a2))] [] M (some (.int (F_152 a1 a2))) M := TF_152 hd rfl ⟨rfl, rfl⟩
/-! 153: NineDemandsModel.turned -/
def F_153 (a1 : Int32) (a2 : Int32) : Int32 := if (4 : Int32) ≤ a1 then (((a1 - 4) ^^^ a2) + 4) else (a1 ^^^ a2)
theorem TF_153 {X : AX} {d : Nat} (hd : 0 ≤ d) {a1 : Int32} {a2 : Int32} {M : IM} {v : Option Value} {M' : IM} {o : Int32} (h : F_153 a1 a2 = o) (hC : v = some (.int o) ∧ M' = M) : Rc X d 153 0 [some (.int (a1)), some (.int (a2))] [] M v M' := by
  unfold F_153 at h
  refine Rc.run tb_153 2 (pc' := 2) (ls' := [some (.int (a1)), some (.int (a2))]) (st' := [.int (4), .int (a1)]) rfl rfl ?_
  refine Rc.icmp_ge (pc1 := 11) tb_153 rfl rfl (by decide) (by decide) (fun hb1 => ?_) (fun hb1 => ?_)
  · rw [if_pos hb1] at h
    refine Rc.run tb_153 7 (pc' := 18) (ls' := [some (.int (a1)), some (.int (a2))]) (st' := [.int (((a1 - 4) ^^^ a2) + 4)]) rfl rfl ?_
    subst h
    obtain ⟨rfl, rfl⟩ := hC
    exact Rc.iret (ins := .ireturn) tb_153 rfl mR_153
  · rw [if_neg hb1] at h
    refine Rc.run tb_153 4 (pc' := 18) (ls' := [some (.int (a1)), some (.int (a2))]) (st' := [.int (a1 ^^^ a2)]) rfl rfl ?_
    subst h
    obtain ⟨rfl, rfl⟩ := hC
    exact Rc.iret (ins := .ireturn) tb_153 rfl mR_153
theorem T_153 {X : AX} {d : Nat} (hd : 0 ≤ d) (a1 : Int32) (a2 : Int32) (M : IM) : Rc X d 153 0 [some (.int (a1)), some (.int (a2))] [] M (some (.int (F_153 a1 a2))) M := TF_153 hd rfl ⟨rfl, rfl⟩
/-! 156: NineDemandsModel.finding -/
def F_156 (a1 : Int32) (M : IM) : Option (Int32 × IM) := if inb ((-1000000) - a1) 6 = true then (if inb ((-1000000) - a1) 6 = true then (some ((a1, iset M 80 ((-1000000) - a1).toNatClampNeg ((M 80 ((-1000000) - a1).toNatClampNeg) + 1)))) else none) else none
theorem TF_156 {X : AX} {d : Nat} (hd : 0 ≤ d) {a1 : Int32} {M : IM} {v : Option Value} {M' : IM} {o : Int32 × IM} (h : F_156 a1 M = some o) (hC : v = some (.int o.1) ∧ M' = o.2) : Rc X d 156 0 [some (.ref (77)), some (.int (a1))] [] M v M' := by
  unfold F_156 at h
  refine Rc.run tb_156 1 (pc' := 1) (ls' := [some (.ref (77)), some (.int (a1))]) (st' := [.ref (77)]) rfl rfl ?_
  refine Rc.getR tb_156 rfl rfl ob_77 (by decide +kernel) tg_77_3 (by decide) ?_
  refine Rc.run tb_156 4 (pc' := 9) (ls' := [some (.ref (77)), some (.int (a1))]) (st' := [.int ((-1000000) - a1), .ref (80), .int ((-1000000) - a1), .ref (80)]) rfl rfl ?_
  by_cases hb2 : inb ((-1000000) - a1) 6 = true
  · rw [if_pos hb2] at h
    refine Rc.iald tb_156 rfl rfl ia_80 hb2 ?_
    refine Rc.run tb_156 2 (pc' := 12) (ls' := [some (.ref (77)), some (.int (a1))]) (st' := [.int ((M 80 ((-1000000) - a1).toNatClampNeg) + 1), .int ((-1000000) - a1), .ref (80)]) rfl rfl ?_
    by_cases hb1 : inb ((-1000000) - a1) 6 = true
    · rw [if_pos hb1] at h
      refine Rc.iast tb_156 rfl rfl ia_80 hb1 ?_
      refine Rc.run tb_156 1 (pc' := 14) (ls' := [some (.ref (77)), some (.int (a1))]) (st' := [.int (a1)]) rfl rfl ?_
      obtain rfl := Option.some.inj h
      obtain ⟨rfl, rfl⟩ := hC
      exact Rc.iret (ins := .ireturn) tb_156 rfl mR_156
    · rw [if_neg hb1] at h
      cases h
  · rw [if_neg hb2] at h
    cases h
theorem T_156 {X : AX} {d : Nat} (hd : 0 ≤ d) {a1 : Int32} {M : IM} {x : Int32} {M1 : IM} (h : F_156 a1 M = some (x, M1)) : Rc X d 156 0 [some (.ref (77)), some (.int (a1))] [] M (some (.int x)) M1 := TF_156 hd h ⟨rfl, rfl⟩
/-! 157: NineDemandsModel.within -/
def F_157 (a1 : Int32) (a2 : Int32) (a3 : Int32) : Int32 := if a1 < a2 then 0 else (if a3 < a1 then 0 else 1)
theorem TF_157 {X : AX} {d : Nat} (hd : 0 ≤ d) {a1 : Int32} {a2 : Int32} {a3 : Int32} {M : IM} {v : Option Value} {M' : IM} {o : Int32} (h : F_157 a1 a2 a3 = o) (hC : v = some (.int o) ∧ M' = M) : Rc X d 157 0 [some (.int (a1)), some (.int (a2)), some (.int (a3))] [] M v M' := by
  unfold F_157 at h
  refine Rc.run tb_157 2 (pc' := 2) (ls' := [some (.int (a1)), some (.int (a2)), some (.int (a3))]) (st' := [.int (a2), .int (a1)]) rfl rfl ?_
  refine Rc.icmp_lt (pc1 := 14) tb_157 rfl rfl (by decide) (by decide) (fun hb2 => ?_) (fun hb2 => ?_)
  · rw [if_pos hb2] at h
    refine Rc.run tb_157 1 (pc' := 15) (ls' := [none, none, none]) (st' := [.int (0)]) rfl rfl ?_
    subst h
    obtain ⟨rfl, rfl⟩ := hC
    exact Rc.zret tb_157 rfl mR_157 (Or.inl rfl)
  · rw [if_neg hb2] at h
    refine Rc.run tb_157 2 (pc' := 7) (ls' := [some (.int (a1)), some (.int (a2)), some (.int (a3))]) (st' := [.int (a3), .int (a1)]) rfl rfl ?_
    refine Rc.icmp_gt (pc1 := 14) tb_157 rfl rfl (by decide) (by decide) (fun hb1 => ?_) (fun hb1 => ?_)
    · rw [if_pos hb1] at h
      refine Rc.run tb_157 1 (pc' := 15) (ls' := [none, none, none]) (st' := [.int (0)]) rfl rfl ?_
      subst h
      obtain ⟨rfl, rfl⟩ := hC
      exact Rc.zret tb_157 rfl mR_157 (Or.inl rfl)
    · rw [if_neg hb1] at h
      refine Rc.run tb_157 2 (pc' := 15) (ls' := [some (.int (a1)), some (.int (a2)), some (.int (a3))]) (st' := [.int (1)]) rfl rfl ?_
      subst h
      obtain ⟨rfl, rfl⟩ := hC
      exact Rc.zret tb_157 rfl mR_157 (Or.inr rfl)
theorem T_157 {X : AX} {d : Nat} (hd : 0 ≤ d) (a1 : Int32) (a2 : Int32) (a3 : Int32) (M : IM) : Rc X d 157 0 [some (.int (a1)), some (.int (a2)), some (.int (a3))] [] M (some (.int (F_157 a1 a2 a3))) M := TF_157 hd rfl ⟨rfl, rfl⟩
/-! 158: NineDemandsModel.isHall -/
def F_158 (a1 : Int32) : Int32 := F_157 a1 (0 : Int32) (11 : Int32)
theorem TF_158 {X : AX} {d : Nat} (hd : 1 ≤ d) {a1 : Int32} {M : IM} {v : Option Value} {M' : IM} {o : Int32} (h : F_158 a1 = o) (hC : v = some (.int o) ∧ M' = M) : Rc X d 158 0 [some (.int (a1))] [] M v M' := by
  obtain ⟨d, rfl⟩ : ∃ e, d = e + 1 := ⟨d - 1, by omega⟩
  unfold F_158 at h
  refine Rc.run tb_158 3 (pc' := 4) (ls' := [some (.int (a1))]) (st' := [.int (11), .int (0), .int (a1)]) rfl rfl ?_
  have hq1 := T_157 (X := X) (d := d) (by omega) a1 (0 : Int32) (11 : Int32) M
  have hz1 := Rc.bool mR_157 hq1
  refine Rc.callS tb_158 rfl rfl rfl mS_157 mP_157 mL_157 rfl rfl rfl hq1 ?_
  subst h
  obtain ⟨rfl, rfl⟩ := hC
  exact Rc.zret tb_158 rfl mR_158 hz1
theorem T_158 {X : AX} {d : Nat} (hd : 1 ≤ d) (a1 : Int32) (M : IM) : Rc X d 158 0 [some (.int (a1))] [] M (some (.int (F_158 a1))) M := TF_158 hd rfl ⟨rfl, rfl⟩
/-! 159: NineDemandsModel.isChoice -/
def F_159 (a1 : Int32) : Int32 := F_157 a1 (1 : Int32) (3 : Int32)
theorem TF_159 {X : AX} {d : Nat} (hd : 1 ≤ d) {a1 : Int32} {M : IM} {v : Option Value} {M' : IM} {o : Int32} (h : F_159 a1 = o) (hC : v = some (.int o) ∧ M' = M) : Rc X d 159 0 [some (.int (a1))] [] M v M' := by
  obtain ⟨d, rfl⟩ : ∃ e, d = e + 1 := ⟨d - 1, by omega⟩
  unfold F_159 at h
  refine Rc.run tb_159 3 (pc' := 3) (ls' := [some (.int (a1))]) (st' := [.int (3), .int (1), .int (a1)]) rfl rfl ?_
  have hq1 := T_157 (X := X) (d := d) (by omega) a1 (1 : Int32) (3 : Int32) M
  have hz1 := Rc.bool mR_157 hq1
  refine Rc.callS tb_159 rfl rfl rfl mS_157 mP_157 mL_157 rfl rfl rfl hq1 ?_
  subst h
  obtain ⟨rfl, rfl⟩ := hC
  exact Rc.zret tb_159 rfl mR_159 hz1
theorem T_159 {X : AX} {d : Nat} (hd : 1 ≤ d) (a1 : Int32) (M : IM) : Rc X d 159 0 [some (.int (a1))] [] M (some (.int (F_159 a1))) M := TF_159 hd rfl ⟨rfl, rfl⟩
/-! 160: NineDemandsModel.isLaw -/
def F_160 (a1 : Int32) (M : IM) : Int32 := F_157 a1 (0 : Int32) ((M 78 (0 : Int32).toNatClampNeg) - 1)
theorem TF_160 {X : AX} {d : Nat} (hd : 1 ≤ d) {a1 : Int32} {M : IM} {v : Option Value} {M' : IM} {o : Int32} (h : F_160 a1 M = o) (hC : v = some (.int o) ∧ M' = M) : Rc X d 160 0 [some (.ref (77)), some (.int (a1))] [] M v M' := by
  obtain ⟨d, rfl⟩ : ∃ e, d = e + 1 := ⟨d - 1, by omega⟩
  unfold F_160 at h
  refine Rc.run tb_160 3 (pc' := 3) (ls' := [some (.ref (77)), some (.int (a1))]) (st' := [.ref (77), .int (0), .int (a1)]) rfl rfl ?_
  refine Rc.getR tb_160 rfl rfl ob_77 (by decide +kernel) tg_77_0 (by decide) ?_
  refine Rc.run tb_160 1 (pc' := 7) (ls' := [some (.ref (77)), some (.int (a1))]) (st' := [.int (0), .ref (78), .int (0), .int (a1)]) rfl rfl ?_
  refine Rc.iald tb_160 rfl rfl ia_78 (by decide) ?_
  refine Rc.run tb_160 2 (pc' := 10) (ls' := [some (.ref (77)), some (.int (a1))]) (st' := [.int ((M 78 (0 : Int32).toNatClampNeg) - 1), .int (0), .int (a1)]) rfl rfl ?_
  have hq1 := T_157 (X := X) (d := d) (by omega) a1 (0 : Int32) ((M 78 (0 : Int32).toNatClampNeg) - 1) M
  have hz1 := Rc.bool mR_157 hq1
  refine Rc.callS tb_160 rfl rfl rfl mS_157 mP_157 mL_157 rfl rfl rfl hq1 ?_
  subst h
  obtain ⟨rfl, rfl⟩ := hC
  exact Rc.zret tb_160 rfl mR_160 hz1
theorem T_160 {X : AX} {d : Nat} (hd : 1 ≤ d) (a1 : Int32) (M : IM) : Rc X d 160 0 [some (.ref (77)), some (.int (a1))] [] M (some (.int (F_160 a1 M))) M := TF_160 hd rfl ⟨rfl, rfl⟩
/-! 161: NineDemandsModel.isSet -/
def F_161 (a1 : Int32) (M : IM) : Int32 := F_157 a1 (0 : Int32) (((1 : Int32) <<< ((M 78 (0 : Int32).toNatClampNeg) &&& 31)) - 1)
theorem TF_161 {X : AX} {d : Nat} (hd : 1 ≤ d) {a1 : Int32} {M : IM} {v : Option Value} {M' : IM} {o : Int32} (h : F_161 a1 M = o) (hC : v = some (.int o) ∧ M' = M) : Rc X d 161 0 [some (.ref (77)), some (.int (a1))] [] M v M' := by
  obtain ⟨d, rfl⟩ : ∃ e, d = e + 1 := ⟨d - 1, by omega⟩
  unfold F_161 at h
  refine Rc.run tb_161 4 (pc' := 4) (ls' := [some (.ref (77)), some (.int (a1))]) (st' := [.ref (77), .int (1), .int (0), .int (a1)]) rfl rfl ?_
  refine Rc.getR tb_161 rfl rfl ob_77 (by decide +kernel) tg_77_0 (by decide) ?_
  refine Rc.run tb_161 1 (pc' := 8) (ls' := [some (.ref (77)), some (.int (a1))]) (st' := [.int (0), .ref (78), .int (1), .int (0), .int (a1)]) rfl rfl ?_
  refine Rc.iald tb_161 rfl rfl ia_78 (by decide) ?_
  refine Rc.run tb_161 3 (pc' := 12) (ls' := [some (.ref (77)), some (.int (a1))]) (st' := [.int (((1 : Int32) <<< ((M 78 (0 : Int32).toNatClampNeg) &&& 31)) - 1), .int (0), .int (a1)]) rfl rfl ?_
  have hq1 := T_157 (X := X) (d := d) (by omega) a1 (0 : Int32) (((1 : Int32) <<< ((M 78 (0 : Int32).toNatClampNeg) &&& 31)) - 1) M
  have hz1 := Rc.bool mR_157 hq1
  refine Rc.callS tb_161 rfl rfl rfl mS_157 mP_157 mL_157 rfl rfl rfl hq1 ?_
  subst h
  obtain ⟨rfl, rfl⟩ := hC
  exact Rc.zret tb_161 rfl mR_161 hz1
theorem T_161 {X : AX} {d : Nat} (hd : 1 ≤ d) (a1 : Int32) (M : IM) : Rc X d 161 0 [some (.ref (77)), some (.int (a1))] [] M (some (.int (F_161 a1 M))) M := TF_161 hd rfl ⟨rfl, rfl⟩
/-! 162: NineDemandsModel.has -/
def F_162 (a1 : Int32) (a2 : Int32) : Int32 := if (a1 >>> (a2 &&& 31)) &&& 1 = 1 then 1 else 0
theorem TF_162 {X : AX} {d : Nat} (hd : 0 ≤ d) {a1 : Int32} {a2 : Int32} {M : IM} {v : Option Value} {M' : IM} {o : Int32} (h : F_162 a1 a2 = o) (hC : v = some (.int o) ∧ M' = M) : Rc X d 162 0 [some (.int (a1)), some (.int (a2))] [] M v M' := by
  unfold F_162 at h
  refine Rc.run tb_162 6 (pc' := 6) (ls' := [some (.int (a1)), some (.int (a2))]) (st' := [.int (1), .int ((a1 >>> (a2 &&& 31)) &&& 1)]) rfl rfl ?_
  refine Rc.icmp_ne (pc1 := 13) tb_162 rfl rfl (by decide) (by decide) (fun hb1 => ?_) (fun hb1 => ?_)
  · rw [if_pos hb1] at h
    refine Rc.run tb_162 2 (pc' := 14) (ls' := [some (.int (a1)), some (.int (a2))]) (st' := [.int (1)]) rfl rfl ?_
    subst h
    obtain ⟨rfl, rfl⟩ := hC
    exact Rc.zret tb_162 rfl mR_162 (Or.inr rfl)
  · rw [if_neg hb1] at h
    refine Rc.run tb_162 1 (pc' := 14) (ls' := [some (.int (a1)), some (.int (a2))]) (st' := [.int (0)]) rfl rfl ?_
    subst h
    obtain ⟨rfl, rfl⟩ := hC
    exact Rc.zret tb_162 rfl mR_162 (Or.inl rfl)
theorem T_162 {X : AX} {d : Nat} (hd : 0 ≤ d) (a1 : Int32) (a2 : Int32) (M : IM) : Rc X d 162 0 [some (.int (a1)), some (.int (a2))] [] M (some (.int (F_162 a1 a2))) M := TF_162 hd rfl ⟨rfl, rfl⟩
/-! 163: NineDemandsModel.kindOf -/
def F_163 (a1 : Int32) (M : IM) : Option (Int32) := if inb (22 + a1) 366 = true then (some (M 78 (22 + a1).toNatClampNeg)) else none
theorem TF_163 {X : AX} {d : Nat} (hd : 0 ≤ d) {a1 : Int32} {M : IM} {v : Option Value} {M' : IM} {o : Int32} (h : F_163 a1 M = some o) (hC : v = some (.int o) ∧ M' = M) : Rc X d 163 0 [some (.ref (77)), some (.int (a1))] [] M v M' := by
  unfold F_163 at h
  refine Rc.run tb_163 1 (pc' := 1) (ls' := [some (.ref (77)), some (.int (a1))]) (st' := [.ref (77)]) rfl rfl ?_
  refine Rc.getR tb_163 rfl rfl ob_77 (by decide +kernel) tg_77_0 (by decide) ?_
  refine Rc.run tb_163 3 (pc' := 8) (ls' := [some (.ref (77)), some (.int (a1))]) (st' := [.int (22 + a1), .ref (78)]) rfl rfl ?_
  by_cases hb1 : inb (22 + a1) 366 = true
  · rw [if_pos hb1] at h
    refine Rc.iald tb_163 rfl rfl ia_78 hb1 ?_
    obtain rfl := Option.some.inj h
    obtain ⟨rfl, rfl⟩ := hC
    exact Rc.iret (ins := .ireturn) tb_163 rfl mR_163
  · rw [if_neg hb1] at h
    cases h
theorem T_163 {X : AX} {d : Nat} (hd : 0 ≤ d) {a1 : Int32} {M : IM} {x : Int32} (h : F_163 a1 M = some x) : Rc X d 163 0 [some (.ref (77)), some (.int (a1))] [] M (some (.int x)) M := TF_163 hd h ⟨rfl, rfl⟩
