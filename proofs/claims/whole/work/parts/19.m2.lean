/-! methods as functions, printed by wip/gen/emit.py -/
/-! 164: NineDemandsModel.casesOf -/
def F_164 (a1 : Int32) (M : IM) : Option (Int32) := (match F_163 a1 M with | none => none | some c1 => (if inb (c1 + 1) 7 = true then (if inb c1 7 = true then (some ((M 81 (c1 + 1).toNatClampNeg) - (M 81 c1.toNatClampNeg))) else none) else none))
theorem TF_164 {X : AX} {d : Nat} (hd : 1 ≤ d) {a1 : Int32} {M : IM} {v : Option Value} {M' : IM} {o : Int32} (h : F_164 a1 M = some o) (hC : v = some (.int o) ∧ M' = M) : Rc X d 164 0 [some (.ref (77)), some (.int (a1))] [] M v M' := by
  obtain ⟨d, rfl⟩ : ∃ e, d = e + 1 := ⟨d - 1, by omega⟩
  unfold F_164 at h
  refine Rc.run tb_164 1 (pc' := 1) (ls' := [some (.ref (77)), some (.int (a1))]) (st' := [.ref (77)]) rfl rfl ?_
  refine Rc.getR tb_164 rfl rfl ob_77 (by decide +kernel) tg_77_4 (by decide) ?_
  refine Rc.run tb_164 2 (pc' := 6) (ls' := [some (.ref (77)), some (.int (a1))]) (st' := [.int (a1), .ref (77), .ref (81)]) rfl rfl ?_
  cases hc1 : F_163 a1 M with
  | none => rw [hc1] at h; cases h
  | some c1 =>
    rw [hc1] at h
    dsimp only at h
    have hq1 := T_163 (X := X) (d := d) (by omega) (M := M) hc1
    refine Rc.callV tb_164 rfl rfl rfl mS_163 mP_163 mL_163 mO_163 rfl rfl ob_77 rfl rfl hq1 ?_
    refine Rc.run tb_164 2 (pc' := 11) (ls' := [some (.ref (77)), some (.int (a1))]) (st' := [.int (c1 + 1), .ref (81)]) rfl rfl ?_
    by_cases hb4 : inb (c1 + 1) 7 = true
    · rw [if_pos hb4] at h
      refine Rc.iald tb_164 rfl rfl ia_81 hb4 ?_
      refine Rc.run tb_164 1 (pc' := 13) (ls' := [some (.ref (77)), some (.int (a1))]) (st' := [.ref (77), .int (M 81 (c1 + 1).toNatClampNeg)]) rfl rfl ?_
      refine Rc.getR tb_164 rfl rfl ob_77 (by decide +kernel) tg_77_4 (by decide) ?_
      refine Rc.run tb_164 2 (pc' := 18) (ls' := [some (.ref (77)), some (.int (a1))]) (st' := [.int (a1), .ref (77), .ref (81), .int (M 81 (c1 + 1).toNatClampNeg)]) rfl rfl ?_
      refine Rc.callV tb_164 rfl rfl rfl mS_163 mP_163 mL_163 mO_163 rfl rfl ob_77 rfl rfl hq1 ?_
      by_cases hb3 : inb c1 7 = true
      · rw [if_pos hb3] at h
        refine Rc.iald tb_164 rfl rfl ia_81 hb3 ?_
        refine Rc.run tb_164 1 (pc' := 23) (ls' := [some (.ref (77)), some (.int (a1))]) (st' := [.int ((M 81 (c1 + 1).toNatClampNeg) - (M 81 c1.toNatClampNeg))]) rfl rfl ?_
        obtain rfl := Option.some.inj h
        obtain ⟨rfl, rfl⟩ := hC
        exact Rc.iret (ins := .ireturn) tb_164 rfl mR_164
      · rw [if_neg hb3] at h
        cases h
    · rw [if_neg hb4] at h
      cases h
theorem T_164 {X : AX} {d : Nat} (hd : 1 ≤ d) {a1 : Int32} {M : IM} {x : Int32} (h : F_164 a1 M = some x) : Rc X d 164 0 [some (.ref (77)), some (.int (a1))] [] M (some (.int x)) M := TF_164 hd h ⟨rfl, rfl⟩
/-! 165: NineDemandsModel.hasOther -/
def F_165 (a1 : Int32) (M : IM) : Option (Int32) := (match F_163 a1 M with | none => none | some c1 => (if c1 = 0 then (some (0)) else (if c1 = 5 then (some (0)) else (some (1)))))
theorem TF_165 {X : AX} {d : Nat} (hd : 1 ≤ d) {a1 : Int32} {M : IM} {v : Option Value} {M' : IM} {o : Int32} (h : F_165 a1 M = some o) (hC : v = some (.int o) ∧ M' = M) : Rc X d 165 0 [some (.ref (77)), some (.int (a1))] [] M v M' := by
  obtain ⟨d, rfl⟩ : ∃ e, d = e + 1 := ⟨d - 1, by omega⟩
  unfold F_165 at h
  refine Rc.run tb_165 2 (pc' := 2) (ls' := [some (.ref (77)), some (.int (a1))]) (st' := [.int (a1), .ref (77)]) rfl rfl ?_
  cases hc1 : F_163 a1 M with
  | none => rw [hc1] at h; cases h
  | some c1 =>
    rw [hc1] at h
    dsimp only at h
    have hq1 := T_163 (X := X) (d := d) (by omega) (M := M) hc1
    refine Rc.callV tb_165 rfl rfl rfl mS_163 mP_163 mL_163 mO_163 rfl rfl ob_77 rfl rfl hq1 ?_
    refine Rc.if_eq (pc1 := 21) tb_165 rfl rfl (by decide) (by decide) (fun hb4 => ?_) (fun hb4 => ?_)
    · rw [if_pos hb4] at h
      refine Rc.run tb_165 1 (pc' := 22) (ls' := [none, none]) (st' := [.int (0)]) rfl rfl ?_
      obtain rfl := Option.some.inj h
      obtain ⟨rfl, rfl⟩ := hC
      exact Rc.zret tb_165 rfl mR_165 (Or.inl rfl)
    · rw [if_neg hb4] at h
      refine Rc.run tb_165 2 (pc' := 10) (ls' := [some (.ref (77)), some (.int (a1))]) (st' := [.int (a1), .ref (77)]) rfl rfl ?_
      refine Rc.callV tb_165 rfl rfl rfl mS_163 mP_163 mL_163 mO_163 rfl rfl ob_77 rfl rfl hq1 ?_
      refine Rc.run tb_165 1 (pc' := 14) (ls' := [some (.ref (77)), some (.int (a1))]) (st' := [.int (5), .int (c1)]) rfl rfl ?_
      refine Rc.icmp_eq (pc1 := 21) tb_165 rfl rfl (by decide) (by decide) (fun hb3 => ?_) (fun hb3 => ?_)
      · rw [if_pos hb3] at h
        refine Rc.run tb_165 1 (pc' := 22) (ls' := [none, none]) (st' := [.int (0)]) rfl rfl ?_
        obtain rfl := Option.some.inj h
        obtain ⟨rfl, rfl⟩ := hC
        exact Rc.zret tb_165 rfl mR_165 (Or.inl rfl)
      · rw [if_neg hb3] at h
        refine Rc.run tb_165 2 (pc' := 22) (ls' := [some (.ref (77)), some (.int (a1))]) (st' := [.int (1)]) rfl rfl ?_
        obtain rfl := Option.some.inj h
        obtain ⟨rfl, rfl⟩ := hC
        exact Rc.zret tb_165 rfl mR_165 (Or.inr rfl)
theorem T_165 {X : AX} {d : Nat} (hd : 1 ≤ d) {a1 : Int32} {M : IM} {x : Int32} (h : F_165 a1 M = some x) : Rc X d 165 0 [some (.ref (77)), some (.int (a1))] [] M (some (.int x)) M := TF_165 hd h ⟨rfl, rfl⟩
/-! 166: NineDemandsModel.wanting -/
def J_166_27_4 (x0 : Int32) (x1 : Int32) (x3 : Int32) (s0 : Int32) (s1 : Int32) : Option ((Int32 × Int32) ⊕ (Int32 × Int32)) := some (Sum.inl (s1 + s0, x3 + 1))
def B_166_4 (x0 : Int32) (x1 : Int32) : (Int32 × Int32) → Option ((Int32 × Int32) ⊕ (Int32 × Int32)) := fun (x2, x3) => if F_151 x0 ≤ x3 then (some (Sum.inr (x2, x3))) else (if F_152 x0 x3 = x1 then (J_166_27_4 x0 x1 x3 (1 : Int32) x2) else (J_166_27_4 x0 x1 x3 (0 : Int32) x2))
def L_166_4 (x0 : Int32) (x1 : Int32) (x2 : Int32) (x3 : Int32) : Option (Int32 × Int32) := loopN (B_166_4 x0 x1) FU (x2, x3)
def F_166 (a1 : Int32) (a2 : Int32) : Option (Int32) := (match L_166_4 a1 a2 0 0 with | none => none | some (x2_5, x3_5) => (some (x2_5)))
theorem TJ_166_27_4 {X : AX} {d : Nat} (hd : 2 ≤ d) {x0 : Int32} {x1 : Int32} {x3 : Int32} {s0 : Int32} {s1 : Int32} {M : IM} (hs0 : s0 = 0 ∨ s0 = 1) {v : Option Value} {M' : IM} {o : (Int32 × Int32) ⊕ (Int32 × Int32)} (h : J_166_27_4 x0 x1 x3 s0 s1 = some o) (hP : ∀ s', o = .inl s' → (fun (x2, x3) => Rc X d 166 4 [some (.int (x0)), some (.int (x1)), some (.int (x2)), some (.int (x3))] [] M v M') s') (hE : ∀ r, o = .inr r → (fun (x2, x3) => Rc X d 166 35 [none, none, some (.int (x2)), none] [] M v M') r) : Rc X d 166 27 [some (.int (x0)), some (.int (x1)), none, some (.int (x3))] [.int (s0), .int (s1)] M v M' := by
  obtain ⟨d, rfl⟩ : ∃ e, d = e + 1 := ⟨d - 1, by omega⟩
  unfold J_166_27_4 at h
  dsimp only at hP hE
  refine Rc.run tb_166 4 (pc' := 4) (ls' := [some (.int (x0)), some (.int (x1)), some (.int (s1 + s0)), some (.int (x3 + 1))]) (st' := []) rfl rfl ?_
  refine Rc.mask (b := 15) ((tb_166.2 4).trans rfl) (ls' := [some (.int (x0)), some (.int (x1)), some (.int (s1 + s0)), some (.int (x3 + 1))]) rfl ?_
  obtain rfl := Option.some.inj h
  exact hP _ rfl
theorem TB_166_4 {X : AX} {d : Nat} (hd : 2 ≤ d) {x0 : Int32} {x1 : Int32} {M : IM} {v : Option Value} {M' : IM} : ∀ (s : Int32 × Int32) (o : (Int32 × Int32) ⊕ (Int32 × Int32)), B_166_4 x0 x1 s = some o → (∀ s', o = .inl s' → (fun (x2, x3) => Rc X d 166 4 [some (.int (x0)), some (.int (x1)), some (.int (x2)), some (.int (x3))] [] M v M') s') → (∀ r, o = .inr r → (fun (x2, x3) => Rc X d 166 35 [none, none, some (.int (x2)), none] [] M v M') r) → (fun (x2, x3) => Rc X d 166 4 [some (.int (x0)), some (.int (x1)), some (.int (x2)), some (.int (x3))] [] M v M') s := by
  rintro ⟨x2, x3⟩ o h hP hE
  show Rc X d 166 4 [some (.int (x0)), some (.int (x1)), some (.int (x2)), some (.int (x3))] [] M v M'
  obtain ⟨d, rfl⟩ : ∃ e, d = e + 1 := ⟨d - 1, by omega⟩
  unfold B_166_4 at h
  dsimp only at h hP hE
  refine Rc.run tb_166 2 (pc' := 6) (ls' := [some (.int (x0)), some (.int (x1)), some (.int (x2)), some (.int (x3))]) (st' := [.int (x0), .int (x3)]) rfl rfl ?_
  have hq1 := T_151 (X := X) (d := d) (by omega) x0 M
  refine Rc.callS tb_166 rfl rfl rfl mS_151 mP_151 mL_151 rfl rfl rfl hq1 ?_
  refine Rc.icmp_ge (pc1 := 35) tb_166 rfl rfl (by decide) (by decide) (fun hb4 => ?_) (fun hb4 => ?_)
  · rw [if_pos hb4] at h
    refine Rc.mask (b := 4) ((tb_166.2 35).trans rfl) (ls' := [none, none, some (.int (x2)), none]) rfl ?_
    obtain rfl := Option.some.inj h
    exact hE _ rfl
  · rw [if_neg hb4] at h
    refine Rc.run tb_166 3 (pc' := 15) (ls' := [some (.int (x0)), some (.int (x1)), some (.int (x2)), some (.int (x3))]) (st' := [.int (x3), .int (x0), .int (x2)]) rfl rfl ?_
    have hq2 := T_152 (X := X) (d := d) (by omega) x0 x3 M
    refine Rc.callS tb_166 rfl rfl rfl mS_152 mP_152 mL_152 rfl rfl rfl hq2 ?_
    refine Rc.run tb_166 1 (pc' := 19) (ls' := [some (.int (x0)), some (.int (x1)), some (.int (x2)), some (.int (x3))]) (st' := [.int (x1), .int (F_152 x0 x3), .int (x2)]) rfl rfl ?_
    refine Rc.icmp_ne (pc1 := 26) tb_166 rfl rfl (by decide) (by decide) (fun hb3 => ?_) (fun hb3 => ?_)
    · rw [if_pos hb3] at h
      refine Rc.run tb_166 2 (pc' := 27) (ls' := [some (.int (x0)), some (.int (x1)), some (.int (x2)), some (.int (x3))]) (st' := [.int (1), .int (x2)]) rfl rfl ?_
      refine Rc.mask (b := 11) ((tb_166.2 27).trans rfl) (ls' := [some (.int (x0)), some (.int (x1)), none, some (.int (x3))]) rfl ?_
      exact TJ_166_27_4 (X := X) (d := d + 1) (by omega) (Or.inr rfl) h hP hE
    · rw [if_neg hb3] at h
      refine Rc.run tb_166 1 (pc' := 27) (ls' := [some (.int (x0)), some (.int (x1)), some (.int (x2)), some (.int (x3))]) (st' := [.int (0), .int (x2)]) rfl rfl ?_
      refine Rc.mask (b := 11) ((tb_166.2 27).trans rfl) (ls' := [some (.int (x0)), some (.int (x1)), none, some (.int (x3))]) rfl ?_
      exact TJ_166_27_4 (X := X) (d := d + 1) (by omega) (Or.inl rfl) h hP hE
theorem TL_166_4 {X : AX} {d : Nat} (hd : 2 ≤ d) {x0 : Int32} {x1 : Int32} {M : IM} {x2 : Int32} {x3 : Int32} {v : Option Value} {M' : IM} {r : Int32 × Int32} (h : L_166_4 x0 x1 x2 x3 = some r) (hE : (fun (x2, x3) => Rc X d 166 35 [none, none, some (.int (x2)), none] [] M v M') r) : Rc X d 166 4 [some (.int (x0)), some (.int (x1)), some (.int (x2)), some (.int (x3))] [] M v M' := by
  exact loopN_rc (P := fun (x2, x3) => Rc X d 166 4 [some (.int (x0)), some (.int (x1)), some (.int (x2)), some (.int (x3))] [] M v M') (E := fun (x2, x3) => Rc X d 166 35 [none, none, some (.int (x2)), none] [] M v M') (TB_166_4 (X := X) hd) FU _ r h hE
theorem TF_166 {X : AX} {d : Nat} (hd : 2 ≤ d) {a1 : Int32} {a2 : Int32} {M : IM} {v : Option Value} {M' : IM} {o : Int32} (h : F_166 a1 a2 = some o) (hC : v = some (.int o) ∧ M' = M) : Rc X d 166 0 [some (.int (a1)), some (.int (a2)), none, none] [] M v M' := by
  obtain ⟨d, rfl⟩ : ∃ e, d = e + 1 := ⟨d - 1, by omega⟩
  unfold F_166 at h
  refine Rc.run tb_166 4 (pc' := 4) (ls' := [some (.int (a1)), some (.int (a2)), some (.int (0)), some (.int (0))]) (st' := []) rfl rfl ?_
  refine Rc.mask (b := 15) ((tb_166.2 4).trans rfl) (ls' := [some (.int (a1)), some (.int (a2)), some (.int (0)), some (.int (0))]) rfl ?_
  cases hl5 : L_166_4 a1 a2 0 0 with
  | none => rw [hl5] at h; cases h
  | some r5 =>
    obtain ⟨x2_5, x3_5⟩ := r5
    rw [hl5] at h
    dsimp only at h
    refine TL_166_4 (X := X) (d := d + 1) (by omega) hl5 ?_
    refine Rc.run tb_166 1 (pc' := 36) (ls' := [none, none, some (.int (x2_5)), none]) (st' := [.int (x2_5)]) rfl rfl ?_
    obtain rfl := Option.some.inj h
    obtain ⟨rfl, rfl⟩ := hC
    exact Rc.iret (ins := .ireturn) tb_166 rfl mR_166
theorem T_166 {X : AX} {d : Nat} (hd : 2 ≤ d) {a1 : Int32} {a2 : Int32} {M : IM} {x : Int32} (h : F_166 a1 a2 = some x) : Rc X d 166 0 [some (.int (a1)), some (.int (a2)), none, none] [] M (some (.int x)) M := TF_166 hd h ⟨rfl, rfl⟩
/-! 167: NineDemandsModel.hall -/
def J_167_27 (M : IM) : Option (Int32 × IM) := (match F_156 ((-1000001) : Int32) M with | none => none | some (c2, M2) => (some ((c2, M2))))
def J_167_34 (x1 : Int32) (x2 : Int32) (M : IM) : Option (Int32 × IM) := if x2 = 0 then (some ((F_151 x1, M))) else (if (3 : Int32) ≤ x2 then (some ((F_152 x1 (x2 - 10), M))) else (match F_166 x1 (x2 - 1) with | none => none | some c7 => (some ((c7, M)))))
def F_167 (a1 : Int32) (a2 : Int32) (M : IM) : Option (Int32 × IM) := if F_158 a1 = 0 then (J_167_27 M) else (if F_157 a2 (0 : Int32) (2 : Int32) = 0 then (if F_157 a2 (10 : Int32) (12 : Int32) = 0 then (J_167_27 M) else (J_167_34 a1 a2 M)) else (J_167_34 a1 a2 M))
theorem TJ_167_27 {X : AX} {d : Nat} (hd : 3 ≤ d) {M : IM} {v : Option Value} {M' : IM} {o : Int32 × IM} (h : J_167_27 M = some o) (hC : v = some (.int o.1) ∧ M' = o.2) : Rc X d 167 27 [some (.ref (77)), none, none] [] M v M' := by
  obtain ⟨d, rfl⟩ : ∃ e, d = e + 1 := ⟨d - 1, by omega⟩
  unfold J_167_27 at h
  refine Rc.run tb_167 2 (pc' := 30) (ls' := [some (.ref (77)), none, none]) (st' := [.int ((-1000001)), .ref (77)]) rfl rfl ?_
  cases hc2 : F_156 ((-1000001) : Int32) M with
  | none => rw [hc2] at h; cases h
  | some r2 =>
    obtain ⟨c2, M2⟩ := r2
    rw [hc2] at h
    dsimp only at h
    have hq2 := T_156 (X := X) (d := d) (by omega) (M := M) hc2
    refine Rc.callV tb_167 rfl rfl rfl mS_156 mP_156 mL_156 mO_156 rfl rfl ob_77 rfl rfl hq2 ?_
    obtain rfl := Option.some.inj h
    obtain ⟨rfl, rfl⟩ := hC
    exact Rc.iret (ins := .ireturn) tb_167 rfl mR_167
theorem TJ_167_34 {X : AX} {d : Nat} (hd : 3 ≤ d) {x1 : Int32} {x2 : Int32} {M : IM} {v : Option Value} {M' : IM} {o : Int32 × IM} (h : J_167_34 x1 x2 M = some o) (hC : v = some (.int o.1) ∧ M' = o.2) : Rc X d 167 34 [none, some (.int (x1)), some (.int (x2))] [] M v M' := by
  obtain ⟨d, rfl⟩ : ∃ e, d = e + 1 := ⟨d - 1, by omega⟩
  unfold J_167_34 at h
  refine Rc.run tb_167 1 (pc' := 35) (ls' := [none, some (.int (x1)), some (.int (x2))]) (st' := [.int (x2)]) rfl rfl ?_
  refine Rc.if_ne (pc1 := 45) tb_167 rfl rfl (by decide) (by decide) (fun hb9 => ?_) (fun hb9 => ?_)
  · rw [if_pos hb9] at h
    refine Rc.run tb_167 1 (pc' := 39) (ls' := [none, some (.int (x1)), some (.int (x2))]) (st' := [.int (x1)]) rfl rfl ?_
    have hq5 := T_151 (X := X) (d := d) (by omega) x1 M
    refine Rc.callS tb_167 rfl rfl rfl mS_151 mP_151 mL_151 rfl rfl rfl hq5 ?_
    refine Rc.run tb_167 1 (pc' := 68) (ls' := [none, some (.int (x1)), some (.int (x2))]) (st' := [.int (F_151 x1)]) rfl rfl ?_
    obtain rfl := Option.some.inj h
    obtain ⟨rfl, rfl⟩ := hC
    exact Rc.iret (ins := .ireturn) tb_167 rfl mR_167
  · rw [if_neg hb9] at h
    refine Rc.run tb_167 2 (pc' := 47) (ls' := [none, some (.int (x1)), some (.int (x2))]) (st' := [.int (3), .int (x2)]) rfl rfl ?_
    refine Rc.icmp_ge (pc1 := 60) tb_167 rfl rfl (by decide) (by decide) (fun hb8 => ?_) (fun hb8 => ?_)
    · rw [if_pos hb8] at h
      refine Rc.run tb_167 4 (pc' := 65) (ls' := [none, some (.int (x1)), some (.int (x2))]) (st' := [.int (x2 - 10), .int (x1)]) rfl rfl ?_
      have hq6 := T_152 (X := X) (d := d) (by omega) x1 (x2 - 10) M
      refine Rc.callS tb_167 rfl rfl rfl mS_152 mP_152 mL_152 rfl rfl rfl hq6 ?_
      obtain rfl := Option.some.inj h
      obtain ⟨rfl, rfl⟩ := hC
      exact Rc.iret (ins := .ireturn) tb_167 rfl mR_167
    · rw [if_neg hb8] at h
      refine Rc.run tb_167 4 (pc' := 54) (ls' := [none, some (.int (x1)), some (.int (x2))]) (st' := [.int (x2 - 1), .int (x1)]) rfl rfl ?_
      cases hc7 : F_166 x1 (x2 - 1) with
      | none => rw [hc7] at h; cases h
      | some c7 =>
        rw [hc7] at h
        dsimp only at h
        have hq7 := T_166 (X := X) (d := d) (by omega) (M := M) hc7
        refine Rc.callS tb_167 rfl rfl rfl mS_166 mP_166 mL_166 rfl rfl rfl hq7 ?_
        refine Rc.run tb_167 1 (pc' := 68) (ls' := [none, some (.int (x1)), some (.int (x2))]) (st' := [.int (c7)]) rfl rfl ?_
        obtain rfl := Option.some.inj h
        obtain ⟨rfl, rfl⟩ := hC
        exact Rc.iret (ins := .ireturn) tb_167 rfl mR_167
theorem TF_167 {X : AX} {d : Nat} (hd : 3 ≤ d) {a1 : Int32} {a2 : Int32} {M : IM} {v : Option Value} {M' : IM} {o : Int32 × IM} (h : F_167 a1 a2 M = some o) (hC : v = some (.int o.1) ∧ M' = o.2) : Rc X d 167 0 [some (.ref (77)), some (.int (a1)), some (.int (a2))] [] M v M' := by
  obtain ⟨d, rfl⟩ : ∃ e, d = e + 1 := ⟨d - 1, by omega⟩
  unfold F_167 at h
  refine Rc.run tb_167 1 (pc' := 1) (ls' := [some (.ref (77)), some (.int (a1)), some (.int (a2))]) (st' := [.int (a1)]) rfl rfl ?_
  have hq1 := T_158 (X := X) (d := d) (by omega) a1 M
  have hz1 := Rc.bool mR_158 hq1
  refine Rc.callS tb_167 rfl rfl rfl mS_158 mP_158 mL_158 rfl rfl rfl hq1 ?_
  refine Rc.if_eq (pc1 := 27) tb_167 rfl rfl (by decide) (by decide) (fun hb12 => ?_) (fun hb12 => ?_)
  · rw [if_pos hb12] at h
    refine Rc.mask (b := 1) ((tb_167.2 27).trans rfl) (ls' := [some (.ref (77)), none, none]) rfl ?_
    exact TJ_167_27 (X := X) (d := d + 1) (by omega) h hC
  · rw [if_neg hb12] at h
    refine Rc.run tb_167 3 (pc' := 10) (ls' := [some (.ref (77)), some (.int (a1)), some (.int (a2))]) (st' := [.int (2), .int (0), .int (a2)]) rfl rfl ?_
    have hq3 := T_157 (X := X) (d := d) (by omega) a2 (0 : Int32) (2 : Int32) M
    have hz3 := Rc.bool mR_157 hq3
    refine Rc.callS tb_167 rfl rfl rfl mS_157 mP_157 mL_157 rfl rfl rfl hq3 ?_
    refine Rc.if_ne (pc1 := 34) tb_167 rfl rfl (by decide) (by decide) (fun hb11 => ?_) (fun hb11 => ?_)
    · rw [if_pos hb11] at h
      refine Rc.run tb_167 3 (pc' := 21) (ls' := [some (.ref (77)), some (.int (a1)), some (.int (a2))]) (st' := [.int (12), .int (10), .int (a2)]) rfl rfl ?_
      have hq4 := T_157 (X := X) (d := d) (by omega) a2 (10 : Int32) (12 : Int32) M
      have hz4 := Rc.bool mR_157 hq4
      refine Rc.callS tb_167 rfl rfl rfl mS_157 mP_157 mL_157 rfl rfl rfl hq4 ?_
      refine Rc.if_ne (pc1 := 34) tb_167 rfl rfl (by decide) (by decide) (fun hb10 => ?_) (fun hb10 => ?_)
      · rw [if_pos hb10] at h
        refine Rc.mask (b := 1) ((tb_167.2 27).trans rfl) (ls' := [some (.ref (77)), none, none]) rfl ?_
        exact TJ_167_27 (X := X) (d := d + 1) (by omega) h hC
      · rw [if_neg hb10] at h
        refine Rc.mask (b := 6) ((tb_167.2 34).trans rfl) (ls' := [none, some (.int (a1)), some (.int (a2))]) rfl ?_
        exact TJ_167_34 (X := X) (d := d + 1) (by omega) h hC
    · rw [if_neg hb11] at h
      refine Rc.mask (b := 6) ((tb_167.2 34).trans rfl) (ls' := [none, some (.int (a1)), some (.int (a2))]) rfl ?_
      exact TJ_167_34 (X := X) (d := d + 1) (by omega) h hC
theorem T_167 {X : AX} {d : Nat} (hd : 3 ≤ d) {a1 : Int32} {a2 : Int32} {M : IM} {x : Int32} {M1 : IM} (h : F_167 a1 a2 M = some (x, M1)) : Rc X d 167 0 [some (.ref (77)), some (.int (a1)), some (.int (a2))] [] M (some (.int x)) M1 := TF_167 hd h ⟨rfl, rfl⟩
/-! 168: NineDemandsModel.moved -/
def J_168_16 (M : IM) : Option (Int32 × IM) := (match F_156 ((-1000001) : Int32) M with | none => none | some (c2, M2) => (some ((c2, M2))))
def F_168 (a1 : Int32) (a2 : Int32) (M : IM) : Option (Int32 × IM) := if F_158 a1 = 0 then (J_168_16 M) else (if F_157 a2 (0 : Int32) (2 : Int32) = 0 then (J_168_16 M) else (if a2 < F_151 a1 then (some ((F_153 a1 ((1 : Int32) <<< (a2 &&& 31)), M))) else (match F_156 ((-1000002) : Int32) M with | none => none | some (c6, M6) => (some ((c6, M6))))))
theorem TJ_168_16 {X : AX} {d : Nat} (hd : 2 ≤ d) {M : IM} {v : Option Value} {M' : IM} {o : Int32 × IM} (h : J_168_16 M = some o) (hC : v = some (.int o.1) ∧ M' = o.2) : Rc X d 168 16 [some (.ref (77)), none, none] [] M v M' := by
  obtain ⟨d, rfl⟩ : ∃ e, d = e + 1 := ⟨d - 1, by omega⟩
  unfold J_168_16 at h
  refine Rc.run tb_168 2 (pc' := 19) (ls' := [some (.ref (77)), none, none]) (st' := [.int ((-1000001)), .ref (77)]) rfl rfl ?_
  cases hc2 : F_156 ((-1000001) : Int32) M with
  | none => rw [hc2] at h; cases h
  | some r2 =>
    obtain ⟨c2, M2⟩ := r2
    rw [hc2] at h
    dsimp only at h
    have hq2 := T_156 (X := X) (d := d) (by omega) (M := M) hc2
    refine Rc.callV tb_168 rfl rfl rfl mS_156 mP_156 mL_156 mO_156 rfl rfl ob_77 rfl rfl hq2 ?_
    obtain rfl := Option.some.inj h
    obtain ⟨rfl, rfl⟩ := hC
    exact Rc.iret (ins := .ireturn) tb_168 rfl mR_168
theorem TF_168 {X : AX} {d : Nat} (hd : 2 ≤ d) {a1 : Int32} {a2 : Int32} {M : IM} {v : Option Value} {M' : IM} {o : Int32 × IM} (h : F_168 a1 a2 M = some o) (hC : v = some (.int o.1) ∧ M' = o.2) : Rc X d 168 0 [some (.ref (77)), some (.int (a1)), some (.int (a2))] [] M v M' := by
  obtain ⟨d, rfl⟩ : ∃ e, d = e + 1 := ⟨d - 1, by omega⟩
  unfold F_168 at h
  refine Rc.run tb_168 1 (pc' := 1) (ls' := [some (.ref (77)), some (.int (a1)), some (.int (a2))]) (st' := [.int (a1)]) rfl rfl ?_
  have hq1 := T_158 (X := X) (d := d) (by omega) a1 M
  have hz1 := Rc.bool mR_158 hq1
  refine Rc.callS tb_168 rfl rfl rfl mS_158 mP_158 mL_158 rfl rfl rfl hq1 ?_
  refine Rc.if_eq (pc1 := 16) tb_168 rfl rfl (by decide) (by decide) (fun hb9 => ?_) (fun hb9 => ?_)
  · rw [if_pos hb9] at h
    refine Rc.mask (b := 1) ((tb_168.2 16).trans rfl) (ls' := [some (.ref (77)), none, none]) rfl ?_
    exact TJ_168_16 (X := X) (d := d + 1) (by omega) h hC
  · rw [if_neg hb9] at h
    refine Rc.run tb_168 3 (pc' := 10) (ls' := [some (.ref (77)), some (.int (a1)), some (.int (a2))]) (st' := [.int (2), .int (0), .int (a2)]) rfl rfl ?_
    have hq3 := T_157 (X := X) (d := d) (by omega) a2 (0 : Int32) (2 : Int32) M
    have hz3 := Rc.bool mR_157 hq3
    refine Rc.callS tb_168 rfl rfl rfl mS_157 mP_157 mL_157 rfl rfl rfl hq3 ?_
    refine Rc.if_ne (pc1 := 23) tb_168 rfl rfl (by decide) (by decide) (fun hb8 => ?_) (fun hb8 => ?_)
    · rw [if_pos hb8] at h
      refine Rc.mask (b := 1) ((tb_168.2 16).trans rfl) (ls' := [some (.ref (77)), none, none]) rfl ?_
      exact TJ_168_16 (X := X) (d := d + 1) (by omega) h hC
    · rw [if_neg hb8] at h
      refine Rc.run tb_168 2 (pc' := 25) (ls' := [some (.ref (77)), some (.int (a1)), some (.int (a2))]) (st' := [.int (a1), .int (a2)]) rfl rfl ?_
      have hq4 := T_151 (X := X) (d := d) (by omega) a1 M
      refine Rc.callS tb_168 rfl rfl rfl mS_151 mP_151 mL_151 rfl rfl rfl hq4 ?_
      refine Rc.icmp_lt (pc1 := 40) tb_168 rfl rfl (by decide) (by decide) (fun hb7 => ?_) (fun hb7 => ?_)
      · rw [if_pos hb7] at h
        refine Rc.run tb_168 4 (pc' := 44) (ls' := [some (.ref (77)), some (.int (a1)), some (.int (a2))]) (st' := [.int ((1 : Int32) <<< (a2 &&& 31)), .int (a1)]) rfl rfl ?_
        have hq5 := T_153 (X := X) (d := d) (by omega) a1 ((1 : Int32) <<< (a2 &&& 31)) M
        refine Rc.callS tb_168 rfl rfl rfl mS_153 mP_153 mL_153 rfl rfl rfl hq5 ?_
        obtain rfl := Option.some.inj h
        obtain ⟨rfl, rfl⟩ := hC
        exact Rc.iret (ins := .ireturn) tb_168 rfl mR_168
      · rw [if_neg hb7] at h
        refine Rc.run tb_168 2 (pc' := 34) (ls' := [some (.ref (77)), some (.int (a1)), some (.int (a2))]) (st' := [.int ((-1000002)), .ref (77)]) rfl rfl ?_
        cases hc6 : F_156 ((-1000002) : Int32) M with
        | none => rw [hc6] at h; cases h
        | some r6 =>
          obtain ⟨c6, M6⟩ := r6
          rw [hc6] at h
          dsimp only at h
          have hq6 := T_156 (X := X) (d := d) (by omega) (M := M) hc6
          refine Rc.callV tb_168 rfl rfl rfl mS_156 mP_156 mL_156 mO_156 rfl rfl ob_77 rfl rfl hq6 ?_
          refine Rc.run tb_168 1 (pc' := 47) (ls' := [some (.ref (77)), some (.int (a1)), some (.int (a2))]) (st' := [.int (c6)]) rfl rfl ?_
          obtain rfl := Option.some.inj h
          obtain ⟨rfl, rfl⟩ := hC
          exact Rc.iret (ins := .ireturn) tb_168 rfl mR_168
theorem T_168 {X : AX} {d : Nat} (hd : 2 ≤ d) {a1 : Int32} {a2 : Int32} {M : IM} {x : Int32} {M1 : IM} (h : F_168 a1 a2 M = some (x, M1)) : Rc X d 168 0 [some (.ref (77)), some (.int (a1)), some (.int (a2))] [] M (some (.int x)) M1 := TF_168 hd h ⟨rfl, rfl⟩
/-! 169: NineDemandsModel.choose -/
def J_169_14 (M : IM) : Option (Int32 × IM) := (match F_156 ((-1000001) : Int32) M with | none => none | some (c2, M2) => (some ((c2, M2))))
def F_169 (a1 : Int32) (a2 : Int32) (M : IM) : Option (Int32 × IM) := if F_158 a1 = 0 then (J_169_14 M) else (if F_159 a2 = 0 then (J_169_14 M) else (if inb (10 + a1) 366 = true then (if inb (10 + a1) 366 = true then (some ((M 78 (10 + a1).toNatClampNeg, iset M 78 (10 + a1).toNatClampNeg a2))) else none) else none))
theorem TJ_169_14 {X : AX} {d : Nat} (hd : 2 ≤ d) {M : IM} {v : Option Value} {M' : IM} {o : Int32 × IM} (h : J_169_14 M = some o) (hC : v = some (.int o.1) ∧ M' = o.2) : Rc X d 169 14 [some (.ref (77)), none, none, none] [] M v M' := by
  obtain ⟨d, rfl⟩ : ∃ e, d = e + 1 := ⟨d - 1, by omega⟩
  unfold J_169_14 at h
  refine Rc.run tb_169 2 (pc' := 17) (ls' := [some (.ref (77)), none, none, none]) (st' := [.int ((-1000001)), .ref (77)]) rfl rfl ?_
  cases hc2 : F_156 ((-1000001) : Int32) M with
  | none => rw [hc2] at h; cases h
  | some r2 =>
    obtain ⟨c2, M2⟩ := r2
    rw [hc2] at h
    dsimp only at h
    have hq2 := T_156 (X := X) (d := d) (by omega) (M := M) hc2
    refine Rc.callV tb_169 rfl rfl rfl mS_156 mP_156 mL_156 mO_156 rfl rfl ob_77 rfl rfl hq2 ?_
    obtain rfl := Option.some.inj h
    obtain ⟨rfl, rfl⟩ := hC
    exact Rc.iret (ins := .ireturn) tb_169 rfl mR_169
theorem TF_169 {X : AX} {d : Nat} (hd : 2 ≤ d) {a1 : Int32} {a2 : Int32} {M : IM} {v : Option Value} {M' : IM} {o : Int32 × IM} (h : F_169 a1 a2 M = some o) (hC : v = some (.int o.1) ∧ M' = o.2) : Rc X d 169 0 [some (.ref (77)), some (.int (a1)), some (.int (a2)), none] [] M v M' := by
  obtain ⟨d, rfl⟩ : ∃ e, d = e + 1 := ⟨d - 1, by omega⟩
  unfold F_169 at h
  refine Rc.run tb_169 1 (pc' := 1) (ls' := [some (.ref (77)), some (.int (a1)), some (.int (a2)), none]) (st' := [.int (a1)]) rfl rfl ?_
  have hq1 := T_158 (X := X) (d := d) (by omega) a1 M
  have hz1 := Rc.bool mR_158 hq1
  refine Rc.callS tb_169 rfl rfl rfl mS_158 mP_158 mL_158 rfl rfl rfl hq1 ?_
  refine Rc.if_eq (pc1 := 14) tb_169 rfl rfl (by decide) (by decide) (fun hb7 => ?_) (fun hb7 => ?_)
  · rw [if_pos hb7] at h
    refine Rc.mask (b := 1) ((tb_169.2 14).trans rfl) (ls' := [some (.ref (77)), none, none, none]) rfl ?_
    exact TJ_169_14 (X := X) (d := d + 1) (by omega) h hC
  · rw [if_neg hb7] at h
    refine Rc.run tb_169 1 (pc' := 8) (ls' := [some (.ref (77)), some (.int (a1)), some (.int (a2)), none]) (st' := [.int (a2)]) rfl rfl ?_
    have hq3 := T_159 (X := X) (d := d) (by omega) a2 M
    have hz3 := Rc.bool mR_159 hq3
    refine Rc.callS tb_169 rfl rfl rfl mS_159 mP_159 mL_159 rfl rfl rfl hq3 ?_
    refine Rc.if_ne (pc1 := 21) tb_169 rfl rfl (by decide) (by decide) (fun hb6 => ?_) (fun hb6 => ?_)
    · rw [if_pos hb6] at h
      refine Rc.mask (b := 1) ((tb_169.2 14).trans rfl) (ls' := [some (.ref (77)), none, none, none]) rfl ?_
      exact TJ_169_14 (X := X) (d := d + 1) (by omega) h hC
    · rw [if_neg hb6] at h
      refine Rc.run tb_169 1 (pc' := 22) (ls' := [some (.ref (77)), some (.int (a1)), some (.int (a2)), none]) (st' := [.ref (77)]) rfl rfl ?_
      refine Rc.getR tb_169 rfl rfl ob_77 (by decide +kernel) tg_77_0 (by decide) ?_
      refine Rc.run tb_169 3 (pc' := 29) (ls' := [some (.ref (77)), some (.int (a1)), some (.int (a2)), none]) (st' := [.int (10 + a1), .ref (78)]) rfl rfl ?_
      by_cases hb5 : inb (10 + a1) 366 = true
      · rw [if_pos hb5] at h
        refine Rc.iald tb_169 rfl rfl ia_78 hb5 ?_
        refine Rc.run tb_169 2 (pc' := 32) (ls' := [some (.ref (77)), some (.int (a1)), some (.int (a2)), some (.int (M 78 (10 + a1).toNatClampNeg))]) (st' := [.ref (77)]) rfl rfl ?_
        refine Rc.getR tb_169 rfl rfl ob_77 (by decide +kernel) tg_77_0 (by decide) ?_
        refine Rc.run tb_169 4 (pc' := 40) (ls' := [some (.ref (77)), some (.int (a1)), some (.int (a2)), some (.int (M 78 (10 + a1).toNatClampNeg))]) (st' := [.int (a2), .int (10 + a1), .ref (78)]) rfl rfl ?_
        by_cases hb4 : inb (10 + a1) 366 = true
        · rw [if_pos hb4] at h
          refine Rc.iast tb_169 rfl rfl ia_78 hb4 ?_
          refine Rc.run tb_169 1 (pc' := 42) (ls' := [some (.ref (77)), some (.int (a1)), some (.int (a2)), some (.int (M 78 (10 + a1).toNatClampNeg))]) (st' := [.int (M 78 (10 + a1).toNatClampNeg)]) rfl rfl ?_
          obtain rfl := Option.some.inj h
          obtain ⟨rfl, rfl⟩ := hC
          exact Rc.iret (ins := .ireturn) tb_169 rfl mR_169
        · rw [if_neg hb4] at h
          cases h
      · rw [if_neg hb5] at h
        cases h
theorem T_169 {X : AX} {d : Nat} (hd : 2 ≤ d) {a1 : Int32} {a2 : Int32} {M : IM} {x : Int32} {M1 : IM} (h : F_169 a1 a2 M = some (x, M1)) : Rc X d 169 0 [some (.ref (77)), some (.int (a1)), some (.int (a2)), none] [] M (some (.int x)) M1 := TF_169 hd h ⟨rfl, rfl⟩
/-! 170: NineDemandsModel.chosen -/
def F_170 (a1 : Int32) (M : IM) : Option (Int32 × IM) := if F_158 a1 = 0 then (match F_156 ((-1000001) : Int32) M with | none => none | some (c2, M2) => (some ((c2, M2)))) else (if inb (10 + a1) 366 = true then (some ((M 78 (10 + a1).toNatClampNeg, M))) else none)
theorem TF_170 {X : AX} {d : Nat} (hd : 2 ≤ d) {a1 : Int32} {M : IM} {v : Option Value} {M' : IM} {o : Int32 × IM} (h : F_170 a1 M = some o) (hC : v = some (.int o.1) ∧ M' = o.2) : Rc X d 170 0 [some (.ref (77)), some (.int (a1))] [] M v M' := by
  obtain ⟨d, rfl⟩ : ∃ e, d = e + 1 := ⟨d - 1, by omega⟩
  unfold F_170 at h
  refine Rc.run tb_170 1 (pc' := 1) (ls' := [some (.ref (77)), some (.int (a1))]) (st' := [.int (a1)]) rfl rfl ?_
  have hq1 := T_158 (X := X) (d := d) (by omega) a1 M
  have hz1 := Rc.bool mR_158 hq1
  refine Rc.callS tb_170 rfl rfl rfl mS_158 mP_158 mL_158 rfl rfl rfl hq1 ?_
  refine Rc.if_eq (pc1 := 19) tb_170 rfl rfl (by decide) (by decide) (fun hb4 => ?_) (fun hb4 => ?_)
  · rw [if_pos hb4] at h
    refine Rc.run tb_170 2 (pc' := 22) (ls' := [some (.ref (77)), some (.int (a1))]) (st' := [.int ((-1000001)), .ref (77)]) rfl rfl ?_
    cases hc2 : F_156 ((-1000001) : Int32) M with
    | none => rw [hc2] at h; cases h
    | some r2 =>
      obtain ⟨c2, M2⟩ := r2
      rw [hc2] at h
      dsimp only at h
      have hq2 := T_156 (X := X) (d := d) (by omega) (M := M) hc2
      refine Rc.callV tb_170 rfl rfl rfl mS_156 mP_156 mL_156 mO_156 rfl rfl ob_77 rfl rfl hq2 ?_
      obtain rfl := Option.some.inj h
      obtain ⟨rfl, rfl⟩ := hC
      exact Rc.iret (ins := .ireturn) tb_170 rfl mR_170
  · rw [if_neg hb4] at h
    refine Rc.run tb_170 1 (pc' := 8) (ls' := [some (.ref (77)), some (.int (a1))]) (st' := [.ref (77)]) rfl rfl ?_
    refine Rc.getR tb_170 rfl rfl ob_77 (by decide +kernel) tg_77_0 (by decide) ?_
    refine Rc.run tb_170 3 (pc' := 15) (ls' := [some (.ref (77)), some (.int (a1))]) (st' := [.int (10 + a1), .ref (78)]) rfl rfl ?_
    by_cases hb3 : inb (10 + a1) 366 = true
    · rw [if_pos hb3] at h
      refine Rc.iald tb_170 rfl rfl ia_78 hb3 ?_
      refine Rc.run tb_170 1 (pc' := 25) (ls' := [some (.ref (77)), some (.int (a1))]) (st' := [.int (M 78 (10 + a1).toNatClampNeg)]) rfl rfl ?_
      obtain rfl := Option.some.inj h
      obtain ⟨rfl, rfl⟩ := hC
      exact Rc.iret (ins := .ireturn) tb_170 rfl mR_170
    · rw [if_neg hb3] at h
      cases h
theorem T_170 {X : AX} {d : Nat} (hd : 2 ≤ d) {a1 : Int32} {M : IM} {x : Int32} {M1 : IM} (h : F_170 a1 M = some (x, M1)) : Rc X d 170 0 [some (.ref (77)), some (.int (a1))] [] M (some (.int x)) M1 := TF_170 hd h ⟨rfl, rfl⟩
/-! 242: NineDemandsModel.isSheet -/
def F_242 (a1 : Int32) : Int32 := F_157 a1 (0 : Int32) (3 : Int32)
theorem TF_242 {X : AX} {d : Nat} (hd : 1 ≤ d) {a1 : Int32} {M : IM} {v : Option Value} {M' : IM} {o : Int32} (h : F_242 a1 = o) (hC : v = some (.int o) ∧ M' = M) : Rc X d 242 0 [some (.int (a1))] [] M v M' := by
  obtain ⟨d, rfl⟩ : ∃ e, d = e + 1 := ⟨d - 1, by omega⟩
  unfold F_242 at h
  refine Rc.run tb_242 3 (pc' := 3) (ls' := [some (.int (a1))]) (st' := [.int (3), .int (0), .int (a1)]) rfl rfl ?_
  have hq1 := T_157 (X := X) (d := d) (by omega) a1 (0 : Int32) (3 : Int32) M
  have hz1 := Rc.bool mR_157 hq1
  refine Rc.callS tb_242 rfl rfl rfl mS_157 mP_157 mL_157 rfl rfl rfl hq1 ?_
  subst h
  obtain ⟨rfl, rfl⟩ := hC
  exact Rc.zret tb_242 rfl mR_242 hz1
theorem T_242 {X : AX} {d : Nat} (hd : 1 ≤ d) (a1 : Int32) (M : IM) : Rc X d 242 0 [some (.int (a1))] [] M (some (.int (F_242 a1))) M := TF_242 hd rfl ⟨rfl, rfl⟩
/-! 171: NineDemandsModel.block -/
def B_171_44 (x1 : Int32) (x2 : Int32) : (Int32 × IM) → Option ((Int32 × IM) ⊕ ((Int32 × IM) ⊕ (Int32 × IM))) := fun (x3, M) => if x2 ≤ x3 then (some (Sum.inr (Sum.inl (x3, M)))) else (if inb ((40 * x1) + x3) 160 = true then (if F_159 (M 96 ((40 * x1) + x3).toNatClampNeg) = 0 then (match F_156 ((-1000005) : Int32) M with | none => none | some (c5, M5) => (some (Sum.inr (Sum.inr (c5, M5))))) else (some (Sum.inl (x3 + 1, M)))) else none)
def L_171_44 (x1 : Int32) (x2 : Int32) (x3 : Int32) (M : IM) : Option ((Int32 × IM) ⊕ (Int32 × IM)) := loopN (B_171_44 x1 x2) FU (x3, M)
def B_171_81 (x1 : Int32) (x2 : Int32) : (Int32 × IM) → Option ((Int32 × IM) ⊕ (Int32 × IM)) := fun (x3, M) => if x2 ≤ x3 then (some (Sum.inr (x3, M))) else (if inb ((40 * x1) + x3) 160 = true then (if inb (10 + x3) 366 = true then (some (Sum.inl (x3 + 1, iset M 78 (10 + x3).toNatClampNeg (M 96 ((40 * x1) + x3).toNatClampNeg)))) else none) else none)
def L_171_81 (x1 : Int32) (x2 : Int32) (x3 : Int32) (M : IM) : Option (Int32 × IM) := loopN (B_171_81 x1 x2) FU (x3, M)
def J_171_79 (x1 : Int32) (x2 : Int32) (M : IM) : Option (Int32 × IM) := (match L_171_81 x1 x2 0 M with | none => none | some (x3_13, M13) => (some ((x2, M13))))
def F_171 (a1 : Int32) (M : IM) : Option (Int32 × IM) := if F_242 a1 = 0 then (match F_156 ((-1000001) : Int32) M with | none => none | some (c2, M2) => (some ((c2, M2)))) else (if inb a1 4 = true then (if M 94 a1.toNatClampNeg = 0 then (match F_156 ((-1000002) : Int32) M with | none => none | some (c3, M3) => (some ((c3, M3)))) else (if inb a1 4 = true then (match L_171_44 a1 (bif decide (M 95 a1.toNatClampNeg < 12) then M 95 a1.toNatClampNeg else 12) 0 M with | none => none | some (.inl (x3_9, M9)) => (J_171_79 a1 (bif decide (M 95 a1.toNatClampNeg < 12) then M 95 a1.toNatClampNeg else 12) M9) | some (.inr q) => some (q)) else none)) else none)
theorem TB_171_44 {X : AX} {d : Nat} (hd : 2 ≤ d) {x1 : Int32} {x2 : Int32} {v : Option Value} {M' : IM} : ∀ (s : Int32 × IM) (o : (Int32 × IM) ⊕ ((Int32 × IM) ⊕ (Int32 × IM))), B_171_44 x1 x2 s = some o → (∀ s', o = .inl s' → (fun (x3, M) => Rc X d 171 44 [some (.ref (77)), some (.int (x1)), some (.int (x2)), some (.int (x3))] [] M v M') s') → (∀ r, o = .inr r → (fun r => match r with | .inl (x3, M) => Rc X d 171 79 [some (.ref (77)), some (.int (x1)), some (.int (x2)), none] [] M v M' | .inr q => v = some (.int q.1) ∧ M' = q.2) r) → (fun (x3, M) => Rc X d 171 44 [some (.ref (77)), some (.int (x1)), some (.int (x2)), some (.int (x3))] [] M v M') s := by
  rintro ⟨x3, M⟩ o h hP hE
  show Rc X d 171 44 [some (.ref (77)), some (.int (x1)), some (.int (x2)), some (.int (x3))] [] M v M'
  obtain ⟨d, rfl⟩ : ∃ e, d = e + 1 := ⟨d - 1, by omega⟩
  unfold B_171_44 at h
  dsimp only at h hP hE
  refine Rc.run tb_171 2 (pc' := 46) (ls' := [some (.ref (77)), some (.int (x1)), some (.int (x2)), some (.int (x3))]) (st' := [.int (x2), .int (x3)]) rfl rfl ?_
  refine Rc.icmp_ge (pc1 := 79) tb_171 rfl rfl (by decide) (by decide) (fun hb8 => ?_) (fun hb8 => ?_)
  · rw [if_pos hb8] at h
    refine Rc.mask (b := 7) ((tb_171.2 79).trans rfl) (ls' := [some (.ref (77)), some (.int (x1)), some (.int (x2)), none]) rfl ?_
    obtain rfl := Option.some.inj h
    exact hE _ rfl
  · rw [if_neg hb8] at h
    refine Rc.run tb_171 1 (pc' := 50) (ls' := [some (.ref (77)), some (.int (x1)), some (.int (x2)), some (.int (x3))]) (st' := [.ref (77)]) rfl rfl ?_
    refine Rc.getR tb_171 rfl rfl ob_77 (by decide +kernel) tg_77_31 (by decide) ?_
    refine Rc.run tb_171 5 (pc' := 59) (ls' := [some (.ref (77)), some (.int (x1)), some (.int (x2)), some (.int (x3))]) (st' := [.int ((40 * x1) + x3), .ref (96)]) rfl rfl ?_
    by_cases hb7 : inb ((40 * x1) + x3) 160 = true
    · rw [if_pos hb7] at h
      refine Rc.iald tb_171 rfl rfl ia_96 hb7 ?_
      have hq4 := T_159 (X := X) (d := d) (by omega) (M 96 ((40 * x1) + x3).toNatClampNeg) M
      have hz4 := Rc.bool mR_159 hq4
      refine Rc.callS tb_171 rfl rfl rfl mS_159 mP_159 mL_159 rfl rfl rfl hq4 ?_
      refine Rc.if_ne (pc1 := 73) tb_171 rfl rfl (by decide) (by decide) (fun hb6 => ?_) (fun hb6 => ?_)
      · rw [if_pos hb6] at h
        refine Rc.run tb_171 2 (pc' := 69) (ls' := [some (.ref (77)), some (.int (x1)), some (.int (x2)), some (.int (x3))]) (st' := [.int ((-1000005)), .ref (77)]) rfl rfl ?_
        cases hc5 : F_156 ((-1000005) : Int32) M with
        | none => rw [hc5] at h; cases h
        | some r5 =>
          obtain ⟨c5, M5⟩ := r5
          rw [hc5] at h
          dsimp only at h
          have hq5 := T_156 (X := X) (d := d) (by omega) (M := M) hc5
          refine Rc.callV tb_171 rfl rfl rfl mS_156 mP_156 mL_156 mO_156 rfl rfl ob_77 rfl rfl hq5 ?_
          obtain rfl := Option.some.inj h
          obtain ⟨rfl, rfl⟩ := hE _ rfl
          exact Rc.iret (ins := .ireturn) tb_171 rfl mR_171
      · rw [if_neg hb6] at h
        refine Rc.run tb_171 2 (pc' := 44) (ls' := [some (.ref (77)), some (.int (x1)), some (.int (x2)), some (.int (x3 + 1))]) (st' := []) rfl rfl ?_
        refine Rc.mask (b := 15) ((tb_171.2 44).trans rfl) (ls' := [some (.ref (77)), some (.int (x1)), some (.int (x2)), some (.int (x3 + 1))]) rfl ?_
        obtain rfl := Option.some.inj h
        exact hP _ rfl
    · rw [if_neg hb7] at h
      cases h
theorem TL_171_44 {X : AX} {d : Nat} (hd : 2 ≤ d) {x1 : Int32} {x2 : Int32} {x3 : Int32} {M : IM} {v : Option Value} {M' : IM} {r : (Int32 × IM) ⊕ (Int32 × IM)} (h : L_171_44 x1 x2 x3 M = some r) (hE : (fun r => match r with | .inl (x3, M) => Rc X d 171 79 [some (.ref (77)), some (.int (x1)), some (.int (x2)), none] [] M v M' | .inr q => v = some (.int q.1) ∧ M' = q.2) r) : Rc X d 171 44 [some (.ref (77)), some (.int (x1)), some (.int (x2)), some (.int (x3))] [] M v M' := by
  exact loopN_rc (P := fun (x3, M) => Rc X d 171 44 [some (.ref (77)), some (.int (x1)), some (.int (x2)), some (.int (x3))] [] M v M') (E := fun r => match r with | .inl (x3, M) => Rc X d 171 79 [some (.ref (77)), some (.int (x1)), some (.int (x2)), none] [] M v M' | .inr q => v = some (.int q.1) ∧ M' = q.2) (TB_171_44 (X := X) hd) FU _ r h hE
theorem TB_171_81 {X : AX} {d : Nat} (hd : 2 ≤ d) {x1 : Int32} {x2 : Int32} {v : Option Value} {M' : IM} : ∀ (s : Int32 × IM) (o : (Int32 × IM) ⊕ (Int32 × IM)), B_171_81 x1 x2 s = some o → (∀ s', o = .inl s' → (fun (x3, M) => Rc X d 171 81 [some (.ref (77)), some (.int (x1)), some (.int (x2)), some (.int (x3))] [] M v M') s') → (∀ r, o = .inr r → (fun (x3, M) => Rc X d 171 112 [none, none, some (.int (x2)), none] [] M v M') r) → (fun (x3, M) => Rc X d 171 81 [some (.ref (77)), some (.int (x1)), some (.int (x2)), some (.int (x3))] [] M v M') s := by
  rintro ⟨x3, M⟩ o h hP hE
  show Rc X d 171 81 [some (.ref (77)), some (.int (x1)), some (.int (x2)), some (.int (x3))] [] M v M'
  obtain ⟨d, rfl⟩ : ∃ e, d = e + 1 := ⟨d - 1, by omega⟩
  unfold B_171_81 at h
  dsimp only at h hP hE
  refine Rc.run tb_171 2 (pc' := 83) (ls' := [some (.ref (77)), some (.int (x1)), some (.int (x2)), some (.int (x3))]) (st' := [.int (x2), .int (x3)]) rfl rfl ?_
  refine Rc.icmp_ge (pc1 := 112) tb_171 rfl rfl (by decide) (by decide) (fun hb12 => ?_) (fun hb12 => ?_)
  · rw [if_pos hb12] at h
    refine Rc.mask (b := 4) ((tb_171.2 112).trans rfl) (ls' := [none, none, some (.int (x2)), none]) rfl ?_
    obtain rfl := Option.some.inj h
    exact hE _ rfl
  · rw [if_neg hb12] at h
    refine Rc.run tb_171 1 (pc' := 87) (ls' := [some (.ref (77)), some (.int (x1)), some (.int (x2)), some (.int (x3))]) (st' := [.ref (77)]) rfl rfl ?_
    refine Rc.getR tb_171 rfl rfl ob_77 (by decide +kernel) tg_77_0 (by decide) ?_
    refine Rc.run tb_171 4 (pc' := 95) (ls' := [some (.ref (77)), some (.int (x1)), some (.int (x2)), some (.int (x3))]) (st' := [.ref (77), .int (10 + x3), .ref (78)]) rfl rfl ?_
    refine Rc.getR tb_171 rfl rfl ob_77 (by decide +kernel) tg_77_31 (by decide) ?_
    refine Rc.run tb_171 5 (pc' := 104) (ls' := [some (.ref (77)), some (.int (x1)), some (.int (x2)), some (.int (x3))]) (st' := [.int ((40 * x1) + x3), .ref (96), .int (10 + x3), .ref (78)]) rfl rfl ?_
    by_cases hb11 : inb ((40 * x1) + x3) 160 = true
    · rw [if_pos hb11] at h
      refine Rc.iald tb_171 rfl rfl ia_96 hb11 ?_
      by_cases hb10 : inb (10 + x3) 366 = true
      · rw [if_pos hb10] at h
        refine Rc.iast tb_171 rfl rfl ia_78 hb10 ?_
        refine Rc.run tb_171 2 (pc' := 81) (ls' := [some (.ref (77)), some (.int (x1)), some (.int (x2)), some (.int (x3 + 1))]) (st' := []) rfl rfl ?_
        refine Rc.mask (b := 15) ((tb_171.2 81).trans rfl) (ls' := [some (.ref (77)), some (.int (x1)), some (.int (x2)), some (.int (x3 + 1))]) rfl ?_
        obtain rfl := Option.some.inj h
        exact hP _ rfl
      · rw [if_neg hb10] at h
        cases h
    · rw [if_neg hb11] at h
      cases h
theorem TL_171_81 {X : AX} {d : Nat} (hd : 2 ≤ d) {x1 : Int32} {x2 : Int32} {x3 : Int32} {M : IM} {v : Option Value} {M' : IM} {r : Int32 × IM} (h : L_171_81 x1 x2 x3 M = some r) (hE : (fun (x3, M) => Rc X d 171 112 [none, none, some (.int (x2)), none] [] M v M') r) : Rc X d 171 81 [some (.ref (77)), some (.int (x1)), some (.int (x2)), some (.int (x3))] [] M v M' := by
  exact loopN_rc (P := fun (x3, M) => Rc X d 171 81 [some (.ref (77)), some (.int (x1)), some (.int (x2)), some (.int (x3))] [] M v M') (E := fun (x3, M) => Rc X d 171 112 [none, none, some (.int (x2)), none] [] M v M') (TB_171_81 (X := X) hd) FU _ r h hE
theorem TJ_171_79 {X : AX} {d : Nat} (hd : 2 ≤ d) {x1 : Int32} {x2 : Int32} {M : IM} {v : Option Value} {M' : IM} {o : Int32 × IM} (h : J_171_79 x1 x2 M = some o) (hC : v = some (.int o.1) ∧ M' = o.2) : Rc X d 171 79 [some (.ref (77)), some (.int (x1)), some (.int (x2)), none] [] M v M' := by
  obtain ⟨d, rfl⟩ : ∃ e, d = e + 1 := ⟨d - 1, by omega⟩
  unfold J_171_79 at h
  refine Rc.run tb_171 2 (pc' := 81) (ls' := [some (.ref (77)), some (.int (x1)), some (.int (x2)), some (.int (0))]) (st' := []) rfl rfl ?_
  refine Rc.mask (b := 15) ((tb_171.2 81).trans rfl) (ls' := [some (.ref (77)), some (.int (x1)), some (.int (x2)), some (.int (0))]) rfl ?_
  cases hl13 : L_171_81 x1 x2 0 M with
  | none => rw [hl13] at h; cases h
  | some r13 =>
    obtain ⟨x3_13, M13⟩ := r13
    rw [hl13] at h
    dsimp only at h
    refine TL_171_81 (X := X) (d := d + 1) (by omega) hl13 ?_
    refine Rc.run tb_171 1 (pc' := 113) (ls' := [none, none, some (.int (x2)), none]) (st' := [.int (x2)]) rfl rfl ?_
    obtain rfl := Option.some.inj h
    obtain ⟨rfl, rfl⟩ := hC
    exact Rc.iret (ins := .ireturn) tb_171 rfl mR_171
theorem TF_171 {X : AX} {d : Nat} (hd : 2 ≤ d) {a1 : Int32} {M : IM} {v : Option Value} {M' : IM} {o : Int32 × IM} (h : F_171 a1 M = some o) (hC : v = some (.int o.1) ∧ M' = o.2) : Rc X d 171 0 [some (.ref (77)), some (.int (a1)), none, none] [] M v M' := by
  obtain ⟨d, rfl⟩ : ∃ e, d = e + 1 := ⟨d - 1, by omega⟩
  unfold F_171 at h
  refine Rc.run tb_171 1 (pc' := 1) (ls' := [some (.ref (77)), some (.int (a1)), none, none]) (st' := [.int (a1)]) rfl rfl ?_
  have hq1 := T_242 (X := X) (d := d) (by omega) a1 M
  have hz1 := Rc.bool mR_242 hq1
  refine Rc.callS tb_171 rfl rfl rfl mS_242 mP_242 mL_242 rfl rfl rfl hq1 ?_
  refine Rc.if_ne (pc1 := 14) tb_171 rfl rfl (by decide) (by decide) (fun hb17 => ?_) (fun hb17 => ?_)
  · rw [if_pos hb17] at h
    refine Rc.run tb_171 2 (pc' := 10) (ls' := [some (.ref (77)), some (.int (a1)), none, none]) (st' := [.int ((-1000001)), .ref (77)]) rfl rfl ?_
    cases hc2 : F_156 ((-1000001) : Int32) M with
    | none => rw [hc2] at h; cases h
    | some r2 =>
      obtain ⟨c2, M2⟩ := r2
      rw [hc2] at h
      dsimp only at h
      have hq2 := T_156 (X := X) (d := d) (by omega) (M := M) hc2
      refine Rc.callV tb_171 rfl rfl rfl mS_156 mP_156 mL_156 mO_156 rfl rfl ob_77 rfl rfl hq2 ?_
      obtain rfl := Option.some.inj h
      obtain ⟨rfl, rfl⟩ := hC
      exact Rc.iret (ins := .ireturn) tb_171 rfl mR_171
  · rw [if_neg hb17] at h
    refine Rc.run tb_171 1 (pc' := 15) (ls' := [some (.ref (77)), some (.int (a1)), none, none]) (st' := [.ref (77)]) rfl rfl ?_
    refine Rc.getR tb_171 rfl rfl ob_77 (by decide +kernel) tg_77_29 (by decide) ?_
    refine Rc.run tb_171 1 (pc' := 19) (ls' := [some (.ref (77)), some (.int (a1)), none, none]) (st' := [.int (a1), .ref (94)]) rfl rfl ?_
    by_cases hb16 : inb a1 4 = true
    · rw [if_pos hb16] at h
      refine Rc.iald tb_171 rfl rfl ia_94 hb16 ?_
      refine Rc.if_ne (pc1 := 30) tb_171 rfl rfl (by decide) (by decide) (fun hb15 => ?_) (fun hb15 => ?_)
      · rw [if_pos hb15] at h
        refine Rc.run tb_171 2 (pc' := 26) (ls' := [some (.ref (77)), some (.int (a1)), none, none]) (st' := [.int ((-1000002)), .ref (77)]) rfl rfl ?_
        cases hc3 : F_156 ((-1000002) : Int32) M with
        | none => rw [hc3] at h; cases h
        | some r3 =>
          obtain ⟨c3, M3⟩ := r3
          rw [hc3] at h
          dsimp only at h
          have hq3 := T_156 (X := X) (d := d) (by omega) (M := M) hc3
          refine Rc.callV tb_171 rfl rfl rfl mS_156 mP_156 mL_156 mO_156 rfl rfl ob_77 rfl rfl hq3 ?_
          obtain rfl := Option.some.inj h
          obtain ⟨rfl, rfl⟩ := hC
          exact Rc.iret (ins := .ireturn) tb_171 rfl mR_171
      · rw [if_neg hb15] at h
        refine Rc.run tb_171 2 (pc' := 33) (ls' := [some (.ref (77)), some (.int (a1)), none, none]) (st' := [.ref (77), .int (12)]) rfl rfl ?_
        refine Rc.getR tb_171 rfl rfl ob_77 (by decide +kernel) tg_77_30 (by decide) ?_
        refine Rc.run tb_171 1 (pc' := 37) (ls' := [some (.ref (77)), some (.int (a1)), none, none]) (st' := [.int (a1), .ref (95), .int (12)]) rfl rfl ?_
        by_cases hb14 : inb a1 4 = true
        · rw [if_pos hb14] at h
          refine Rc.iald tb_171 rfl rfl ia_95 hb14 ?_
          refine Rc.minS tb_171 rfl rfl rfl ?_
          refine Rc.run tb_171 3 (pc' := 44) (ls' := [some (.ref (77)), some (.int (a1)), some (.int ((bif decide (M 95 a1.toNatClampNeg < 12) then M 95 a1.toNatClampNeg else 12))), some (.int (0))]) (st' := []) rfl rfl ?_
          refine Rc.mask (b := 15) ((tb_171.2 44).trans rfl) (ls' := [some (.ref (77)), some (.int (a1)), some (.int ((bif decide (M 95 a1.toNatClampNeg < 12) then M 95 a1.toNatClampNeg else 12))), some (.int (0))]) rfl ?_
          cases hl9 : L_171_44 a1 (bif decide (M 95 a1.toNatClampNeg < 12) then M 95 a1.toNatClampNeg else 12) 0 M with
          | none => rw [hl9] at h; cases h
          | some rr9 =>
            rw [hl9] at h
            cases rr9 with
            | inl r9 =>
              obtain ⟨x3_9, M9⟩ := r9
              dsimp only at h
              refine TL_171_44 (X := X) (d := d + 1) (by omega) hl9 ?_
              refine Rc.mask (b := 7) ((tb_171.2 79).trans rfl) (ls' := [some (.ref (77)), some (.int (a1)), some (.int ((bif decide (M 95 a1.toNatClampNeg < 12) then M 95 a1.toNatClampNeg else 12))), none]) rfl ?_
              exact TJ_171_79 (X := X) (d := d + 1) (by omega) h hC
            | inr q =>
              dsimp only at h
              refine TL_171_44 (X := X) (d := d + 1) (by omega) hl9 ?_
              obtain rfl := Option.some.inj h
              obtain ⟨rfl, rfl⟩ := hC
              exact ⟨rfl, rfl⟩
        · rw [if_neg hb14] at h
          cases h
    · rw [if_neg hb16] at h
      cases h
theorem T_171 {X : AX} {d : Nat} (hd : 2 ≤ d) {a1 : Int32} {M : IM} {x : Int32} {M1 : IM} (h : F_171 a1 M = some (x, M1)) : Rc X d 171 0 [some (.ref (77)), some (.int (a1)), none, none] [] M (some (.int x)) M1 := TF_171 hd h ⟨rfl, rfl⟩
/-! 172: NineDemandsModel.formed -/
def J_172_31 (x0 : Int32) (x1 : Int32) (x2 : Int32) (x3 : Int32) (s0 : Int32) : Option (Int32) := if x0 = 0 then (some (x0 + 1)) else (if x0 = 1 then (some (x0 + 1)) else (if x0 = 2 then (some (x0 + 1)) else (if x0 = 3 then (some (1 + (F_152 x1 (x0 - 3)))) else (if x0 = 4 then (some (1 + (F_152 x1 (x0 - 3)))) else (if x0 = 5 then (if s0 = 0 then (some (3)) else (some (s0))) else (if x0 = 6 then (if s0 = 0 then (some (x0 - 5)) else (some (s0))) else (if x0 = 7 then (if s0 = 0 then (some (x0 - 5)) else (some (s0))) else (if x0 = 8 then (if s0 = 0 then (some (1 + (F_152 x1 (0 : Int32)))) else (some (s0))) else (if x0 = 9 then (if x2 = 0 then (some (2)) else (if x3 = 0 then (some (1)) else (some (3)))) else (if x0 = 10 then (if x3 ≤ 0 then (some (1)) else (some (2))) else (if x2 ≤ 0 then (some (2)) else (some (1)))))))))))))
def F_172 (a1 : Int32) (a2 : Int32) : Option (Int32) := (match F_166 a2 (0 : Int32) with | none => none | some c1 => (match F_166 a2 (1 : Int32) with | none => none | some c2 => (if c1 ≤ c2 then (if c2 ≤ c1 then (J_172_31 a1 a2 c1 c2 (0 : Int32)) else (J_172_31 a1 a2 c1 c2 (2 : Int32))) else (J_172_31 a1 a2 c1 c2 (1 : Int32)))))
theorem TJ_172_31 {X : AX} {d : Nat} (hd : 3 ≤ d) {x0 : Int32} {x1 : Int32} {x2 : Int32} {x3 : Int32} {s0 : Int32} {M : IM} {v : Option Value} {M' : IM} {o : Int32} (h : J_172_31 x0 x1 x2 x3 s0 = some o) (hC : v = some (.int o) ∧ M' = M) : Rc X d 172 31 [some (.int (x0)), some (.int (x1)), some (.int (x2)), some (.int (x3)), none] [.int (s0)] M v M' := by
  obtain ⟨d, rfl⟩ : ∃ e, d = e + 1 := ⟨d - 1, by omega⟩
  unfold J_172_31 at h
  refine Rc.run tb_172 2 (pc' := 34) (ls' := [some (.int (x0)), some (.int (x1)), some (.int (x2)), some (.int (x3)), some (.int (s0))]) (st' := [.int (x0)]) rfl rfl ?_
  by_cases hk4 : x0 = 0
  · rw [if_pos hk4] at h
    refine Rc.table (off := 58) (pc1 := 92) tb_172 rfl rfl (by decide) (tsw_at (k := 0) (by rw [hk4]; decide) (by decide +kernel)) (by decide) (by decide) ?_
    refine Rc.run tb_172 3 (pc' := 95) (ls' := [some (.int (x0)), some (.int (x1)), some (.int (x2)), some (.int (x3)), some (.int (s0))]) (st' := [.int (x0 + 1)]) rfl rfl ?_
    obtain rfl := Option.some.inj h
    obtain ⟨rfl, rfl⟩ := hC
    exact Rc.iret (ins := .ireturn) tb_172 rfl mR_172
  · rw [if_neg hk4] at h
    by_cases hk5 : x0 = 1
    · rw [if_pos hk5] at h
      refine Rc.table (off := 58) (pc1 := 92) tb_172 rfl rfl (by decide) (tsw_at (k := 1) (by rw [hk5]; decide) (by decide +kernel)) (by decide) (by decide) ?_
      refine Rc.run tb_172 3 (pc' := 95) (ls' := [some (.int (x0)), some (.int (x1)), some (.int (x2)), some (.int (x3)), some (.int (s0))]) (st' := [.int (x0 + 1)]) rfl rfl ?_
      obtain rfl := Option.some.inj h
      obtain ⟨rfl, rfl⟩ := hC
      exact Rc.iret (ins := .ireturn) tb_172 rfl mR_172
    · rw [if_neg hk5] at h
      by_cases hk6 : x0 = 2
      · rw [if_pos hk6] at h
        refine Rc.table (off := 58) (pc1 := 92) tb_172 rfl rfl (by decide) (tsw_at (k := 2) (by rw [hk6]; decide) (by decide +kernel)) (by decide) (by decide) ?_
        refine Rc.run tb_172 3 (pc' := 95) (ls' := [some (.int (x0)), some (.int (x1)), some (.int (x2)), some (.int (x3)), some (.int (s0))]) (st' := [.int (x0 + 1)]) rfl rfl ?_
        obtain rfl := Option.some.inj h
        obtain ⟨rfl, rfl⟩ := hC
        exact Rc.iret (ins := .ireturn) tb_172 rfl mR_172
      · rw [if_neg hk6] at h
        by_cases hk7 : x0 = 3
        · rw [if_pos hk7] at h
          refine Rc.table (off := 62) (pc1 := 96) tb_172 rfl rfl (by decide) (tsw_at (k := 3) (by rw [hk7]; decide) (by decide +kernel)) (by decide) (by decide) ?_
          refine Rc.run tb_172 5 (pc' := 101) (ls' := [some (.int (x0)), some (.int (x1)), some (.int (x2)), some (.int (x3)), some (.int (s0))]) (st' := [.int (x0 - 3), .int (x1), .int (1)]) rfl rfl ?_
          have hq24 := T_152 (X := X) (d := d) (by omega) x1 (x0 - 3) M
          refine Rc.callS tb_172 rfl rfl rfl mS_152 mP_152 mL_152 rfl rfl rfl hq24 ?_
          refine Rc.run tb_172 1 (pc' := 105) (ls' := [some (.int (x0)), some (.int (x1)), some (.int (x2)), some (.int (x3)), some (.int (s0))]) (st' := [.int (1 + (F_152 x1 (x0 - 3)))]) rfl rfl ?_
          obtain rfl := Option.some.inj h
          obtain ⟨rfl, rfl⟩ := hC
          exact Rc.iret (ins := .ireturn) tb_172 rfl mR_172
        · rw [if_neg hk7] at h
          by_cases hk8 : x0 = 4
          · rw [if_pos hk8] at h
            refine Rc.table (off := 62) (pc1 := 96) tb_172 rfl rfl (by decide) (tsw_at (k := 4) (by rw [hk8]; decide) (by decide +kernel)) (by decide) (by decide) ?_
            refine Rc.run tb_172 5 (pc' := 101) (ls' := [some (.int (x0)), some (.int (x1)), some (.int (x2)), some (.int (x3)), some (.int (s0))]) (st' := [.int (x0 - 3), .int (x1), .int (1)]) rfl rfl ?_
            have hq23 := T_152 (X := X) (d := d) (by omega) x1 (x0 - 3) M
            refine Rc.callS tb_172 rfl rfl rfl mS_152 mP_152 mL_152 rfl rfl rfl hq23 ?_
            refine Rc.run tb_172 1 (pc' := 105) (ls' := [some (.int (x0)), some (.int (x1)), some (.int (x2)), some (.int (x3)), some (.int (s0))]) (st' := [.int (1 + (F_152 x1 (x0 - 3)))]) rfl rfl ?_
            obtain rfl := Option.some.inj h
            obtain ⟨rfl, rfl⟩ := hC
            exact Rc.iret (ins := .ireturn) tb_172 rfl mR_172
          · rw [if_neg hk8] at h
            by_cases hk9 : x0 = 5
            · rw [if_pos hk9] at h
              refine Rc.table (off := 72) (pc1 := 106) tb_172 rfl rfl (by decide) (tsw_at (k := 5) (by rw [hk9]; decide) (by decide +kernel)) (by decide) (by decide) ?_
              refine Rc.run tb_172 1 (pc' := 108) (ls' := [some (.int (x0)), some (.int (x1)), some (.int (x2)), some (.int (x3)), some (.int (s0))]) (st' := [.int (s0)]) rfl rfl ?_
              refine Rc.if_ne (pc1 := 115) tb_172 rfl rfl (by decide) (by decide) (fun hb22 => ?_) (fun hb22 => ?_)
              · rw [if_pos hb22] at h
                refine Rc.run tb_172 2 (pc' := 117) (ls' := [some (.int (x0)), some (.int (x1)), some (.int (x2)), some (.int (x3)), some (.int (s0))]) (st' := [.int (3)]) rfl rfl ?_
                obtain rfl := Option.some.inj h
                obtain ⟨rfl, rfl⟩ := hC
                exact Rc.iret (ins := .ireturn) tb_172 rfl mR_172
              · rw [if_neg hb22] at h
                refine Rc.run tb_172 1 (pc' := 117) (ls' := [some (.int (x0)), some (.int (x1)), some (.int (x2)), some (.int (x3)), some (.int (s0))]) (st' := [.int (s0)]) rfl rfl ?_
                obtain rfl := Option.some.inj h
                obtain ⟨rfl, rfl⟩ := hC
                exact Rc.iret (ins := .ireturn) tb_172 rfl mR_172
            · rw [if_neg hk9] at h
              by_cases hk10 : x0 = 6
              · rw [if_pos hk10] at h
                refine Rc.table (off := 84) (pc1 := 118) tb_172 rfl rfl (by decide) (tsw_at (k := 6) (by rw [hk10]; decide) (by decide +kernel)) (by decide) (by decide) ?_
                refine Rc.run tb_172 1 (pc' := 120) (ls' := [some (.int (x0)), some (.int (x1)), some (.int (x2)), some (.int (x3)), some (.int (s0))]) (st' := [.int (s0)]) rfl rfl ?_
                refine Rc.if_ne (pc1 := 129) tb_172 rfl rfl (by decide) (by decide) (fun hb21 => ?_) (fun hb21 => ?_)
                · rw [if_pos hb21] at h
                  refine Rc.run tb_172 4 (pc' := 131) (ls' := [some (.int (x0)), some (.int (x1)), some (.int (x2)), some (.int (x3)), some (.int (s0))]) (st' := [.int (x0 - 5)]) rfl rfl ?_
                  obtain rfl := Option.some.inj h
                  obtain ⟨rfl, rfl⟩ := hC
                  exact Rc.iret (ins := .ireturn) tb_172 rfl mR_172
                · rw [if_neg hb21] at h
                  refine Rc.run tb_172 1 (pc' := 131) (ls' := [some (.int (x0)), some (.int (x1)), some (.int (x2)), some (.int (x3)), some (.int (s0))]) (st' := [.int (s0)]) rfl rfl ?_
                  obtain rfl := Option.some.inj h
                  obtain ⟨rfl, rfl⟩ := hC
                  exact Rc.iret (ins := .ireturn) tb_172 rfl mR_172
              · rw [if_neg hk10] at h
                by_cases hk11 : x0 = 7
                · rw [if_pos hk11] at h
                  refine Rc.table (off := 84) (pc1 := 118) tb_172 rfl rfl (by decide) (tsw_at (k := 7) (by rw [hk11]; decide) (by decide +kernel)) (by decide) (by decide) ?_
                  refine Rc.run tb_172 1 (pc' := 120) (ls' := [some (.int (x0)), some (.int (x1)), some (.int (x2)), some (.int (x3)), some (.int (s0))]) (st' := [.int (s0)]) rfl rfl ?_
                  refine Rc.if_ne (pc1 := 129) tb_172 rfl rfl (by decide) (by decide) (fun hb20 => ?_) (fun hb20 => ?_)
                  · rw [if_pos hb20] at h
                    refine Rc.run tb_172 4 (pc' := 131) (ls' := [some (.int (x0)), some (.int (x1)), some (.int (x2)), some (.int (x3)), some (.int (s0))]) (st' := [.int (x0 - 5)]) rfl rfl ?_
                    obtain rfl := Option.some.inj h
                    obtain ⟨rfl, rfl⟩ := hC
                    exact Rc.iret (ins := .ireturn) tb_172 rfl mR_172
                  · rw [if_neg hb20] at h
                    refine Rc.run tb_172 1 (pc' := 131) (ls' := [some (.int (x0)), some (.int (x1)), some (.int (x2)), some (.int (x3)), some (.int (s0))]) (st' := [.int (s0)]) rfl rfl ?_
                    obtain rfl := Option.some.inj h
                    obtain ⟨rfl, rfl⟩ := hC
                    exact Rc.iret (ins := .ireturn) tb_172 rfl mR_172
                · rw [if_neg hk11] at h
                  by_cases hk12 : x0 = 8
                  · rw [if_pos hk12] at h
                    refine Rc.table (off := 98) (pc1 := 132) tb_172 rfl rfl (by decide) (tsw_at (k := 8) (by rw [hk12]; decide) (by decide +kernel)) (by decide) (by decide) ?_
                    refine Rc.run tb_172 1 (pc' := 134) (ls' := [some (.int (x0)), some (.int (x1)), some (.int (x2)), some (.int (x3)), some (.int (s0))]) (st' := [.int (s0)]) rfl rfl ?_
                    refine Rc.if_ne (pc1 := 147) tb_172 rfl rfl (by decide) (by decide) (fun hb19 => ?_) (fun hb19 => ?_)
                    · rw [if_pos hb19] at h
                      refine Rc.run tb_172 3 (pc' := 140) (ls' := [some (.int (x0)), some (.int (x1)), some (.int (x2)), some (.int (x3)), some (.int (s0))]) (st' := [.int (0), .int (x1), .int (1)]) rfl rfl ?_
                      have hq18 := T_152 (X := X) (d := d) (by omega) x1 (0 : Int32) M
                      refine Rc.callS tb_172 rfl rfl rfl mS_152 mP_152 mL_152 rfl rfl rfl hq18 ?_
                      refine Rc.run tb_172 2 (pc' := 149) (ls' := [some (.int (x0)), some (.int (x1)), some (.int (x2)), some (.int (x3)), some (.int (s0))]) (st' := [.int (1 + (F_152 x1 (0 : Int32)))]) rfl rfl ?_
                      obtain rfl := Option.some.inj h
                      obtain ⟨rfl, rfl⟩ := hC
                      exact Rc.iret (ins := .ireturn) tb_172 rfl mR_172
                    · rw [if_neg hb19] at h
                      refine Rc.run tb_172 1 (pc' := 149) (ls' := [some (.int (x0)), some (.int (x1)), some (.int (x2)), some (.int (x3)), some (.int (s0))]) (st' := [.int (s0)]) rfl rfl ?_
                      obtain rfl := Option.some.inj h
                      obtain ⟨rfl, rfl⟩ := hC
                      exact Rc.iret (ins := .ireturn) tb_172 rfl mR_172
                  · rw [if_neg hk12] at h
                    by_cases hk13 : x0 = 9
                    · rw [if_pos hk13] at h
                      refine Rc.table (off := 116) (pc1 := 150) tb_172 rfl rfl (by decide) (tsw_at (k := 9) (by rw [hk13]; decide) (by decide +kernel)) (by decide) (by decide) ?_
                      refine Rc.run tb_172 1 (pc' := 151) (ls' := [some (.int (x0)), some (.int (x1)), some (.int (x2)), some (.int (x3)), some (.int (s0))]) (st' := [.int (x2)]) rfl rfl ?_
                      refine Rc.if_ne (pc1 := 158) tb_172 rfl rfl (by decide) (by decide) (fun hb17 => ?_) (fun hb17 => ?_)
                      · rw [if_pos hb17] at h
                        refine Rc.run tb_172 2 (pc' := 167) (ls' := [some (.int (x0)), some (.int (x1)), some (.int (x2)), some (.int (x3)), some (.int (s0))]) (st' := [.int (2)]) rfl rfl ?_
                        obtain rfl := Option.some.inj h
                        obtain ⟨rfl, rfl⟩ := hC
                        exact Rc.iret (ins := .ireturn) tb_172 rfl mR_172
                      · rw [if_neg hb17] at h
                        refine Rc.run tb_172 1 (pc' := 159) (ls' := [some (.int (x0)), some (.int (x1)), some (.int (x2)), some (.int (x3)), some (.int (s0))]) (st' := [.int (x3)]) rfl rfl ?_
                        refine Rc.if_ne (pc1 := 166) tb_172 rfl rfl (by decide) (by decide) (fun hb16 => ?_) (fun hb16 => ?_)
                        · rw [if_pos hb16] at h
                          refine Rc.run tb_172 2 (pc' := 167) (ls' := [some (.int (x0)), some (.int (x1)), some (.int (x2)), some (.int (x3)), some (.int (s0))]) (st' := [.int (1)]) rfl rfl ?_
                          obtain rfl := Option.some.inj h
                          obtain ⟨rfl, rfl⟩ := hC
                          exact Rc.iret (ins := .ireturn) tb_172 rfl mR_172
                        · rw [if_neg hb16] at h
                          refine Rc.run tb_172 1 (pc' := 167) (ls' := [some (.int (x0)), some (.int (x1)), some (.int (x2)), some (.int (x3)), some (.int (s0))]) (st' := [.int (3)]) rfl rfl ?_
                          obtain rfl := Option.some.inj h
                          obtain ⟨rfl, rfl⟩ := hC
                          exact Rc.iret (ins := .ireturn) tb_172 rfl mR_172
                    · rw [if_neg hk13] at h
                      by_cases hk14 : x0 = 10
                      · rw [if_pos hk14] at h
                        refine Rc.table (off := 134) (pc1 := 168) tb_172 rfl rfl (by decide) (tsw_at (k := 10) (by rw [hk14]; decide) (by decide +kernel)) (by decide) (by decide) ?_
                        refine Rc.run tb_172 1 (pc' := 169) (ls' := [some (.int (x0)), some (.int (x1)), some (.int (x2)), some (.int (x3)), some (.int (s0))]) (st' := [.int (x3)]) rfl rfl ?_
                        refine Rc.if_le (pc1 := 176) tb_172 rfl rfl (by decide) (by decide) (fun hb15 => ?_) (fun hb15 => ?_)
                        · rw [if_pos hb15] at h
                          refine Rc.run tb_172 1 (pc' := 177) (ls' := [some (.int (x0)), some (.int (x1)), some (.int (x2)), some (.int (x3)), some (.int (s0))]) (st' := [.int (1)]) rfl rfl ?_
                          obtain rfl := Option.some.inj h
                          obtain ⟨rfl, rfl⟩ := hC
                          exact Rc.iret (ins := .ireturn) tb_172 rfl mR_172
                        · rw [if_neg hb15] at h
                          refine Rc.run tb_172 2 (pc' := 177) (ls' := [some (.int (x0)), some (.int (x1)), some (.int (x2)), some (.int (x3)), some (.int (s0))]) (st' := [.int (2)]) rfl rfl ?_
                          obtain rfl := Option.some.inj h
                          obtain ⟨rfl, rfl⟩ := hC
                          exact Rc.iret (ins := .ireturn) tb_172 rfl mR_172
                      · rw [if_neg hk14] at h
                        refine Rc.table (off := 144) (pc1 := 178) tb_172 rfl rfl (by decide) (tsw_df [0, 1, 2, 3, 4, 5, 6, 7, 8, 9, 10] (by decide +kernel) (fun k hk => by simp only [List.mem_cons, List.not_mem_nil, or_false] at hk; rcases hk with rfl | rfl | rfl | rfl | rfl | rfl | rfl | rfl | rfl | rfl | rfl <;> assumption)) (by decide) (by decide) ?_
                        refine Rc.run tb_172 1 (pc' := 179) (ls' := [some (.int (x0)), some (.int (x1)), some (.int (x2)), some (.int (x3)), some (.int (s0))]) (st' := [.int (x2)]) rfl rfl ?_
                        refine Rc.if_le (pc1 := 186) tb_172 rfl rfl (by decide) (by decide) (fun hb3 => ?_) (fun hb3 => ?_)
                        · rw [if_pos hb3] at h
                          refine Rc.run tb_172 1 (pc' := 187) (ls' := [some (.int (x0)), some (.int (x1)), some (.int (x2)), some (.int (x3)), some (.int (s0))]) (st' := [.int (2)]) rfl rfl ?_
                          obtain rfl := Option.some.inj h
                          obtain ⟨rfl, rfl⟩ := hC
                          exact Rc.iret (ins := .ireturn) tb_172 rfl mR_172
                        · rw [if_neg hb3] at h
                          refine Rc.run tb_172 2 (pc' := 187) (ls' := [some (.int (x0)), some (.int (x1)), some (.int (x2)), some (.int (x3)), some (.int (s0))]) (st' := [.int (1)]) rfl rfl ?_
                          obtain rfl := Option.some.inj h
                          obtain ⟨rfl, rfl⟩ := hC
                          exact Rc.iret (ins := .ireturn) tb_172 rfl mR_172
theorem TF_172 {X : AX} {d : Nat} (hd : 3 ≤ d) {a1 : Int32} {a2 : Int32} {M : IM} {v : Option Value} {M' : IM} {o : Int32} (h : F_172 a1 a2 = some o) (hC : v = some (.int o) ∧ M' = M) : Rc X d 172 0 [some (.int (a1)), some (.int (a2)), none, none, none] [] M v M' := by
  obtain ⟨d, rfl⟩ : ∃ e, d = e + 1 := ⟨d - 1, by omega⟩
  unfold F_172 at h
  refine Rc.run tb_172 2 (pc' := 2) (ls' := [some (.int (a1)), some (.int (a2)), none, none, none]) (st' := [.int (0), .int (a2)]) rfl rfl ?_
  cases hc1 : F_166 a2 (0 : Int32) with
  | none => rw [hc1] at h; cases h
  | some c1 =>
    rw [hc1] at h
    dsimp only at h
    have hq1 := T_166 (X := X) (d := d) (by omega) (M := M) hc1
    refine Rc.callS tb_172 rfl rfl rfl mS_166 mP_166 mL_166 rfl rfl rfl hq1 ?_
    refine Rc.run tb_172 3 (pc' := 8) (ls' := [some (.int (a1)), some (.int (a2)), some (.int (c1)), none, none]) (st' := [.int (1), .int (a2)]) rfl rfl ?_
    cases hc2 : F_166 a2 (1 : Int32) with
    | none => rw [hc2] at h; cases h
    | some c2 =>
      rw [hc2] at h
      dsimp only at h
      have hq2 := T_166 (X := X) (d := d) (by omega) (M := M) hc2
      refine Rc.callS tb_172 rfl rfl rfl mS_166 mP_166 mL_166 rfl rfl rfl hq2 ?_
      refine Rc.run tb_172 3 (pc' := 14) (ls' := [some (.int (a1)), some (.int (a2)), some (.int (c1)), some (.int (c2)), none]) (st' := [.int (c2), .int (c1)]) rfl rfl ?_
      refine Rc.icmp_le (pc1 := 21) tb_172 rfl rfl (by decide) (by decide) (fun hb26 => ?_) (fun hb26 => ?_)
      · rw [if_pos hb26] at h
        refine Rc.run tb_172 2 (pc' := 23) (ls' := [some (.int (a1)), some (.int (a2)), some (.int (c1)), some (.int (c2)), none]) (st' := [.int (c1), .int (c2)]) rfl rfl ?_
        refine Rc.icmp_le (pc1 := 30) tb_172 rfl rfl (by decide) (by decide) (fun hb25 => ?_) (fun hb25 => ?_)
        · rw [if_pos hb25] at h
          refine Rc.run tb_172 1 (pc' := 31) (ls' := [some (.int (a1)), some (.int (a2)), some (.int (c1)), some (.int (c2)), none]) (st' := [.int (0)]) rfl rfl ?_
          refine Rc.mask (b := 15) ((tb_172.2 31).trans rfl) (ls' := [some (.int (a1)), some (.int (a2)), some (.int (c1)), some (.int (c2)), none]) rfl ?_
          exact TJ_172_31 (X := X) (d := d + 1) (by omega) h hC
        · rw [if_neg hb25] at h
          refine Rc.run tb_172 2 (pc' := 31) (ls' := [some (.int (a1)), some (.int (a2)), some (.int (c1)), some (.int (c2)), none]) (st' := [.int (2)]) rfl rfl ?_
          refine Rc.mask (b := 15) ((tb_172.2 31).trans rfl) (ls' := [some (.int (a1)), some (.int (a2)), some (.int (c1)), some (.int (c2)), none]) rfl ?_
          exact TJ_172_31 (X := X) (d := d + 1) (by omega) h hC
      · rw [if_neg hb26] at h
        refine Rc.run tb_172 2 (pc' := 31) (ls' := [some (.int (a1)), some (.int (a2)), some (.int (c1)), some (.int (c2)), none]) (st' := [.int (1)]) rfl rfl ?_
        refine Rc.mask (b := 15) ((tb_172.2 31).trans rfl) (ls' := [some (.int (a1)), some (.int (a2)), some (.int (c1)), some (.int (c2)), none]) rfl ?_
        exact TJ_172_31 (X := X) (d := d + 1) (by omega) h hC
theorem T_172 {X : AX} {d : Nat} (hd : 3 ≤ d) {a1 : Int32} {a2 : Int32} {M : IM} {x : Int32} (h : F_172 a1 a2 = some x) : Rc X d 172 0 [some (.int (a1)), some (.int (a2)), none, none, none] [] M (some (.int x)) M := TF_172 hd h ⟨rfl, rfl⟩
/-! 173: NineDemandsModel.form -/
def J_173_50_21 (x1 : Int32) (x3 : Int32) (s0 : Int32) (s1 : Int32) (M : IM) : Option ((Int32 × Int32 × IM) ⊕ (Int32 × Int32 × IM)) := (match F_172 x1 x3 with | none => none | some c4 => (if inb (10 + x3) 366 = true then (some (Sum.inl (s1 + s0, x3 + 1, iset M 78 (10 + x3).toNatClampNeg c4))) else none))
def B_173_21 (x1 : Int32) : (Int32 × Int32 × IM) → Option ((Int32 × Int32 × IM) ⊕ (Int32 × Int32 × IM)) := fun (x2, x3, M) => if (12 : Int32) ≤ x3 then (some (Sum.inr (x2, x3, M))) else (if inb (10 + x3) 366 = true then (match F_172 x1 x3 with | none => none | some c3 => (if M 78 (10 + x3).toNatClampNeg = c3 then (J_173_50_21 x1 x3 (0 : Int32) x2 M) else (J_173_50_21 x1 x3 (1 : Int32) x2 M))) else none)
def L_173_21 (x1 : Int32) (x2 : Int32) (x3 : Int32) (M : IM) : Option (Int32 × Int32 × IM) := loopN (B_173_21 x1) FU (x2, x3, M)
def F_173 (a1 : Int32) (M : IM) : Option (Int32 × IM) := if F_157 a1 (0 : Int32) (11 : Int32) = 0 then (match F_156 ((-1000001) : Int32) M with | none => none | some (c2, M2) => (some ((c2, M2)))) else (match L_173_21 a1 0 0 M with | none => none | some (x2_9, x3_9, M9) => (some ((x2_9, M9))))
theorem TJ_173_50_21 {X : AX} {d : Nat} (hd : 4 ≤ d) {x1 : Int32} {x3 : Int32} {s0 : Int32} {s1 : Int32} {M : IM} (hs0 : s0 = 0 ∨ s0 = 1) {v : Option Value} {M' : IM} {o : (Int32 × Int32 × IM) ⊕ (Int32 × Int32 × IM)} (h : J_173_50_21 x1 x3 s0 s1 M = some o) (hP : ∀ s', o = .inl s' → (fun (x2, x3, M) => Rc X d 173 21 [some (.ref (77)), some (.int (x1)), some (.int (x2)), some (.int (x3))] [] M v M') s') (hE : ∀ r, o = .inr r → (fun (x2, x3, M) => Rc X d 173 72 [none, none, some (.int (x2)), none] [] M v M') r) : Rc X d 173 50 [some (.ref (77)), some (.int (x1)), none, some (.int (x3))] [.int (s0), .int (s1)] M v M' := by
  obtain ⟨d, rfl⟩ : ∃ e, d = e + 1 := ⟨d - 1, by omega⟩
  unfold J_173_50_21 at h
  dsimp only at hP hE
  refine Rc.run tb_173 3 (pc' := 53) (ls' := [some (.ref (77)), some (.int (x1)), some (.int (s1 + s0)), some (.int (x3))]) (st' := [.ref (77)]) rfl rfl ?_
  refine Rc.getR tb_173 rfl rfl ob_77 (by decide +kernel) tg_77_0 (by decide) ?_
  refine Rc.run tb_173 5 (pc' := 62) (ls' := [some (.ref (77)), some (.int (x1)), some (.int (s1 + s0)), some (.int (x3))]) (st' := [.int (x3), .int (x1), .int (10 + x3), .ref (78)]) rfl rfl ?_
  cases hc4 : F_172 x1 x3 with
  | none => rw [hc4] at h; cases h
  | some c4 =>
    rw [hc4] at h
    dsimp only at h
    have hq4 := T_172 (X := X) (d := d) (by omega) (M := M) hc4
    refine Rc.callS tb_173 rfl rfl rfl mS_172 mP_172 mL_172 rfl rfl rfl hq4 ?_
    by_cases hb5 : inb (10 + x3) 366 = true
    · rw [if_pos hb5] at h
      refine Rc.iast tb_173 rfl rfl ia_78 hb5 ?_
      refine Rc.run tb_173 2 (pc' := 21) (ls' := [some (.ref (77)), some (.int (x1)), some (.int (s1 + s0)), some (.int (x3 + 1))]) (st' := []) rfl rfl ?_
      refine Rc.mask (b := 15) ((tb_173.2 21).trans rfl) (ls' := [some (.ref (77)), some (.int (x1)), some (.int (s1 + s0)), some (.int (x3 + 1))]) rfl ?_
      obtain rfl := Option.some.inj h
      exact hP _ rfl
    · rw [if_neg hb5] at h
      cases h
theorem TB_173_21 {X : AX} {d : Nat} (hd : 4 ≤ d) {x1 : Int32} {v : Option Value} {M' : IM} : ∀ (s : Int32 × Int32 × IM) (o : (Int32 × Int32 × IM) ⊕ (Int32 × Int32 × IM)), B_173_21 x1 s = some o → (∀ s', o = .inl s' → (fun (x2, x3, M) => Rc X d 173 21 [some (.ref (77)), some (.int (x1)), some (.int (x2)), some (.int (x3))] [] M v M') s') → (∀ r, o = .inr r → (fun (x2, x3, M) => Rc X d 173 72 [none, none, some (.int (x2)), none] [] M v M') r) → (fun (x2, x3, M) => Rc X d 173 21 [some (.ref (77)), some (.int (x1)), some (.int (x2)), some (.int (x3))] [] M v M') s := by
  rintro ⟨x2, x3, M⟩ o h hP hE
  show Rc X d 173 21 [some (.ref (77)), some (.int (x1)), some (.int (x2)), some (.int (x3))] [] M v M'
  obtain ⟨d, rfl⟩ : ∃ e, d = e + 1 := ⟨d - 1, by omega⟩
  unfold B_173_21 at h
  dsimp only at h hP hE
  refine Rc.run tb_173 2 (pc' := 24) (ls' := [some (.ref (77)), some (.int (x1)), some (.int (x2)), some (.int (x3))]) (st' := [.int (12), .int (x3)]) rfl rfl ?_
  refine Rc.icmp_ge (pc1 := 72) tb_173 rfl rfl (by decide) (by decide) (fun hb8 => ?_) (fun hb8 => ?_)
  · rw [if_pos hb8] at h
    refine Rc.mask (b := 4) ((tb_173.2 72).trans rfl) (ls' := [none, none, some (.int (x2)), none]) rfl ?_
    obtain rfl := Option.some.inj h
    exact hE _ rfl
  · rw [if_neg hb8] at h
    refine Rc.run tb_173 2 (pc' := 29) (ls' := [some (.ref (77)), some (.int (x1)), some (.int (x2)), some (.int (x3))]) (st' := [.ref (77), .int (x2)]) rfl rfl ?_
    refine Rc.getR tb_173 rfl rfl ob_77 (by decide +kernel) tg_77_0 (by decide) ?_
    refine Rc.run tb_173 3 (pc' := 36) (ls' := [some (.ref (77)), some (.int (x1)), some (.int (x2)), some (.int (x3))]) (st' := [.int (10 + x3), .ref (78), .int (x2)]) rfl rfl ?_
    by_cases hb7 : inb (10 + x3) 366 = true
    · rw [if_pos hb7] at h
      refine Rc.iald tb_173 rfl rfl ia_78 hb7 ?_
      refine Rc.run tb_173 2 (pc' := 39) (ls' := [some (.ref (77)), some (.int (x1)), some (.int (x2)), some (.int (x3))]) (st' := [.int (x3), .int (x1), .int (M 78 (10 + x3).toNatClampNeg), .int (x2)]) rfl rfl ?_
      cases hc3 : F_172 x1 x3 with
      | none => rw [hc3] at h; cases h
      | some c3 =>
        rw [hc3] at h
        dsimp only at h
        have hq3 := T_172 (X := X) (d := d) (by omega) (M := M) hc3
        refine Rc.callS tb_173 rfl rfl rfl mS_172 mP_172 mL_172 rfl rfl rfl hq3 ?_
        refine Rc.icmp_eq (pc1 := 49) tb_173 rfl rfl (by decide) (by decide) (fun hb6 => ?_) (fun hb6 => ?_)
        · rw [if_pos hb6] at h
          refine Rc.run tb_173 1 (pc' := 50) (ls' := [some (.ref (77)), some (.int (x1)), some (.int (x2)), some (.int (x3))]) (st' := [.int (0), .int (x2)]) rfl rfl ?_
          refine Rc.mask (b := 11) ((tb_173.2 50).trans rfl) (ls' := [some (.ref (77)), some (.int (x1)), none, some (.int (x3))]) rfl ?_
          exact TJ_173_50_21 (X := X) (d := d + 1) (by omega) (Or.inl rfl) h hP hE
        · rw [if_neg hb6] at h
          refine Rc.run tb_173 2 (pc' := 50) (ls' := [some (.ref (77)), some (.int (x1)), some (.int (x2)), some (.int (x3))]) (st' := [.int (1), .int (x2)]) rfl rfl ?_
          refine Rc.mask (b := 11) ((tb_173.2 50).trans rfl) (ls' := [some (.ref (77)), some (.int (x1)), none, some (.int (x3))]) rfl ?_
          exact TJ_173_50_21 (X := X) (d := d + 1) (by omega) (Or.inr rfl) h hP hE
    · rw [if_neg hb7] at h
      cases h
theorem TL_173_21 {X : AX} {d : Nat} (hd : 4 ≤ d) {x1 : Int32} {x2 : Int32} {x3 : Int32} {M : IM} {v : Option Value} {M' : IM} {r : Int32 × Int32 × IM} (h : L_173_21 x1 x2 x3 M = some r) (hE : (fun (x2, x3, M) => Rc X d 173 72 [none, none, some (.int (x2)), none] [] M v M') r) : Rc X d 173 21 [some (.ref (77)), some (.int (x1)), some (.int (x2)), some (.int (x3))] [] M v M' := by
  exact loopN_rc (P := fun (x2, x3, M) => Rc X d 173 21 [some (.ref (77)), some (.int (x1)), some (.int (x2)), some (.int (x3))] [] M v M') (E := fun (x2, x3, M) => Rc X d 173 72 [none, none, some (.int (x2)), none] [] M v M') (TB_173_21 (X := X) hd) FU _ r h hE
theorem TF_173 {X : AX} {d : Nat} (hd : 4 ≤ d) {a1 : Int32} {M : IM} {v : Option Value} {M' : IM} {o : Int32 × IM} (h : F_173 a1 M = some o) (hC : v = some (.int o.1) ∧ M' = o.2) : Rc X d 173 0 [some (.ref (77)), some (.int (a1)), none, none] [] M v M' := by
  obtain ⟨d, rfl⟩ : ∃ e, d = e + 1 := ⟨d - 1, by omega⟩
  unfold F_173 at h
  refine Rc.run tb_173 3 (pc' := 4) (ls' := [some (.ref (77)), some (.int (a1)), none, none]) (st' := [.int (11), .int (0), .int (a1)]) rfl rfl ?_
  have hq1 := T_157 (X := X) (d := d) (by omega) a1 (0 : Int32) (11 : Int32) M
  have hz1 := Rc.bool mR_157 hq1
  refine Rc.callS tb_173 rfl rfl rfl mS_157 mP_157 mL_157 rfl rfl rfl hq1 ?_
  refine Rc.if_ne (pc1 := 17) tb_173 rfl rfl (by decide) (by decide) (fun hb10 => ?_) (fun hb10 => ?_)
  · rw [if_pos hb10] at h
    refine Rc.run tb_173 2 (pc' := 13) (ls' := [some (.ref (77)), some (.int (a1)), none, none]) (st' := [.int ((-1000001)), .ref (77)]) rfl rfl ?_
    cases hc2 : F_156 ((-1000001) : Int32) M with
    | none => rw [hc2] at h; cases h
    | some r2 =>
      obtain ⟨c2, M2⟩ := r2
      rw [hc2] at h
      dsimp only at h
      have hq2 := T_156 (X := X) (d := d) (by omega) (M := M) hc2
      refine Rc.callV tb_173 rfl rfl rfl mS_156 mP_156 mL_156 mO_156 rfl rfl ob_77 rfl rfl hq2 ?_
      obtain rfl := Option.some.inj h
      obtain ⟨rfl, rfl⟩ := hC
      exact Rc.iret (ins := .ireturn) tb_173 rfl mR_173
  · rw [if_neg hb10] at h
    refine Rc.run tb_173 4 (pc' := 21) (ls' := [some (.ref (77)), some (.int (a1)), some (.int (0)), some (.int (0))]) (st' := []) rfl rfl ?_
    refine Rc.mask (b := 15) ((tb_173.2 21).trans rfl) (ls' := [some (.ref (77)), some (.int (a1)), some (.int (0)), some (.int (0))]) rfl ?_
    cases hl9 : L_173_21 a1 0 0 M with
    | none => rw [hl9] at h; cases h
    | some r9 =>
      obtain ⟨x2_9, x3_9, M9⟩ := r9
      rw [hl9] at h
      dsimp only at h
      refine TL_173_21 (X := X) (d := d + 1) (by omega) hl9 ?_
      refine Rc.run tb_173 1 (pc' := 73) (ls' := [none, none, some (.int (x2_9)), none]) (st' := [.int (x2_9)]) rfl rfl ?_
      obtain rfl := Option.some.inj h
      obtain ⟨rfl, rfl⟩ := hC
      exact Rc.iret (ins := .ireturn) tb_173 rfl mR_173
theorem T_173 {X : AX} {d : Nat} (hd : 4 ≤ d) {a1 : Int32} {M : IM} {x : Int32} {M1 : IM} (h : F_173 a1 M = some (x, M1)) : Rc X d 173 0 [some (.ref (77)), some (.int (a1)), none, none] [] M (some (.int x)) M1 := TF_173 hd h ⟨rfl, rfl⟩
/-! 174: NineDemandsModel.feed -/
def B_174_40 (w1 : Int64) (x3 : Int32) : (Int32 × IM) → Option ((Int32 × IM) ⊕ (Int32 × IM)) := fun (x4, M) => if x3 ≤ x4 then (some (Sum.inr (x4, M))) else (if inb (40 + (M 78 (1 : Int32).toNatClampNeg)) 366 = true then (some (Sum.inl (x4 + 1, iset (iset M 78 (40 + (M 78 (1 : Int32).toNatClampNeg)).toNatClampNeg (((w1 >>> ((8 * x4 : Int32).toInt64 &&& 63)) &&& 255).toInt32)) 78 (1 : Int32).toNatClampNeg (((iset M 78 (40 + (M 78 (1 : Int32).toNatClampNeg)).toNatClampNeg (((w1 >>> ((8 * x4 : Int32).toInt64 &&& 63)) &&& 255).toInt32)) 78 (1 : Int32).toNatClampNeg) + 1)))) else none)
def L_174_40 (w1 : Int64) (x3 : Int32) (x4 : Int32) (M : IM) : Option (Int32 × IM) := loopN (B_174_40 w1 x3) FU (x4, M)
def J_174_88 (M : IM) : Option (Int32 × IM) := some ((M 78 (1 : Int32).toNatClampNeg, M))
def F_174 (a1 : Int64) (a2 : Int32) (M : IM) : Option (Int32 × IM) := if F_157 a2 (1 : Int32) (8 : Int32) = 0 then (match F_156 ((-1000001) : Int32) M with | none => none | some (c2, M2) => (some ((c2, M2)))) else (if (M 78 (1 : Int32).toNatClampNeg) + a2 ≤ 50 then (match L_174_40 a1 a2 0 M with | none => none | some (x4_8, M8) => (J_174_88 M8)) else (match F_156 ((-1000004) : Int32) M with | none => none | some (c10, M10) => (some ((c10, M10)))))
theorem TB_174_40 {X : AX} {d : Nat} (hd : 1 ≤ d) {w1 : Int64} {x3 : Int32} {v : Option Value} {M' : IM} : ∀ (s : Int32 × IM) (o : (Int32 × IM) ⊕ (Int32 × IM)), B_174_40 w1 x3 s = some o → (∀ s', o = .inl s' → (fun (x4, M) => Rc X d 174 40 [some (.ref (77)), some (.long (w1)), none, some (.int (x3)), some (.int (x4))] [] M v M') s') → (∀ r, o = .inr r → (fun (x4, M) => Rc X d 174 88 [some (.ref (77)), none, none, none, none] [] M v M') r) → (fun (x4, M) => Rc X d 174 40 [some (.ref (77)), some (.long (w1)), none, some (.int (x3)), some (.int (x4))] [] M v M') s := by
  rintro ⟨x4, M⟩ o h hP hE
  show Rc X d 174 40 [some (.ref (77)), some (.long (w1)), none, some (.int (x3)), some (.int (x4))] [] M v M'
  obtain ⟨d, rfl⟩ : ∃ e, d = e + 1 := ⟨d - 1, by omega⟩
  unfold B_174_40 at h
  dsimp only at h hP hE
  refine Rc.run tb_174 2 (pc' := 43) (ls' := [some (.ref (77)), some (.long (w1)), none, some (.int (x3)), some (.int (x4))]) (st' := [.int (x3), .int (x4)]) rfl rfl ?_
  refine Rc.icmp_ge (pc1 := 88) tb_174 rfl rfl (by decide) (by decide) (fun hb7 => ?_) (fun hb7 => ?_)
  · rw [if_pos hb7] at h
    refine Rc.mask (b := 1) ((tb_174.2 88).trans rfl) (ls' := [some (.ref (77)), none, none, none, none]) rfl ?_
    obtain rfl := Option.some.inj h
    exact hE _ rfl
  · rw [if_neg hb7] at h
    refine Rc.run tb_174 1 (pc' := 47) (ls' := [some (.ref (77)), some (.long (w1)), none, some (.int (x3)), some (.int (x4))]) (st' := [.ref (77)]) rfl rfl ?_
    refine Rc.getR tb_174 rfl rfl ob_77 (by decide +kernel) tg_77_0 (by decide) ?_
    refine Rc.run tb_174 2 (pc' := 53) (ls' := [some (.ref (77)), some (.long (w1)), none, some (.int (x3)), some (.int (x4))]) (st' := [.ref (77), .int (40), .ref (78)]) rfl rfl ?_
    refine Rc.getR tb_174 rfl rfl ob_77 (by decide +kernel) tg_77_0 (by decide) ?_
    refine Rc.run tb_174 1 (pc' := 57) (ls' := [some (.ref (77)), some (.long (w1)), none, some (.int (x3)), some (.int (x4))]) (st' := [.int (1), .ref (78), .int (40), .ref (78)]) rfl rfl ?_
    refine Rc.iald tb_174 rfl rfl ia_78 (by decide) ?_
    refine Rc.run tb_174 9 (pc' := 71) (ls' := [some (.ref (77)), some (.long (w1)), none, some (.int (x3)), some (.int (x4))]) (st' := [.int (((w1 >>> ((8 * x4 : Int32).toInt64 &&& 63)) &&& 255).toInt32), .int (40 + (M 78 (1 : Int32).toNatClampNeg)), .ref (78)]) rfl rfl ?_
    by_cases hb5 : inb (40 + (M 78 (1 : Int32).toNatClampNeg)) 366 = true
    · rw [if_pos hb5] at h
      refine Rc.iast tb_174 rfl rfl ia_78 hb5 ?_
      refine Rc.run tb_174 1 (pc' := 73) (ls' := [some (.ref (77)), some (.long (w1)), none, some (.int (x3)), some (.int (x4))]) (st' := [.ref (77)]) rfl rfl ?_
      refine Rc.getR tb_174 rfl rfl ob_77 (by decide +kernel) tg_77_0 (by decide) ?_
      refine Rc.run tb_174 2 (pc' := 78) (ls' := [some (.ref (77)), some (.long (w1)), none, some (.int (x3)), some (.int (x4))]) (st' := [.int (1), .ref (78), .int (1), .ref (78)]) rfl rfl ?_
      refine Rc.iald tb_174 rfl rfl ia_78 (by decide) ?_
      refine Rc.run tb_174 2 (pc' := 81) (ls' := [some (.ref (77)), some (.long (w1)), none, some (.int (x3)), some (.int (x4))]) (st' := [.int (((iset M 78 (40 + (M 78 (1 : Int32).toNatClampNeg)).toNatClampNeg (((w1 >>> ((8 * x4 : Int32).toInt64 &&& 63)) &&& 255).toInt32)) 78 (1 : Int32).toNatClampNeg) + 1), .int (1), .ref (78)]) rfl rfl ?_
      refine Rc.iast tb_174 rfl rfl ia_78 (by decide) ?_
      refine Rc.run tb_174 2 (pc' := 40) (ls' := [some (.ref (77)), some (.long (w1)), none, some (.int (x3)), some (.int (x4 + 1))]) (st' := []) rfl rfl ?_
      refine Rc.mask (b := 27) ((tb_174.2 40).trans rfl) (ls' := [some (.ref (77)), some (.long (w1)), none, some (.int (x3)), some (.int (x4 + 1))]) rfl ?_
      obtain rfl := Option.some.inj h
      exact hP _ rfl
    · rw [if_neg hb5] at h
      cases h
theorem TL_174_40 {X : AX} {d : Nat} (hd : 1 ≤ d) {w1 : Int64} {x3 : Int32} {x4 : Int32} {M : IM} {v : Option Value} {M' : IM} {r : Int32 × IM} (h : L_174_40 w1 x3 x4 M = some r) (hE : (fun (x4, M) => Rc X d 174 88 [some (.ref (77)), none, none, none, none] [] M v M') r) : Rc X d 174 40 [some (.ref (77)), some (.long (w1)), none, some (.int (x3)), some (.int (x4))] [] M v M' := by
  exact loopN_rc (P := fun (x4, M) => Rc X d 174 40 [some (.ref (77)), some (.long (w1)), none, some (.int (x3)), some (.int (x4))] [] M v M') (E := fun (x4, M) => Rc X d 174 88 [some (.ref (77)), none, none, none, none] [] M v M') (TB_174_40 (X := X) hd) FU _ r h hE
theorem TJ_174_88 {X : AX} {d : Nat} (hd : 1 ≤ d) {M : IM} {v : Option Value} {M' : IM} {o : Int32 × IM} (h : J_174_88 M = some o) (hC : v = some (.int o.1) ∧ M' = o.2) : Rc X d 174 88 [some (.ref (77)), none, none, none, none] [] M v M' := by
  obtain ⟨d, rfl⟩ : ∃ e, d = e + 1 := ⟨d - 1, by omega⟩
  unfold J_174_88 at h
  refine Rc.run tb_174 1 (pc' := 89) (ls' := [some (.ref (77)), none, none, none, none]) (st' := [.ref (77)]) rfl rfl ?_
  refine Rc.getR tb_174 rfl rfl ob_77 (by decide +kernel) tg_77_0 (by decide) ?_
  refine Rc.run tb_174 1 (pc' := 93) (ls' := [some (.ref (77)), none, none, none, none]) (st' := [.int (1), .ref (78)]) rfl rfl ?_
  refine Rc.iald tb_174 rfl rfl ia_78 (by decide) ?_
  obtain rfl := Option.some.inj h
  obtain ⟨rfl, rfl⟩ := hC
  exact Rc.iret (ins := .ireturn) tb_174 rfl mR_174
theorem TF_174 {X : AX} {d : Nat} (hd : 1 ≤ d) {a1 : Int64} {a2 : Int32} {M : IM} {v : Option Value} {M' : IM} {o : Int32 × IM} (h : F_174 a1 a2 M = some o) (hC : v = some (.int o.1) ∧ M' = o.2) : Rc X d 174 0 [some (.ref (77)), some (.long (a1)), none, some (.int (a2)), none] [] M v M' := by
  obtain ⟨d, rfl⟩ : ∃ e, d = e + 1 := ⟨d - 1, by omega⟩
  unfold F_174 at h
  refine Rc.run tb_174 3 (pc' := 4) (ls' := [some (.ref (77)), some (.long (a1)), none, some (.int (a2)), none]) (st' := [.int (8), .int (1), .int (a2)]) rfl rfl ?_
  have hq1 := T_157 (X := X) (d := d) (by omega) a2 (1 : Int32) (8 : Int32) M
  have hz1 := Rc.bool mR_157 hq1
  refine Rc.callS tb_174 rfl rfl rfl mS_157 mP_157 mL_157 rfl rfl rfl hq1 ?_
  refine Rc.if_ne (pc1 := 17) tb_174 rfl rfl (by decide) (by decide) (fun hb13 => ?_) (fun hb13 => ?_)
  · rw [if_pos hb13] at h
    refine Rc.run tb_174 2 (pc' := 13) (ls' := [some (.ref (77)), some (.long (a1)), none, some (.int (a2)), none]) (st' := [.int ((-1000001)), .ref (77)]) rfl rfl ?_
    cases hc2 : F_156 ((-1000001) : Int32) M with
    | none => rw [hc2] at h; cases h
    | some r2 =>
      obtain ⟨c2, M2⟩ := r2
      rw [hc2] at h
      dsimp only at h
      have hq2 := T_156 (X := X) (d := d) (by omega) (M := M) hc2
      refine Rc.callV tb_174 rfl rfl rfl mS_156 mP_156 mL_156 mO_156 rfl rfl ob_77 rfl rfl hq2 ?_
      obtain rfl := Option.some.inj h
      obtain ⟨rfl, rfl⟩ := hC
      exact Rc.iret (ins := .ireturn) tb_174 rfl mR_174
  · rw [if_neg hb13] at h
    refine Rc.run tb_174 1 (pc' := 18) (ls' := [some (.ref (77)), some (.long (a1)), none, some (.int (a2)), none]) (st' := [.ref (77)]) rfl rfl ?_
    refine Rc.getR tb_174 rfl rfl ob_77 (by decide +kernel) tg_77_0 (by decide) ?_
    refine Rc.run tb_174 1 (pc' := 22) (ls' := [some (.ref (77)), some (.long (a1)), none, some (.int (a2)), none]) (st' := [.int (1), .ref (78)]) rfl rfl ?_
    refine Rc.iald tb_174 rfl rfl ia_78 (by decide) ?_
    refine Rc.run tb_174 3 (pc' := 27) (ls' := [some (.ref (77)), some (.long (a1)), none, some (.int (a2)), none]) (st' := [.int (50), .int ((M 78 (1 : Int32).toNatClampNeg) + a2)]) rfl rfl ?_
    refine Rc.icmp_le (pc1 := 37) tb_174 rfl rfl (by decide) (by decide) (fun hb11 => ?_) (fun hb11 => ?_)
    · rw [if_pos hb11] at h
      refine Rc.run tb_174 2 (pc' := 40) (ls' := [some (.ref (77)), some (.long (a1)), none, some (.int (a2)), some (.int (0))]) (st' := []) rfl rfl ?_
      refine Rc.mask (b := 27) ((tb_174.2 40).trans rfl) (ls' := [some (.ref (77)), some (.long (a1)), none, some (.int (a2)), some (.int (0))]) rfl ?_
      cases hl8 : L_174_40 a1 a2 0 M with
      | none => rw [hl8] at h; cases h
      | some r8 =>
        obtain ⟨x4_8, M8⟩ := r8
        rw [hl8] at h
        dsimp only at h
        refine TL_174_40 (X := X) (d := d + 1) (by omega) hl8 ?_
        refine Rc.mask (b := 1) ((tb_174.2 88).trans rfl) (ls' := [some (.ref (77)), none, none, none, none]) rfl ?_
        exact TJ_174_88 (X := X) (d := d + 1) (by omega) h hC
    · rw [if_neg hb11] at h
      refine Rc.run tb_174 2 (pc' := 33) (ls' := [some (.ref (77)), some (.long (a1)), none, some (.int (a2)), none]) (st' := [.int ((-1000004)), .ref (77)]) rfl rfl ?_
      cases hc10 : F_156 ((-1000004) : Int32) M with
      | none => rw [hc10] at h; cases h
      | some r10 =>
        obtain ⟨c10, M10⟩ := r10
        rw [hc10] at h
        dsimp only at h
        have hq10 := T_156 (X := X) (d := d) (by omega) (M := M) hc10
        refine Rc.callV tb_174 rfl rfl rfl mS_156 mP_156 mL_156 mO_156 rfl rfl ob_77 rfl rfl hq10 ?_
        obtain rfl := Option.some.inj h
        obtain ⟨rfl, rfl⟩ := hC
        exact Rc.iret (ins := .ireturn) tb_174 rfl mR_174
theorem T_174 {X : AX} {d : Nat} (hd : 1 ≤ d) {a1 : Int64} {a2 : Int32} {M : IM} {x : Int32} {M1 : IM} (h : F_174 a1 a2 M = some (x, M1)) : Rc X d 174 0 [some (.ref (77)), some (.long (a1)), none, some (.int (a2)), none] [] M (some (.int x)) M1 := TF_174 hd h ⟨rfl, rfl⟩
/-! 175: NineDemandsModel.here -/
def F_175 (M : IM) : Option (Int32) := if M 77 12 = 0 then (if M 78 (1 : Int32).toNatClampNeg ≤ M 77 9 then (some ((-1))) else (if inb (40 + (M 77 9)) 366 = true then (some (M 78 (40 + (M 77 9)).toNatClampNeg)) else none)) else (some ((-1)))
theorem TF_175 {X : AX} {d : Nat} (hd : 0 ≤ d) {M : IM} {v : Option Value} {M' : IM} {o : Int32} (h : F_175 M = some o) (hC : v = some (.int o) ∧ M' = M) : Rc X d 175 0 [some (.ref (77))] [] M v M' := by
  unfold F_175 at h
  refine Rc.run tb_175 1 (pc' := 1) (ls' := [some (.ref (77))]) (st' := [.ref (77)]) rfl rfl ?_
  refine Rc.getI tb_175 rfl rfl ob_77 (by decide +kernel) tg_77_12 ?_
  refine Rc.if_ne (pc1 := 35) tb_175 rfl rfl (by decide) (by decide) (fun hb4 => ?_) (fun hb4 => ?_)
  · rw [if_pos hb4] at h
    refine Rc.run tb_175 1 (pc' := 8) (ls' := [some (.ref (77))]) (st' := [.ref (77)]) rfl rfl ?_
    refine Rc.getI tb_175 rfl rfl ob_77 (by decide +kernel) tg_77_9 ?_
    refine Rc.run tb_175 1 (pc' := 12) (ls' := [some (.ref (77))]) (st' := [.ref (77), .int (M 77 9)]) rfl rfl ?_
    refine Rc.getR tb_175 rfl rfl ob_77 (by decide +kernel) tg_77_0 (by decide) ?_
    refine Rc.run tb_175 1 (pc' := 16) (ls' := [some (.ref (77))]) (st' := [.int (1), .ref (78), .int (M 77 9)]) rfl rfl ?_
    refine Rc.iald tb_175 rfl rfl ia_78 (by decide) ?_
    refine Rc.icmp_ge (pc1 := 35) tb_175 rfl rfl (by decide) (by decide) (fun hb2 => ?_) (fun hb2 => ?_)
    · rw [if_pos hb2] at h
      refine Rc.run tb_175 1 (pc' := 36) (ls' := [none]) (st' := [.int ((-1))]) rfl rfl ?_
      obtain rfl := Option.some.inj h
      obtain ⟨rfl, rfl⟩ := hC
      exact Rc.iret (ins := .ireturn) tb_175 rfl mR_175
    · rw [if_neg hb2] at h
      refine Rc.run tb_175 1 (pc' := 21) (ls' := [some (.ref (77))]) (st' := [.ref (77)]) rfl rfl ?_
      refine Rc.getR tb_175 rfl rfl ob_77 (by decide +kernel) tg_77_0 (by decide) ?_
      refine Rc.run tb_175 2 (pc' := 27) (ls' := [some (.ref (77))]) (st' := [.ref (77), .int (40), .ref (78)]) rfl rfl ?_
      refine Rc.getI tb_175 rfl rfl ob_77 (by decide +kernel) tg_77_9 ?_
      refine Rc.run tb_175 1 (pc' := 31) (ls' := [some (.ref (77))]) (st' := [.int (40 + (M 77 9)), .ref (78)]) rfl rfl ?_
      by_cases hb1 : inb (40 + (M 77 9)) 366 = true
      · rw [if_pos hb1] at h
        refine Rc.iald tb_175 rfl rfl ia_78 hb1 ?_
        refine Rc.run tb_175 1 (pc' := 36) (ls' := [some (.ref (77))]) (st' := [.int (M 78 (40 + (M 77 9)).toNatClampNeg)]) rfl rfl ?_
        obtain rfl := Option.some.inj h
        obtain ⟨rfl, rfl⟩ := hC
        exact Rc.iret (ins := .ireturn) tb_175 rfl mR_175
      · rw [if_neg hb1] at h
        cases h
  · rw [if_neg hb4] at h
    refine Rc.run tb_175 1 (pc' := 36) (ls' := [none]) (st' := [.int ((-1))]) rfl rfl ?_
    obtain rfl := Option.some.inj h
    obtain ⟨rfl, rfl⟩ := hC
    exact Rc.iret (ins := .ireturn) tb_175 rfl mR_175
theorem T_175 {X : AX} {d : Nat} (hd : 0 ≤ d) {M : IM} {x : Int32} (h : F_175 M = some x) : Rc X d 175 0 [some (.ref (77))] [] M (some (.int x)) M := TF_175 hd h ⟨rfl, rfl⟩
/-! 176: NineDemandsModel.takes -/
def J_176_28 (x2 : Int32) (s0 : Int32) (s1 : Int32) (M : IM) : Option (Int32 × IM) := some ((x2, iset M 77 9 (s1 + s0)))
def J_176_13 (s0 : Int32) (M : IM) : Option (Int32 × IM) := if s0 = 0 then (J_176_28 s0 (0 : Int32) (M 77 9) M) else (J_176_28 s0 (1 : Int32) (M 77 9) M)
def F_176 (a1 : Int32) (M : IM) : Option (Int32 × IM) := (match F_175 M with | none => none | some c1 => (if c1 = a1 then (J_176_13 (1 : Int32) M) else (J_176_13 (0 : Int32) M)))
theorem TJ_176_28 {X : AX} {d : Nat} (hd : 1 ≤ d) {x2 : Int32} {s0 : Int32} {s1 : Int32} {M : IM} (hx2 : x2 = 0 ∨ x2 = 1) (hs0 : s0 = 0 ∨ s0 = 1) {v : Option Value} {M' : IM} {o : Int32 × IM} (h : J_176_28 x2 s0 s1 M = some o) (hC : v = some (.int o.1) ∧ M' = o.2) : Rc X d 176 28 [none, none, some (.int (x2))] [.int (s0), .int (s1), .ref (77)] M v M' := by
  obtain ⟨d, rfl⟩ : ∃ e, d = e + 1 := ⟨d - 1, by omega⟩
  unfold J_176_28 at h
  refine Rc.run tb_176 1 (pc' := 29) (ls' := [none, none, some (.int (x2))]) (st' := [.int (s1 + s0), .ref (77)]) rfl rfl ?_
  refine Rc.putI tb_176 rfl rfl ob_77 (by decide +kernel) tg_77_9 rfl ?_
  refine Rc.run tb_176 1 (pc' := 33) (ls' := [none, none, some (.int (x2))]) (st' := [.int (x2)]) rfl rfl ?_
  obtain rfl := Option.some.inj h
  obtain ⟨rfl, rfl⟩ := hC
  exact Rc.zret tb_176 rfl mR_176 hx2
theorem TJ_176_13 {X : AX} {d : Nat} (hd : 1 ≤ d) {s0 : Int32} {M : IM} (hs0 : s0 = 0 ∨ s0 = 1) {v : Option Value} {M' : IM} {o : Int32 × IM} (h : J_176_13 s0 M = some o) (hC : v = some (.int o.1) ∧ M' = o.2) : Rc X d 176 13 [some (.ref (77)), none, none] [.int (s0)] M v M' := by
  obtain ⟨d, rfl⟩ : ∃ e, d = e + 1 := ⟨d - 1, by omega⟩
  unfold J_176_13 at h
  refine Rc.run tb_176 3 (pc' := 16) (ls' := [some (.ref (77)), none, some (.int (s0))]) (st' := [.ref (77), .ref (77)]) rfl rfl ?_
  refine Rc.getI tb_176 rfl rfl ob_77 (by decide +kernel) tg_77_9 ?_
  refine Rc.run tb_176 1 (pc' := 20) (ls' := [some (.ref (77)), none, some (.int (s0))]) (st' := [.int (s0), .int (M 77 9), .ref (77)]) rfl rfl ?_
  refine Rc.if_eq (pc1 := 27) tb_176 rfl rfl (by decide) (by decide) (fun hb2 => ?_) (fun hb2 => ?_)
  · rw [if_pos hb2] at h
    refine Rc.run tb_176 1 (pc' := 28) (ls' := [some (.ref (77)), none, some (.int (s0))]) (st' := [.int (0), .int (M 77 9), .ref (77)]) rfl rfl ?_
    refine Rc.mask (b := 4) ((tb_176.2 28).trans rfl) (ls' := [none, none, some (.int (s0))]) rfl ?_
    exact TJ_176_28 (X := X) (d := d + 1) (by omega) hs0 (Or.inl rfl) h hC
  · rw [if_neg hb2] at h
    refine Rc.run tb_176 2 (pc' := 28) (ls' := [some (.ref (77)), none, some (.int (s0))]) (st' := [.int (1), .int (M 77 9), .ref (77)]) rfl rfl ?_
    refine Rc.mask (b := 4) ((tb_176.2 28).trans rfl) (ls' := [none, none, some (.int (s0))]) rfl ?_
    exact TJ_176_28 (X := X) (d := d + 1) (by omega) hs0 (Or.inr rfl) h hC
theorem TF_176 {X : AX} {d : Nat} (hd : 1 ≤ d) {a1 : Int32} {M : IM} {v : Option Value} {M' : IM} {o : Int32 × IM} (h : F_176 a1 M = some o) (hC : v = some (.int o.1) ∧ M' = o.2) : Rc X d 176 0 [some (.ref (77)), some (.int (a1)), none] [] M v M' := by
  obtain ⟨d, rfl⟩ : ∃ e, d = e + 1 := ⟨d - 1, by omega⟩
  unfold F_176 at h
  refine Rc.run tb_176 1 (pc' := 1) (ls' := [some (.ref (77)), some (.int (a1)), none]) (st' := [.ref (77)]) rfl rfl ?_
  cases hc1 : F_175 M with
  | none => rw [hc1] at h; cases h
  | some c1 =>
    rw [hc1] at h
    dsimp only at h
    have hq1 := T_175 (X := X) (d := d) (by omega) (M := M) hc1
    refine Rc.callV tb_176 rfl rfl rfl mS_175 mP_175 mL_175 mO_175 rfl rfl ob_77 rfl rfl hq1 ?_
    refine Rc.run tb_176 1 (pc' := 5) (ls' := [some (.ref (77)), some (.int (a1)), none]) (st' := [.int (a1), .int (c1)]) rfl rfl ?_
    refine Rc.icmp_ne (pc1 := 12) tb_176 rfl rfl (by decide) (by decide) (fun hb3 => ?_) (fun hb3 => ?_)
    · rw [if_pos hb3] at h
      refine Rc.run tb_176 2 (pc' := 13) (ls' := [some (.ref (77)), some (.int (a1)), none]) (st' := [.int (1)]) rfl rfl ?_
      refine Rc.mask (b := 1) ((tb_176.2 13).trans rfl) (ls' := [some (.ref (77)), none, none]) rfl ?_
      exact TJ_176_13 (X := X) (d := d + 1) (by omega) (Or.inr rfl) h hC
    · rw [if_neg hb3] at h
      refine Rc.run tb_176 1 (pc' := 13) (ls' := [some (.ref (77)), some (.int (a1)), none]) (st' := [.int (0)]) rfl rfl ?_
      refine Rc.mask (b := 1) ((tb_176.2 13).trans rfl) (ls' := [some (.ref (77)), none, none]) rfl ?_
      exact TJ_176_13 (X := X) (d := d + 1) (by omega) (Or.inl rfl) h hC
theorem T_176 {X : AX} {d : Nat} (hd : 1 ≤ d) {a1 : Int32} {M : IM} {x : Int32} {M1 : IM} (h : F_176 a1 M = some (x, M1)) : Rc X d 176 0 [some (.ref (77)), some (.int (a1)), none] [] M (some (.int x)) M1 := TF_176 hd h ⟨rfl, rfl⟩
/-! 177: NineDemandsModel.codes -/
def F_177 (a1 : Int32) (M : IM) : Option (IM) := if M 77 12 = 0 then (if inb (M 77 14) 60 = true then (some (iset (iset M 85 (M 77 14).toNatClampNeg a1) 77 14 (((iset M 85 (M 77 14).toNatClampNeg a1) 77 14) + 1))) else none) else (some (M))
theorem TF_177 {X : AX} {d : Nat} (hd : 0 ≤ d) {a1 : Int32} {M : IM} {v : Option Value} {M' : IM} {o : IM} (h : F_177 a1 M = some o) (hC : v = none ∧ M' = o) : Rc X d 177 0 [some (.ref (77)), some (.int (a1))] [] M v M' := by
  unfold F_177 at h
  refine Rc.run tb_177 1 (pc' := 1) (ls' := [some (.ref (77)), some (.int (a1))]) (st' := [.ref (77)]) rfl rfl ?_
  refine Rc.getI tb_177 rfl rfl ob_77 (by decide +kernel) tg_77_12 ?_
  refine Rc.if_ne (pc1 := 27) tb_177 rfl rfl (by decide) (by decide) (fun hb2 => ?_) (fun hb2 => ?_)
  · rw [if_pos hb2] at h
    refine Rc.run tb_177 1 (pc' := 8) (ls' := [some (.ref (77)), some (.int (a1))]) (st' := [.ref (77)]) rfl rfl ?_
    refine Rc.getR tb_177 rfl rfl ob_77 (by decide +kernel) tg_77_13 (by decide) ?_
    refine Rc.run tb_177 1 (pc' := 12) (ls' := [some (.ref (77)), some (.int (a1))]) (st' := [.ref (77), .ref (85)]) rfl rfl ?_
    refine Rc.getI tb_177 rfl rfl ob_77 (by decide +kernel) tg_77_14 ?_
    refine Rc.run tb_177 1 (pc' := 16) (ls' := [some (.ref (77)), some (.int (a1))]) (st' := [.int (a1), .int (M 77 14), .ref (85)]) rfl rfl ?_
    by_cases hb1 : inb (M 77 14) 60 = true
    · rw [if_pos hb1] at h
      refine Rc.iast tb_177 rfl rfl ia_85 hb1 ?_
      refine Rc.run tb_177 2 (pc' := 19) (ls' := [some (.ref (77)), some (.int (a1))]) (st' := [.ref (77), .ref (77)]) rfl rfl ?_
      refine Rc.getI tb_177 rfl rfl ob_77 (by decide +kernel) tg_77_14 ?_
      refine Rc.run tb_177 2 (pc' := 24) (ls' := [some (.ref (77)), some (.int (a1))]) (st' := [.int (((iset M 85 (M 77 14).toNatClampNeg a1) 77 14) + 1), .ref (77)]) rfl rfl ?_
      refine Rc.putI tb_177 rfl rfl ob_77 (by decide +kernel) tg_77_14 rfl ?_
      obtain rfl := Option.some.inj h
      obtain ⟨rfl, rfl⟩ := hC
      exact Rc.vret tb_177 rfl mR_177
    · rw [if_neg hb1] at h
      cases h
  · rw [if_neg hb2] at h
    obtain rfl := Option.some.inj h
    obtain ⟨rfl, rfl⟩ := hC
    exact Rc.vret tb_177 rfl mR_177
theorem T_177 {X : AX} {d : Nat} (hd : 0 ≤ d) {a1 : Int32} {M : IM} {M1 : IM} (h : F_177 a1 M = some M1) : Rc X d 177 0 [some (.ref (77)), some (.int (a1))] [] M none M1 := TF_177 hd h ⟨rfl, rfl⟩
/-! 183: NineDemandsModel.nameOf -/
def F_183 (a1 : Int32) : Int32 := if a1 = 97 then 0 else (if a1 = 98 then 1 else (if a1 = 99 then 2 else (if a1 = 100 then 7 else (if a1 = 105 then 9 else (if a1 = 112 then 4 else (if a1 = 113 then 5 else (if a1 = 114 then 6 else (if a1 = 115 then 3 else (if a1 = 119 then 8 else (-1))))))))))
theorem TF_183 {X : AX} {d : Nat} (hd : 0 ≤ d) {a1 : Int32} {M : IM} {v : Option Value} {M' : IM} {o : Int32} (h : F_183 a1 = o) (hC : v = some (.int o) ∧ M' = M) : Rc X d 183 0 [some (.int (a1))] [] M v M' := by
  unfold F_183 at h
  refine Rc.run tb_183 1 (pc' := 1) (ls' := [some (.int (a1))]) (st' := [.int (a1)]) rfl rfl ?_
  by_cases hk1 : a1 = 97
  · rw [if_pos hk1] at h
    refine Rc.table (off := 107) (pc1 := 108) tb_183 rfl rfl (by decide) (tsw_at (k := 97) (by rw [hk1]; decide) (by decide +kernel)) (by decide) (by decide) ?_
    refine Rc.run tb_183 1 (pc' := 109) (ls' := [some (.int (a1))]) (st' := [.int (0)]) rfl rfl ?_
    subst h
    obtain ⟨rfl, rfl⟩ := hC
    exact Rc.iret (ins := .ireturn) tb_183 rfl mR_183
  · rw [if_neg hk1] at h
    by_cases hk2 : a1 = 98
    · rw [if_pos hk2] at h
      refine Rc.table (off := 109) (pc1 := 110) tb_183 rfl rfl (by decide) (tsw_at (k := 98) (by rw [hk2]; decide) (by decide +kernel)) (by decide) (by decide) ?_
      refine Rc.run tb_183 1 (pc' := 111) (ls' := [some (.int (a1))]) (st' := [.int (1)]) rfl rfl ?_
      subst h
      obtain ⟨rfl, rfl⟩ := hC
      exact Rc.iret (ins := .ireturn) tb_183 rfl mR_183
    · rw [if_neg hk2] at h
      by_cases hk3 : a1 = 99
      · rw [if_pos hk3] at h
        refine Rc.table (off := 111) (pc1 := 112) tb_183 rfl rfl (by decide) (tsw_at (k := 99) (by rw [hk3]; decide) (by decide +kernel)) (by decide) (by decide) ?_
        refine Rc.run tb_183 1 (pc' := 113) (ls' := [some (.int (a1))]) (st' := [.int (2)]) rfl rfl ?_
        subst h
        obtain ⟨rfl, rfl⟩ := hC
        exact Rc.iret (ins := .ireturn) tb_183 rfl mR_183
      · rw [if_neg hk3] at h
        by_cases hk4 : a1 = 100
        · rw [if_pos hk4] at h
          refine Rc.table (off := 122) (pc1 := 123) tb_183 rfl rfl (by decide) (tsw_at (k := 100) (by rw [hk4]; decide) (by decide +kernel)) (by decide) (by decide) ?_
          refine Rc.run tb_183 1 (pc' := 125) (ls' := [some (.int (a1))]) (st' := [.int (7)]) rfl rfl ?_
          subst h
          obtain ⟨rfl, rfl⟩ := hC
          exact Rc.iret (ins := .ireturn) tb_183 rfl mR_183
        · rw [if_neg hk4] at h
          by_cases hk5 : a1 = 105
          · rw [if_pos hk5] at h
            refine Rc.table (off := 128) (pc1 := 129) tb_183 rfl rfl (by decide) (tsw_at (k := 105) (by rw [hk5]; decide) (by decide +kernel)) (by decide) (by decide) ?_
            refine Rc.run tb_183 1 (pc' := 131) (ls' := [some (.int (a1))]) (st' := [.int (9)]) rfl rfl ?_
            subst h
            obtain ⟨rfl, rfl⟩ := hC
            exact Rc.iret (ins := .ireturn) tb_183 rfl mR_183
          · rw [if_neg hk5] at h
            by_cases hk6 : a1 = 112
            · rw [if_pos hk6] at h
              refine Rc.table (off := 115) (pc1 := 116) tb_183 rfl rfl (by decide) (tsw_at (k := 112) (by rw [hk6]; decide) (by decide +kernel)) (by decide) (by decide) ?_
              refine Rc.run tb_183 1 (pc' := 117) (ls' := [some (.int (a1))]) (st' := [.int (4)]) rfl rfl ?_
              subst h
              obtain ⟨rfl, rfl⟩ := hC
              exact Rc.iret (ins := .ireturn) tb_183 rfl mR_183
            · rw [if_neg hk6] at h
              by_cases hk7 : a1 = 113
              · rw [if_pos hk7] at h
                refine Rc.table (off := 117) (pc1 := 118) tb_183 rfl rfl (by decide) (tsw_at (k := 113) (by rw [hk7]; decide) (by decide +kernel)) (by decide) (by decide) ?_
                refine Rc.run tb_183 1 (pc' := 119) (ls' := [some (.int (a1))]) (st' := [.int (5)]) rfl rfl ?_
                subst h
                obtain ⟨rfl, rfl⟩ := hC
                exact Rc.iret (ins := .ireturn) tb_183 rfl mR_183
              · rw [if_neg hk7] at h
                by_cases hk8 : a1 = 114
                · rw [if_pos hk8] at h
                  refine Rc.table (off := 119) (pc1 := 120) tb_183 rfl rfl (by decide) (tsw_at (k := 114) (by rw [hk8]; decide) (by decide +kernel)) (by decide) (by decide) ?_
                  refine Rc.run tb_183 1 (pc' := 122) (ls' := [some (.int (a1))]) (st' := [.int (6)]) rfl rfl ?_
                  subst h
                  obtain ⟨rfl, rfl⟩ := hC
                  exact Rc.iret (ins := .ireturn) tb_183 rfl mR_183
                · rw [if_neg hk8] at h
                  by_cases hk9 : a1 = 115
                  · rw [if_pos hk9] at h
                    refine Rc.table (off := 113) (pc1 := 114) tb_183 rfl rfl (by decide) (tsw_at (k := 115) (by rw [hk9]; decide) (by decide +kernel)) (by decide) (by decide) ?_
                    refine Rc.run tb_183 1 (pc' := 115) (ls' := [some (.int (a1))]) (st' := [.int (3)]) rfl rfl ?_
                    subst h
                    obtain ⟨rfl, rfl⟩ := hC
                    exact Rc.iret (ins := .ireturn) tb_183 rfl mR_183
                  · rw [if_neg hk9] at h
                    by_cases hk10 : a1 = 119
                    · rw [if_pos hk10] at h
                      refine Rc.table (off := 125) (pc1 := 126) tb_183 rfl rfl (by decide) (tsw_at (k := 119) (by rw [hk10]; decide) (by decide +kernel)) (by decide) (by decide) ?_
                      refine Rc.run tb_183 1 (pc' := 128) (ls' := [some (.int (a1))]) (st' := [.int (8)]) rfl rfl ?_
                      subst h
                      obtain ⟨rfl, rfl⟩ := hC
                      exact Rc.iret (ins := .ireturn) tb_183 rfl mR_183
                    · rw [if_neg hk10] at h
                      refine Rc.table (off := 131) (pc1 := 132) tb_183 rfl rfl (by decide) (tsw_df [97, 98, 99, 100, 105, 112, 113, 114, 115, 119] (by decide +kernel) (fun k hk => by simp only [List.mem_cons, List.not_mem_nil, or_false] at hk; rcases hk with rfl | rfl | rfl | rfl | rfl | rfl | rfl | rfl | rfl | rfl <;> assumption)) (by decide) (by decide) ?_
                      refine Rc.run tb_183 1 (pc' := 133) (ls' := [some (.int (a1))]) (st' := [.int ((-1))]) rfl rfl ?_
                      subst h
                      obtain ⟨rfl, rfl⟩ := hC
                      exact Rc.iret (ins := .ireturn) tb_183 rfl mR_183
theorem T_183 {X : AX} {d : Nat} (hd : 0 ≤ d) (a1 : Int32) (M : IM) : Rc X d 183 0 [some (.int (a1))] [] M (some (.int (F_183 a1))) M := TF_183 hd rfl ⟨rfl, rfl⟩
/-! 185: NineDemandsModel.named -/
def F_185 (a1 : Int32) (M : IM) : Option (Int32) := if inb (M 77 15) 90 = true then (if a1 = 0 then (match F_166 (M 82 (M 77 15).toNatClampNeg) (0 : Int32) with | none => none | some c24 => (some (c24))) else (if a1 = 1 then (match F_166 (M 82 (M 77 15).toNatClampNeg) (1 : Int32) with | none => none | some c23 => (some (c23))) else (if a1 = 2 then (some (M 77 16)) else (if a1 = 3 then (some (F_151 (M 82 (M 77 15).toNatClampNeg))) else (if a1 = 4 then (some (F_152 (M 82 (M 77 15).toNatClampNeg) (a1 - 4))) else (if a1 = 5 then (some (F_152 (M 82 (M 77 15).toNatClampNeg) (a1 - 4))) else (if a1 = 6 then (some (F_152 (M 82 (M 77 15).toNatClampNeg) (a1 - 4))) else (if a1 = 7 then (some (M 77 17)) else (if a1 = 8 then (if inb (M 77 15) 90 = true then (if F_151 (M 83 (M 77 15).toNatClampNeg) ≤ F_151 (M 82 (M 77 15).toNatClampNeg) then (if inb (M 77 15) 90 = true then (some (F_152 (M 82 (M 77 15).toNatClampNeg) (M 84 (M 77 15).toNatClampNeg))) else none) else (if inb (M 77 15) 90 = true then (some (F_152 (M 83 (M 77 15).toNatClampNeg) (2 : Int32))) else none)) else none) else (if inb (M 77 15) 90 = true then (some (M 84 (M 77 15).toNatClampNeg)) else none)))))))))) else none
theorem TF_185 {X : AX} {d : Nat} (hd : 3 ≤ d) {a1 : Int32} {M : IM} {v : Option Value} {M' : IM} {o : Int32} (h : F_185 a1 M = some o) (hC : v = some (.int o) ∧ M' = M) : Rc X d 185 0 [some (.ref (77)), some (.int (a1)), none] [] M v M' := by
  obtain ⟨d, rfl⟩ : ∃ e, d = e + 1 := ⟨d - 1, by omega⟩
  unfold F_185 at h
  refine Rc.run tb_185 1 (pc' := 1) (ls' := [some (.ref (77)), some (.int (a1)), none]) (st' := [.ref (77)]) rfl rfl ?_
  refine Rc.getR tb_185 rfl rfl ob_77 (by decide +kernel) tg_77_5 (by decide) ?_
  refine Rc.run tb_185 1 (pc' := 5) (ls' := [some (.ref (77)), some (.int (a1)), none]) (st' := [.ref (77), .ref (82)]) rfl rfl ?_
  refine Rc.getI tb_185 rfl rfl ob_77 (by decide +kernel) tg_77_15 ?_
  by_cases hb25 : inb (M 77 15) 90 = true
  · rw [if_pos hb25] at h
    refine Rc.iald tb_185 rfl rfl ia_82 hb25 ?_
    refine Rc.run tb_185 2 (pc' := 11) (ls' := [some (.ref (77)), some (.int (a1)), some (.int (M 82 (M 77 15).toNatClampNeg))]) (st' := [.int (a1)]) rfl rfl ?_
    by_cases hk2 : a1 = 0
    · rw [if_pos hk2] at h
      refine Rc.table (off := 49) (pc1 := 60) tb_185 rfl rfl (by decide) (tsw_at (k := 0) (by rw [hk2]; decide) (by decide +kernel)) (by decide) (by decide) ?_
      refine Rc.run tb_185 2 (pc' := 62) (ls' := [some (.ref (77)), some (.int (a1)), some (.int (M 82 (M 77 15).toNatClampNeg))]) (st' := [.int (0), .int (M 82 (M 77 15).toNatClampNeg)]) rfl rfl ?_
      cases hc24 : F_166 (M 82 (M 77 15).toNatClampNeg) (0 : Int32) with
      | none => rw [hc24] at h; cases h
      | some c24 =>
        rw [hc24] at h
        dsimp only at h
        have hq24 := T_166 (X := X) (d := d) (by omega) (M := M) hc24
        refine Rc.callS tb_185 rfl rfl rfl mS_166 mP_166 mL_166 rfl rfl rfl hq24 ?_
        obtain rfl := Option.some.inj h
        obtain ⟨rfl, rfl⟩ := hC
        exact Rc.iret (ins := .ireturn) tb_185 rfl mR_185
    · rw [if_neg hk2] at h
      by_cases hk3 : a1 = 1
      · rw [if_pos hk3] at h
        refine Rc.table (off := 55) (pc1 := 66) tb_185 rfl rfl (by decide) (tsw_at (k := 1) (by rw [hk3]; decide) (by decide +kernel)) (by decide) (by decide) ?_
        refine Rc.run tb_185 2 (pc' := 68) (ls' := [some (.ref (77)), some (.int (a1)), some (.int (M 82 (M 77 15).toNatClampNeg))]) (st' := [.int (1), .int (M 82 (M 77 15).toNatClampNeg)]) rfl rfl ?_
        cases hc23 : F_166 (M 82 (M 77 15).toNatClampNeg) (1 : Int32) with
        | none => rw [hc23] at h; cases h
        | some c23 =>
          rw [hc23] at h
          dsimp only at h
          have hq23 := T_166 (X := X) (d := d) (by omega) (M := M) hc23
          refine Rc.callS tb_185 rfl rfl rfl mS_166 mP_166 mL_166 rfl rfl rfl hq23 ?_
          obtain rfl := Option.some.inj h
          obtain ⟨rfl, rfl⟩ := hC
          exact Rc.iret (ins := .ireturn) tb_185 rfl mR_185
      · rw [if_neg hk3] at h
        by_cases hk4 : a1 = 2
        · rw [if_pos hk4] at h
          refine Rc.table (off := 61) (pc1 := 72) tb_185 rfl rfl (by decide) (tsw_at (k := 2) (by rw [hk4]; decide) (by decide +kernel)) (by decide) (by decide) ?_
          refine Rc.run tb_185 1 (pc' := 73) (ls' := [some (.ref (77)), some (.int (a1)), some (.int (M 82 (M 77 15).toNatClampNeg))]) (st' := [.ref (77)]) rfl rfl ?_
          refine Rc.getI tb_185 rfl rfl ob_77 (by decide +kernel) tg_77_16 ?_
          obtain rfl := Option.some.inj h
          obtain ⟨rfl, rfl⟩ := hC
          exact Rc.iret (ins := .ireturn) tb_185 rfl mR_185
        · rw [if_neg hk4] at h
          by_cases hk5 : a1 = 3
          · rw [if_pos hk5] at h
            refine Rc.table (off := 66) (pc1 := 77) tb_185 rfl rfl (by decide) (tsw_at (k := 3) (by rw [hk5]; decide) (by decide +kernel)) (by decide) (by decide) ?_
            refine Rc.run tb_185 1 (pc' := 78) (ls' := [some (.ref (77)), some (.int (a1)), some (.int (M 82 (M 77 15).toNatClampNeg))]) (st' := [.int (M 82 (M 77 15).toNatClampNeg)]) rfl rfl ?_
            have hq22 := T_151 (X := X) (d := d) (by omega) (M 82 (M 77 15).toNatClampNeg) M
            refine Rc.callS tb_185 rfl rfl rfl mS_151 mP_151 mL_151 rfl rfl rfl hq22 ?_
            obtain rfl := Option.some.inj h
            obtain ⟨rfl, rfl⟩ := hC
            exact Rc.iret (ins := .ireturn) tb_185 rfl mR_185
          · rw [if_neg hk5] at h
            by_cases hk6 : a1 = 4
            · rw [if_pos hk6] at h
              refine Rc.table (off := 71) (pc1 := 82) tb_185 rfl rfl (by decide) (tsw_at (k := 4) (by rw [hk6]; decide) (by decide +kernel)) (by decide) (by decide) ?_
              refine Rc.run tb_185 4 (pc' := 86) (ls' := [some (.ref (77)), some (.int (a1)), some (.int (M 82 (M 77 15).toNatClampNeg))]) (st' := [.int (a1 - 4), .int (M 82 (M 77 15).toNatClampNeg)]) rfl rfl ?_
              have hq21 := T_152 (X := X) (d := d) (by omega) (M 82 (M 77 15).toNatClampNeg) (a1 - 4) M
              refine Rc.callS tb_185 rfl rfl rfl mS_152 mP_152 mL_152 rfl rfl rfl hq21 ?_
              obtain rfl := Option.some.inj h
              obtain ⟨rfl, rfl⟩ := hC
              exact Rc.iret (ins := .ireturn) tb_185 rfl mR_185
            · rw [if_neg hk6] at h
              by_cases hk7 : a1 = 5
              · rw [if_pos hk7] at h
                refine Rc.table (off := 71) (pc1 := 82) tb_185 rfl rfl (by decide) (tsw_at (k := 5) (by rw [hk7]; decide) (by decide +kernel)) (by decide) (by decide) ?_
                refine Rc.run tb_185 4 (pc' := 86) (ls' := [some (.ref (77)), some (.int (a1)), some (.int (M 82 (M 77 15).toNatClampNeg))]) (st' := [.int (a1 - 4), .int (M 82 (M 77 15).toNatClampNeg)]) rfl rfl ?_
                have hq20 := T_152 (X := X) (d := d) (by omega) (M 82 (M 77 15).toNatClampNeg) (a1 - 4) M
                refine Rc.callS tb_185 rfl rfl rfl mS_152 mP_152 mL_152 rfl rfl rfl hq20 ?_
                obtain rfl := Option.some.inj h
                obtain ⟨rfl, rfl⟩ := hC
                exact Rc.iret (ins := .ireturn) tb_185 rfl mR_185
              · rw [if_neg hk7] at h
                by_cases hk8 : a1 = 6
                · rw [if_pos hk8] at h
                  refine Rc.table (off := 71) (pc1 := 82) tb_185 rfl rfl (by decide) (tsw_at (k := 6) (by rw [hk8]; decide) (by decide +kernel)) (by decide) (by decide) ?_
                  refine Rc.run tb_185 4 (pc' := 86) (ls' := [some (.ref (77)), some (.int (a1)), some (.int (M 82 (M 77 15).toNatClampNeg))]) (st' := [.int (a1 - 4), .int (M 82 (M 77 15).toNatClampNeg)]) rfl rfl ?_
                  have hq19 := T_152 (X := X) (d := d) (by omega) (M 82 (M 77 15).toNatClampNeg) (a1 - 4) M
                  refine Rc.callS tb_185 rfl rfl rfl mS_152 mP_152 mL_152 rfl rfl rfl hq19 ?_
                  obtain rfl := Option.some.inj h
                  obtain ⟨rfl, rfl⟩ := hC
                  exact Rc.iret (ins := .ireturn) tb_185 rfl mR_185
                · rw [if_neg hk8] at h
                  by_cases hk9 : a1 = 7
                  · rw [if_pos hk9] at h
                    refine Rc.table (off := 79) (pc1 := 90) tb_185 rfl rfl (by decide) (tsw_at (k := 7) (by rw [hk9]; decide) (by decide +kernel)) (by decide) (by decide) ?_
                    refine Rc.run tb_185 1 (pc' := 91) (ls' := [some (.ref (77)), some (.int (a1)), some (.int (M 82 (M 77 15).toNatClampNeg))]) (st' := [.ref (77)]) rfl rfl ?_
                    refine Rc.getI tb_185 rfl rfl ob_77 (by decide +kernel) tg_77_17 ?_
                    obtain rfl := Option.some.inj h
                    obtain ⟨rfl, rfl⟩ := hC
                    exact Rc.iret (ins := .ireturn) tb_185 rfl mR_185
                  · rw [if_neg hk9] at h
                    by_cases hk10 : a1 = 8
                    · rw [if_pos hk10] at h
                      refine Rc.table (off := 84) (pc1 := 95) tb_185 rfl rfl (by decide) (tsw_at (k := 8) (by rw [hk10]; decide) (by decide +kernel)) (by decide) (by decide) ?_
                      refine Rc.run tb_185 1 (pc' := 96) (ls' := [some (.ref (77)), some (.int (a1)), some (.int (M 82 (M 77 15).toNatClampNeg))]) (st' := [.ref (77)]) rfl rfl ?_
                      refine Rc.getR tb_185 rfl rfl ob_77 (by decide +kernel) tg_77_6 (by decide) ?_
                      refine Rc.run tb_185 1 (pc' := 100) (ls' := [some (.ref (77)), some (.int (a1)), some (.int (M 82 (M 77 15).toNatClampNeg))]) (st' := [.ref (77), .ref (83)]) rfl rfl ?_
                      refine Rc.getI tb_185 rfl rfl ob_77 (by decide +kernel) tg_77_15 ?_
                      by_cases hb18 : inb (M 77 15) 90 = true
                      · rw [if_pos hb18] at h
                        refine Rc.iald tb_185 rfl rfl ia_83 hb18 ?_
                        have hq11 := T_151 (X := X) (d := d) (by omega) (M 83 (M 77 15).toNatClampNeg) M
                        refine Rc.callS tb_185 rfl rfl rfl mS_151 mP_151 mL_151 rfl rfl rfl hq11 ?_
                        refine Rc.run tb_185 1 (pc' := 108) (ls' := [some (.ref (77)), some (.int (a1)), some (.int (M 82 (M 77 15).toNatClampNeg))]) (st' := [.int (M 82 (M 77 15).toNatClampNeg), .int (F_151 (M 83 (M 77 15).toNatClampNeg))]) rfl rfl ?_
                        have hq12 := T_151 (X := X) (d := d) (by omega) (M 82 (M 77 15).toNatClampNeg) M
                        refine Rc.callS tb_185 rfl rfl rfl mS_151 mP_151 mL_151 rfl rfl rfl hq12 ?_
                        refine Rc.icmp_le (pc1 := 130) tb_185 rfl rfl (by decide) (by decide) (fun hb17 => ?_) (fun hb17 => ?_)
                        · rw [if_pos hb17] at h
                          refine Rc.run tb_185 2 (pc' := 132) (ls' := [some (.ref (77)), some (.int (a1)), some (.int (M 82 (M 77 15).toNatClampNeg))]) (st' := [.ref (77), .int (M 82 (M 77 15).toNatClampNeg)]) rfl rfl ?_
                          refine Rc.getR tb_185 rfl rfl ob_77 (by decide +kernel) tg_77_7 (by decide) ?_
                          refine Rc.run tb_185 1 (pc' := 136) (ls' := [some (.ref (77)), some (.int (a1)), some (.int (M 82 (M 77 15).toNatClampNeg))]) (st' := [.ref (77), .ref (84), .int (M 82 (M 77 15).toNatClampNeg)]) rfl rfl ?_
                          refine Rc.getI tb_185 rfl rfl ob_77 (by decide +kernel) tg_77_15 ?_
                          by_cases hb14 : inb (M 77 15) 90 = true
                          · rw [if_pos hb14] at h
                            refine Rc.iald tb_185 rfl rfl ia_84 hb14 ?_
                            have hq13 := T_152 (X := X) (d := d) (by omega) (M 82 (M 77 15).toNatClampNeg) (M 84 (M 77 15).toNatClampNeg) M
                            refine Rc.callS tb_185 rfl rfl rfl mS_152 mP_152 mL_152 rfl rfl rfl hq13 ?_
                            obtain rfl := Option.some.inj h
                            obtain ⟨rfl, rfl⟩ := hC
                            exact Rc.iret (ins := .ireturn) tb_185 rfl mR_185
                          · rw [if_neg hb14] at h
                            cases h
                        · rw [if_neg hb17] at h
                          refine Rc.run tb_185 1 (pc' := 115) (ls' := [some (.ref (77)), some (.int (a1)), some (.int (M 82 (M 77 15).toNatClampNeg))]) (st' := [.ref (77)]) rfl rfl ?_
                          refine Rc.getR tb_185 rfl rfl ob_77 (by decide +kernel) tg_77_6 (by decide) ?_
                          refine Rc.run tb_185 1 (pc' := 119) (ls' := [some (.ref (77)), some (.int (a1)), some (.int (M 82 (M 77 15).toNatClampNeg))]) (st' := [.ref (77), .ref (83)]) rfl rfl ?_
                          refine Rc.getI tb_185 rfl rfl ob_77 (by decide +kernel) tg_77_15 ?_
                          by_cases hb16 : inb (M 77 15) 90 = true
                          · rw [if_pos hb16] at h
                            refine Rc.iald tb_185 rfl rfl ia_83 hb16 ?_
                            refine Rc.run tb_185 1 (pc' := 124) (ls' := [some (.ref (77)), some (.int (a1)), some (.int (M 82 (M 77 15).toNatClampNeg))]) (st' := [.int (2), .int (M 83 (M 77 15).toNatClampNeg)]) rfl rfl ?_
                            have hq15 := T_152 (X := X) (d := d) (by omega) (M 83 (M 77 15).toNatClampNeg) (2 : Int32) M
                            refine Rc.callS tb_185 rfl rfl rfl mS_152 mP_152 mL_152 rfl rfl rfl hq15 ?_
                            refine Rc.run tb_185 1 (pc' := 143) (ls' := [some (.ref (77)), some (.int (a1)), some (.int (M 82 (M 77 15).toNatClampNeg))]) (st' := [.int (F_152 (M 83 (M 77 15).toNatClampNeg) (2 : Int32))]) rfl rfl ?_
                            obtain rfl := Option.some.inj h
                            obtain ⟨rfl, rfl⟩ := hC
                            exact Rc.iret (ins := .ireturn) tb_185 rfl mR_185
                          · rw [if_neg hb16] at h
                            cases h
                      · rw [if_neg hb18] at h
                        cases h
                    · rw [if_neg hk10] at h
                      refine Rc.table (off := 133) (pc1 := 144) tb_185 rfl rfl (by decide) (tsw_df [0, 1, 2, 3, 4, 5, 6, 7, 8] (by decide +kernel) (fun k hk => by simp only [List.mem_cons, List.not_mem_nil, or_false] at hk; rcases hk with rfl | rfl | rfl | rfl | rfl | rfl | rfl | rfl | rfl <;> assumption)) (by decide) (by decide) ?_
                      refine Rc.run tb_185 1 (pc' := 145) (ls' := [some (.ref (77)), some (.int (a1)), some (.int (M 82 (M 77 15).toNatClampNeg))]) (st' := [.ref (77)]) rfl rfl ?_
                      refine Rc.getR tb_185 rfl rfl ob_77 (by decide +kernel) tg_77_7 (by decide) ?_
                      refine Rc.run tb_185 1 (pc' := 149) (ls' := [some (.ref (77)), some (.int (a1)), some (.int (M 82 (M 77 15).toNatClampNeg))]) (st' := [.ref (77), .ref (84)]) rfl rfl ?_
                      refine Rc.getI tb_185 rfl rfl ob_77 (by decide +kernel) tg_77_15 ?_
                      by_cases hb1 : inb (M 77 15) 90 = true
                      · rw [if_pos hb1] at h
                        refine Rc.iald tb_185 rfl rfl ia_84 hb1 ?_
                        obtain rfl := Option.some.inj h
                        obtain ⟨rfl, rfl⟩ := hC
                        exact Rc.iret (ins := .ireturn) tb_185 rfl mR_185
                      · rw [if_neg hb1] at h
                        cases h
  · rw [if_neg hb25] at h
    cases h
theorem T_185 {X : AX} {d : Nat} (hd : 3 ≤ d) {a1 : Int32} {M : IM} {x : Int32} (h : F_185 a1 M = some x) : Rc X d 185 0 [some (.ref (77)), some (.int (a1)), none] [] M (some (.int x)) M := TF_185 hd h ⟨rfl, rfl⟩
/-! 186: NineDemandsModel.done -/
def F_186 (a1 : Int32) (a2 : Int32) (a3 : Int32) : Option (Int32) := if a1 = 20000 then (if a2 = 0 then (if a3 = 0 then (some (0)) else (some (1))) else (some (1))) else (if a1 = 20001 then (if a2 = 0 then (some (0)) else (if a3 = 0 then (some (0)) else (some (1)))) else (if a1 = 20002 then (if a3 ≤ a2 then (some (0)) else (some (1))) else (if a1 = 20003 then (if a2 = a3 then (some (1)) else (some (0))) else (if a1 = 20004 then (if a2 ≤ a3 then (some (0)) else (some (1))) else (if a1 = 20005 then (some (a2 + a3)) else (if a1 = 20006 then (some (a2 - a3)) else (if a1 = 20007 then (some (a2 * a3)) else (if a1 = 20008 then (if a3 = 0 then (some (0)) else (if a3 = 0 then none else (some (a2 / a3)))) else (if a3 = 0 then (some (0)) else (if a3 = 0 then none else (some (a2 - a2 / a3 * a3))))))))))))
theorem TF_186 {X : AX} {d : Nat} (hd : 0 ≤ d) {a1 : Int32} {a2 : Int32} {a3 : Int32} {M : IM} {v : Option Value} {M' : IM} {o : Int32} (h : F_186 a1 a2 a3 = some o) (hC : v = some (.int o) ∧ M' = M) : Rc X d 186 0 [some (.int (a1)), some (.int (a2)), some (.int (a3))] [] M v M' := by
  unfold F_186 at h
  refine Rc.run tb_186 1 (pc' := 1) (ls' := [some (.int (a1)), some (.int (a2)), some (.int (a3))]) (st' := [.int (a1)]) rfl rfl ?_
  by_cases hk3 : a1 = 20000
  · rw [if_pos hk3] at h
    refine Rc.table (off := 51) (pc1 := 52) tb_186 rfl rfl (by decide) (tsw_at (k := 20000) (by rw [hk3]; decide) (by decide +kernel)) (by decide) (by decide) ?_
    refine Rc.run tb_186 1 (pc' := 53) (ls' := [some (.int (a1)), some (.int (a2)), some (.int (a3))]) (st' := [.int (a2)]) rfl rfl ?_
    refine Rc.if_ne (pc1 := 60) tb_186 rfl rfl (by decide) (by decide) (fun hb20 => ?_) (fun hb20 => ?_)
    · rw [if_pos hb20] at h
      refine Rc.run tb_186 1 (pc' := 57) (ls' := [some (.int (a1)), some (.int (a2)), some (.int (a3))]) (st' := [.int (a3)]) rfl rfl ?_
      refine Rc.if_eq (pc1 := 64) tb_186 rfl rfl (by decide) (by decide) (fun hb19 => ?_) (fun hb19 => ?_)
      · rw [if_pos hb19] at h
        refine Rc.run tb_186 1 (pc' := 65) (ls' := [some (.int (a1)), some (.int (a2)), some (.int (a3))]) (st' := [.int (0)]) rfl rfl ?_
        obtain rfl := Option.some.inj h
        obtain ⟨rfl, rfl⟩ := hC
        exact Rc.iret (ins := .ireturn) tb_186 rfl mR_186
      · rw [if_neg hb19] at h
        refine Rc.run tb_186 2 (pc' := 65) (ls' := [none, none, none]) (st' := [.int (1)]) rfl rfl ?_
        obtain rfl := Option.some.inj h
        obtain ⟨rfl, rfl⟩ := hC
        exact Rc.iret (ins := .ireturn) tb_186 rfl mR_186
    · rw [if_neg hb20] at h
      refine Rc.run tb_186 2 (pc' := 65) (ls' := [none, none, none]) (st' := [.int (1)]) rfl rfl ?_
      obtain rfl := Option.some.inj h
      obtain ⟨rfl, rfl⟩ := hC
      exact Rc.iret (ins := .ireturn) tb_186 rfl mR_186
  · rw [if_neg hk3] at h
    by_cases hk4 : a1 = 20001
    · rw [if_pos hk4] at h
      refine Rc.table (off := 65) (pc1 := 66) tb_186 rfl rfl (by decide) (tsw_at (k := 20001) (by rw [hk4]; decide) (by decide +kernel)) (by decide) (by decide) ?_
      refine Rc.run tb_186 1 (pc' := 67) (ls' := [some (.int (a1)), some (.int (a2)), some (.int (a3))]) (st' := [.int (a2)]) rfl rfl ?_
      refine Rc.if_eq (pc1 := 78) tb_186 rfl rfl (by decide) (by decide) (fun hb18 => ?_) (fun hb18 => ?_)
      · rw [if_pos hb18] at h
        refine Rc.run tb_186 1 (pc' := 79) (ls' := [none, none, none]) (st' := [.int (0)]) rfl rfl ?_
        obtain rfl := Option.some.inj h
        obtain ⟨rfl, rfl⟩ := hC
        exact Rc.iret (ins := .ireturn) tb_186 rfl mR_186
      · rw [if_neg hb18] at h
        refine Rc.run tb_186 1 (pc' := 71) (ls' := [some (.int (a1)), some (.int (a2)), some (.int (a3))]) (st' := [.int (a3)]) rfl rfl ?_
        refine Rc.if_eq (pc1 := 78) tb_186 rfl rfl (by decide) (by decide) (fun hb17 => ?_) (fun hb17 => ?_)
        · rw [if_pos hb17] at h
          refine Rc.run tb_186 1 (pc' := 79) (ls' := [none, none, none]) (st' := [.int (0)]) rfl rfl ?_
          obtain rfl := Option.some.inj h
          obtain ⟨rfl, rfl⟩ := hC
          exact Rc.iret (ins := .ireturn) tb_186 rfl mR_186
        · rw [if_neg hb17] at h
          refine Rc.run tb_186 2 (pc' := 79) (ls' := [some (.int (a1)), some (.int (a2)), some (.int (a3))]) (st' := [.int (1)]) rfl rfl ?_
          obtain rfl := Option.some.inj h
          obtain ⟨rfl, rfl⟩ := hC
          exact Rc.iret (ins := .ireturn) tb_186 rfl mR_186
    · rw [if_neg hk4] at h
      by_cases hk5 : a1 = 20002
      · rw [if_pos hk5] at h
        refine Rc.table (off := 79) (pc1 := 80) tb_186 rfl rfl (by decide) (tsw_at (k := 20002) (by rw [hk5]; decide) (by decide +kernel)) (by decide) (by decide) ?_
        refine Rc.run tb_186 2 (pc' := 82) (ls' := [some (.int (a1)), some (.int (a2)), some (.int (a3))]) (st' := [.int (a3), .int (a2)]) rfl rfl ?_
        refine Rc.icmp_ge (pc1 := 89) tb_186 rfl rfl (by decide) (by decide) (fun hb16 => ?_) (fun hb16 => ?_)
        · rw [if_pos hb16] at h
          refine Rc.run tb_186 1 (pc' := 90) (ls' := [some (.int (a1)), some (.int (a2)), some (.int (a3))]) (st' := [.int (0)]) rfl rfl ?_
          obtain rfl := Option.some.inj h
          obtain ⟨rfl, rfl⟩ := hC
          exact Rc.iret (ins := .ireturn) tb_186 rfl mR_186
        · rw [if_neg hb16] at h
          refine Rc.run tb_186 2 (pc' := 90) (ls' := [some (.int (a1)), some (.int (a2)), some (.int (a3))]) (st' := [.int (1)]) rfl rfl ?_
          obtain rfl := Option.some.inj h
          obtain ⟨rfl, rfl⟩ := hC
          exact Rc.iret (ins := .ireturn) tb_186 rfl mR_186
      · rw [if_neg hk5] at h
        by_cases hk6 : a1 = 20003
        · rw [if_pos hk6] at h
          refine Rc.table (off := 90) (pc1 := 91) tb_186 rfl rfl (by decide) (tsw_at (k := 20003) (by rw [hk6]; decide) (by decide +kernel)) (by decide) (by decide) ?_
          refine Rc.run tb_186 2 (pc' := 93) (ls' := [some (.int (a1)), some (.int (a2)), some (.int (a3))]) (st' := [.int (a3), .int (a2)]) rfl rfl ?_
          refine Rc.icmp_ne (pc1 := 100) tb_186 rfl rfl (by decide) (by decide) (fun hb15 => ?_) (fun hb15 => ?_)
          · rw [if_pos hb15] at h
            refine Rc.run tb_186 2 (pc' := 101) (ls' := [some (.int (a1)), some (.int (a2)), some (.int (a3))]) (st' := [.int (1)]) rfl rfl ?_
            obtain rfl := Option.some.inj h
            obtain ⟨rfl, rfl⟩ := hC
            exact Rc.iret (ins := .ireturn) tb_186 rfl mR_186
          · rw [if_neg hb15] at h
            refine Rc.run tb_186 1 (pc' := 101) (ls' := [some (.int (a1)), some (.int (a2)), some (.int (a3))]) (st' := [.int (0)]) rfl rfl ?_
            obtain rfl := Option.some.inj h
            obtain ⟨rfl, rfl⟩ := hC
            exact Rc.iret (ins := .ireturn) tb_186 rfl mR_186
        · rw [if_neg hk6] at h
          by_cases hk7 : a1 = 20004
          · rw [if_pos hk7] at h
            refine Rc.table (off := 101) (pc1 := 102) tb_186 rfl rfl (by decide) (tsw_at (k := 20004) (by rw [hk7]; decide) (by decide +kernel)) (by decide) (by decide) ?_
            refine Rc.run tb_186 2 (pc' := 104) (ls' := [some (.int (a1)), some (.int (a2)), some (.int (a3))]) (st' := [.int (a3), .int (a2)]) rfl rfl ?_
            refine Rc.icmp_le (pc1 := 111) tb_186 rfl rfl (by decide) (by decide) (fun hb14 => ?_) (fun hb14 => ?_)
            · rw [if_pos hb14] at h
              refine Rc.run tb_186 1 (pc' := 112) (ls' := [some (.int (a1)), some (.int (a2)), some (.int (a3))]) (st' := [.int (0)]) rfl rfl ?_
              obtain rfl := Option.some.inj h
              obtain ⟨rfl, rfl⟩ := hC
              exact Rc.iret (ins := .ireturn) tb_186 rfl mR_186
            · rw [if_neg hb14] at h
              refine Rc.run tb_186 2 (pc' := 112) (ls' := [some (.int (a1)), some (.int (a2)), some (.int (a3))]) (st' := [.int (1)]) rfl rfl ?_
              obtain rfl := Option.some.inj h
              obtain ⟨rfl, rfl⟩ := hC
              exact Rc.iret (ins := .ireturn) tb_186 rfl mR_186
          · rw [if_neg hk7] at h
            by_cases hk8 : a1 = 20005
            · rw [if_pos hk8] at h
              refine Rc.table (off := 112) (pc1 := 113) tb_186 rfl rfl (by decide) (tsw_at (k := 20005) (by rw [hk8]; decide) (by decide +kernel)) (by decide) (by decide) ?_
              refine Rc.run tb_186 3 (pc' := 116) (ls' := [some (.int (a1)), some (.int (a2)), some (.int (a3))]) (st' := [.int (a2 + a3)]) rfl rfl ?_
              obtain rfl := Option.some.inj h
              obtain ⟨rfl, rfl⟩ := hC
              exact Rc.iret (ins := .ireturn) tb_186 rfl mR_186
            · rw [if_neg hk8] at h
              by_cases hk9 : a1 = 20006
              · rw [if_pos hk9] at h
                refine Rc.table (off := 116) (pc1 := 117) tb_186 rfl rfl (by decide) (tsw_at (k := 20006) (by rw [hk9]; decide) (by decide +kernel)) (by decide) (by decide) ?_
                refine Rc.run tb_186 3 (pc' := 120) (ls' := [some (.int (a1)), some (.int (a2)), some (.int (a3))]) (st' := [.int (a2 - a3)]) rfl rfl ?_
                obtain rfl := Option.some.inj h
                obtain ⟨rfl, rfl⟩ := hC
                exact Rc.iret (ins := .ireturn) tb_186 rfl mR_186
              · rw [if_neg hk9] at h
                by_cases hk10 : a1 = 20007
                · rw [if_pos hk10] at h
                  refine Rc.table (off := 120) (pc1 := 121) tb_186 rfl rfl (by decide) (tsw_at (k := 20007) (by rw [hk10]; decide) (by decide +kernel)) (by decide) (by decide) ?_
                  refine Rc.run tb_186 3 (pc' := 124) (ls' := [some (.int (a1)), some (.int (a2)), some (.int (a3))]) (st' := [.int (a2 * a3)]) rfl rfl ?_
                  obtain rfl := Option.some.inj h
                  obtain ⟨rfl, rfl⟩ := hC
                  exact Rc.iret (ins := .ireturn) tb_186 rfl mR_186
                · rw [if_neg hk10] at h
                  by_cases hk11 : a1 = 20008
                  · rw [if_pos hk11] at h
                    refine Rc.table (off := 124) (pc1 := 125) tb_186 rfl rfl (by decide) (tsw_at (k := 20008) (by rw [hk11]; decide) (by decide +kernel)) (by decide) (by decide) ?_
                    refine Rc.run tb_186 1 (pc' := 126) (ls' := [some (.int (a1)), some (.int (a2)), some (.int (a3))]) (st' := [.int (a3)]) rfl rfl ?_
                    refine Rc.if_ne (pc1 := 133) tb_186 rfl rfl (by decide) (by decide) (fun hb13 => ?_) (fun hb13 => ?_)
                    · rw [if_pos hb13] at h
                      refine Rc.run tb_186 2 (pc' := 136) (ls' := [some (.int (a1)), some (.int (a2)), some (.int (a3))]) (st' := [.int (0)]) rfl rfl ?_
                      obtain rfl := Option.some.inj h
                      obtain ⟨rfl, rfl⟩ := hC
                      exact Rc.iret (ins := .ireturn) tb_186 rfl mR_186
                    · rw [if_neg hb13] at h
                      refine Rc.run tb_186 2 (pc' := 135) (ls' := [some (.int (a1)), some (.int (a2)), some (.int (a3))]) (st' := [.int (a3), .int (a2)]) rfl rfl ?_
                      by_cases hb12 : a3 = 0
                      · rw [if_pos hb12] at h
                        cases h
                      · rw [if_neg hb12] at h
                        refine Rc.idiv tb_186 rfl rfl hb12 ?_
                        obtain rfl := Option.some.inj h
                        obtain ⟨rfl, rfl⟩ := hC
                        exact Rc.iret (ins := .ireturn) tb_186 rfl mR_186
                  · rw [if_neg hk11] at h
                    refine Rc.table (off := 136) (pc1 := 137) tb_186 rfl rfl (by decide) (tsw_df [20000, 20001, 20002, 20003, 20004, 20005, 20006, 20007, 20008] (by decide +kernel) (fun k hk => by simp only [List.mem_cons, List.not_mem_nil, or_false] at hk; rcases hk with rfl | rfl | rfl | rfl | rfl | rfl | rfl | rfl | rfl <;> assumption)) (by decide) (by decide) ?_
                    refine Rc.run tb_186 1 (pc' := 138) (ls' := [some (.int (a1)), some (.int (a2)), some (.int (a3))]) (st' := [.int (a3)]) rfl rfl ?_
                    refine Rc.if_ne (pc1 := 145) tb_186 rfl rfl (by decide) (by decide) (fun hb2 => ?_) (fun hb2 => ?_)
                    · rw [if_pos hb2] at h
                      refine Rc.run tb_186 2 (pc' := 148) (ls' := [some (.int (a1)), some (.int (a2)), some (.int (a3))]) (st' := [.int (0)]) rfl rfl ?_
                      obtain rfl := Option.some.inj h
                      obtain ⟨rfl, rfl⟩ := hC
                      exact Rc.iret (ins := .ireturn) tb_186 rfl mR_186
                    · rw [if_neg hb2] at h
                      refine Rc.run tb_186 2 (pc' := 147) (ls' := [some (.int (a1)), some (.int (a2)), some (.int (a3))]) (st' := [.int (a3), .int (a2)]) rfl rfl ?_
                      by_cases hb1 : a3 = 0
                      · rw [if_pos hb1] at h
                        cases h
                      · rw [if_neg hb1] at h
                        refine Rc.irem tb_186 rfl rfl hb1 ?_
                        obtain rfl := Option.some.inj h
                        obtain ⟨rfl, rfl⟩ := hC
                        exact Rc.iret (ins := .ireturn) tb_186 rfl mR_186
theorem T_186 {X : AX} {d : Nat} (hd : 0 ≤ d) {a1 : Int32} {a2 : Int32} {a3 : Int32} {M : IM} {x : Int32} (h : F_186 a1 a2 a3 = some x) : Rc X d 186 0 [some (.int (a1)), some (.int (a2)), some (.int (a3))] [] M (some (.int x)) M := TF_186 hd h ⟨rfl, rfl⟩
/-! 187: NineDemandsModel.isText -/
def J_187_121_4 (x1 : Int32) (x2 : Int32) (M : IM) : Option ((Int32 × Int32 × IM) ⊕ (Int32 × Int32 × IM)) := some (Sum.inl (x1, x2 + 1, M))
def J_187_88_4 (x1 : Int32) (x2 : Int32) (s0 : Int32) (s1 : Int32) (M : IM) : Option ((Int32 × Int32 × IM) ⊕ (Int32 × Int32 × IM)) := if inb s1 60 = true then (J_187_121_4 x1 x2 (iset M 86 s1.toNatClampNeg s0)) else none
def J_187_51_4 (x1 : Int32) (x2 : Int32) (s0 : Int32) (s1 : Int32) (M : IM) : Option ((Int32 × Int32 × IM) ⊕ (Int32 × Int32 × IM)) := if inb s1 60 = true then (J_187_121_4 (x1 + 1) x2 (iset M 86 s1.toNatClampNeg s0)) else none
def B_187_4 : (Int32 × Int32 × IM) → Option ((Int32 × Int32 × IM) ⊕ (Int32 × Int32 × IM)) := fun (x1, x2, M) => if M 77 14 ≤ x2 then (some (Sum.inr (x1, x2, M))) else (if inb x2 60 = true then (if (20000 : Int32) ≤ M 85 x2.toNatClampNeg then (if M 85 x2.toNatClampNeg = 20010 then (if inb (x1 - 1) 60 = true then (if M 86 (x1 - 1).toNatClampNeg = 0 then (J_187_88_4 x1 x2 (1 : Int32) (x1 - 1) M) else (J_187_88_4 x1 x2 (0 : Int32) (x1 - 1) M)) else none) else (if inb ((x1 + (-1)) - 1) 60 = true then (if inb (x1 + (-1)) 60 = true then (match F_186 (M 85 x2.toNatClampNeg) (M 86 ((x1 + (-1)) - 1).toNatClampNeg) (M 86 (x1 + (-1)).toNatClampNeg) with | none => none | some c4 => (if inb ((x1 + (-1)) - 1) 60 = true then (J_187_121_4 (x1 + (-1)) x2 (iset M 86 ((x1 + (-1)) - 1).toNatClampNeg c4)) else none)) else none) else none)) else (if (10000 : Int32) ≤ M 85 x2.toNatClampNeg then (match F_185 ((M 85 x2.toNatClampNeg) - 10000) M with | none => none | some c9 => (J_187_51_4 x1 x2 c9 x1 M)) else (J_187_51_4 x1 x2 (M 85 x2.toNatClampNeg) x1 M))) else none)
def L_187_4 (x1 : Int32) (x2 : Int32) (M : IM) : Option (Int32 × Int32 × IM) := loopN (B_187_4) FU (x1, x2, M)
def J_187_127 (M : IM) : Option (Int32 × IM) := if M 86 (0 : Int32).toNatClampNeg = 0 then (some ((0, M))) else (some ((1, M)))
def F_187 (M : IM) : Option (Int32 × IM) := (match L_187_4 0 0 M with | none => none | some (x1_15, x2_15, M15) => (J_187_127 M15))
theorem TJ_187_121_4 {X : AX} {d : Nat} (hd : 4 ≤ d) {x1 : Int32} {x2 : Int32} {M : IM} {v : Option Value} {M' : IM} {o : (Int32 × Int32 × IM) ⊕ (Int32 × Int32 × IM)} (h : J_187_121_4 x1 x2 M = some o) (hP : ∀ s', o = .inl s' → (fun (x1, x2, M) => Rc X d 187 4 [some (.ref (77)), some (.int (x1)), some (.int (x2)), none] [] M v M') s') (hE : ∀ r, o = .inr r → (fun (x1, x2, M) => Rc X d 187 127 [some (.ref (77)), none, none, none] [] M v M') r) : Rc X d 187 121 [some (.ref (77)), some (.int (x1)), some (.int (x2)), none] [] M v M' := by
  obtain ⟨d, rfl⟩ : ∃ e, d = e + 1 := ⟨d - 1, by omega⟩
  unfold J_187_121_4 at h
  dsimp only at hP hE
  refine Rc.run tb_187 2 (pc' := 4) (ls' := [some (.ref (77)), some (.int (x1)), some (.int (x2 + 1)), none]) (st' := []) rfl rfl ?_
  refine Rc.mask (b := 7) ((tb_187.2 4).trans rfl) (ls' := [some (.ref (77)), some (.int (x1)), some (.int (x2 + 1)), none]) rfl ?_
  obtain rfl := Option.some.inj h
  exact hP _ rfl
theorem TJ_187_88_4 {X : AX} {d : Nat} (hd : 4 ≤ d) {x1 : Int32} {x2 : Int32} {s0 : Int32} {s1 : Int32} {M : IM} (hs0 : s0 = 0 ∨ s0 = 1) {v : Option Value} {M' : IM} {o : (Int32 × Int32 × IM) ⊕ (Int32 × Int32 × IM)} (h : J_187_88_4 x1 x2 s0 s1 M = some o) (hP : ∀ s', o = .inl s' → (fun (x1, x2, M) => Rc X d 187 4 [some (.ref (77)), some (.int (x1)), some (.int (x2)), none] [] M v M') s') (hE : ∀ r, o = .inr r → (fun (x1, x2, M) => Rc X d 187 127 [some (.ref (77)), none, none, none] [] M v M') r) : Rc X d 187 88 [some (.ref (77)), some (.int (x1)), some (.int (x2)), none] [.int (s0), .int (s1), .ref (86)] M v M' := by
  obtain ⟨d, rfl⟩ : ∃ e, d = e + 1 := ⟨d - 1, by omega⟩
  unfold J_187_88_4 at h
  dsimp only at hP hE
  by_cases hb1 : inb s1 60 = true
  · rw [if_pos hb1] at h
    refine Rc.iast tb_187 rfl rfl ia_86 hb1 ?_
    refine Rc.run tb_187 1 (pc' := 121) (ls' := [some (.ref (77)), some (.int (x1)), some (.int (x2)), none]) (st' := []) rfl rfl ?_
    refine Rc.mask (b := 7) ((tb_187.2 121).trans rfl) (ls' := [some (.ref (77)), some (.int (x1)), some (.int (x2)), none]) rfl ?_
    exact TJ_187_121_4 (X := X) (d := d + 1) (by omega) h hP hE
  · rw [if_neg hb1] at h
    cases h
theorem TJ_187_51_4 {X : AX} {d : Nat} (hd : 4 ≤ d) {x1 : Int32} {x2 : Int32} {s0 : Int32} {s1 : Int32} {M : IM} {v : Option Value} {M' : IM} {o : (Int32 × Int32 × IM) ⊕ (Int32 × Int32 × IM)} (h : J_187_51_4 x1 x2 s0 s1 M = some o) (hP : ∀ s', o = .inl s' → (fun (x1, x2, M) => Rc X d 187 4 [some (.ref (77)), some (.int (x1)), some (.int (x2)), none] [] M v M') s') (hE : ∀ r, o = .inr r → (fun (x1, x2, M) => Rc X d 187 127 [some (.ref (77)), none, none, none] [] M v M') r) : Rc X d 187 51 [some (.ref (77)), some (.int (x1)), some (.int (x2)), none] [.int (s0), .int (s1), .ref (86)] M v M' := by
  obtain ⟨d, rfl⟩ : ∃ e, d = e + 1 := ⟨d - 1, by omega⟩
  unfold J_187_51_4 at h
  dsimp only at hP hE
  by_cases hb10 : inb s1 60 = true
  · rw [if_pos hb10] at h
    refine Rc.iast tb_187 rfl rfl ia_86 hb10 ?_
    refine Rc.run tb_187 2 (pc' := 121) (ls' := [some (.ref (77)), some (.int (x1 + 1)), some (.int (x2)), none]) (st' := []) rfl rfl ?_
    refine Rc.mask (b := 7) ((tb_187.2 121).trans rfl) (ls' := [some (.ref (77)), some (.int (x1 + 1)), some (.int (x2)), none]) rfl ?_
    exact TJ_187_121_4 (X := X) (d := d + 1) (by omega) h hP hE
  · rw [if_neg hb10] at h
    cases h
theorem TB_187_4 {X : AX} {d : Nat} (hd : 4 ≤ d) {v : Option Value} {M' : IM} : ∀ (s : Int32 × Int32 × IM) (o : (Int32 × Int32 × IM) ⊕ (Int32 × Int32 × IM)), B_187_4 s = some o → (∀ s', o = .inl s' → (fun (x1, x2, M) => Rc X d 187 4 [some (.ref (77)), some (.int (x1)), some (.int (x2)), none] [] M v M') s') → (∀ r, o = .inr r → (fun (x1, x2, M) => Rc X d 187 127 [some (.ref (77)), none, none, none] [] M v M') r) → (fun (x1, x2, M) => Rc X d 187 4 [some (.ref (77)), some (.int (x1)), some (.int (x2)), none] [] M v M') s := by
  rintro ⟨x1, x2, M⟩ o h hP hE
  show Rc X d 187 4 [some (.ref (77)), some (.int (x1)), some (.int (x2)), none] [] M v M'
  obtain ⟨d, rfl⟩ : ∃ e, d = e + 1 := ⟨d - 1, by omega⟩
  unfold B_187_4 at h
  dsimp only at h hP hE
  refine Rc.run tb_187 2 (pc' := 6) (ls' := [some (.ref (77)), some (.int (x1)), some (.int (x2)), none]) (st' := [.ref (77), .int (x2)]) rfl rfl ?_
  refine Rc.getI tb_187 rfl rfl ob_77 (by decide +kernel) tg_77_14 ?_
  refine Rc.icmp_ge (pc1 := 127) tb_187 rfl rfl (by decide) (by decide) (fun hb14 => ?_) (fun hb14 => ?_)
  · rw [if_pos hb14] at h
    refine Rc.mask (b := 1) ((tb_187.2 127).trans rfl) (ls' := [some (.ref (77)), none, none, none]) rfl ?_
    obtain rfl := Option.some.inj h
    exact hE _ rfl
  · rw [if_neg hb14] at h
    refine Rc.run tb_187 1 (pc' := 13) (ls' := [some (.ref (77)), some (.int (x1)), some (.int (x2)), none]) (st' := [.ref (77)]) rfl rfl ?_
    refine Rc.getR tb_187 rfl rfl ob_77 (by decide +kernel) tg_77_13 (by decide) ?_
    refine Rc.run tb_187 1 (pc' := 17) (ls' := [some (.ref (77)), some (.int (x1)), some (.int (x2)), none]) (st' := [.int (x2), .ref (85)]) rfl rfl ?_
    by_cases hb13 : inb x2 60 = true
    · rw [if_pos hb13] at h
      refine Rc.iald tb_187 rfl rfl ia_85 hb13 ?_
      refine Rc.run tb_187 3 (pc' := 23) (ls' := [some (.ref (77)), some (.int (x1)), some (.int (x2)), some (.int (M 85 x2.toNatClampNeg))]) (st' := [.int (20000), .int (M 85 x2.toNatClampNeg)]) rfl rfl ?_
      refine Rc.icmp_ge (pc1 := 58) tb_187 rfl rfl (by decide) (by decide) (fun hb12 => ?_) (fun hb12 => ?_)
      · rw [if_pos hb12] at h
        refine Rc.run tb_187 2 (pc' := 62) (ls' := [some (.ref (77)), some (.int (x1)), some (.int (x2)), some (.int (M 85 x2.toNatClampNeg))]) (st' := [.int (20010), .int (M 85 x2.toNatClampNeg)]) rfl rfl ?_
        refine Rc.icmp_ne (pc1 := 92) tb_187 rfl rfl (by decide) (by decide) (fun hb8 => ?_) (fun hb8 => ?_)
        · rw [if_pos hb8] at h
          refine Rc.run tb_187 1 (pc' := 66) (ls' := [some (.ref (77)), some (.int (x1)), some (.int (x2)), some (.int (M 85 x2.toNatClampNeg))]) (st' := [.ref (77)]) rfl rfl ?_
          refine Rc.getR tb_187 rfl rfl ob_77 (by decide +kernel) tg_77_18 (by decide) ?_
          refine Rc.run tb_187 4 (pc' := 73) (ls' := [some (.ref (77)), some (.int (x1)), some (.int (x2)), some (.int (M 85 x2.toNatClampNeg))]) (st' := [.ref (77), .int (x1 - 1), .ref (86)]) rfl rfl ?_
          refine Rc.getR tb_187 rfl rfl ob_77 (by decide +kernel) tg_77_18 (by decide) ?_
          refine Rc.run tb_187 3 (pc' := 79) (ls' := [some (.ref (77)), some (.int (x1)), some (.int (x2)), some (.int (M 85 x2.toNatClampNeg))]) (st' := [.int (x1 - 1), .ref (86), .int (x1 - 1), .ref (86)]) rfl rfl ?_
          by_cases hb3 : inb (x1 - 1) 60 = true
          · rw [if_pos hb3] at h
            refine Rc.iald tb_187 rfl rfl ia_86 hb3 ?_
            refine Rc.if_ne (pc1 := 87) tb_187 rfl rfl (by decide) (by decide) (fun hb2 => ?_) (fun hb2 => ?_)
            · rw [if_pos hb2] at h
              refine Rc.run tb_187 2 (pc' := 88) (ls' := [some (.ref (77)), some (.int (x1)), some (.int (x2)), some (.int (M 85 x2.toNatClampNeg))]) (st' := [.int (1), .int (x1 - 1), .ref (86)]) rfl rfl ?_
              refine Rc.mask (b := 7) ((tb_187.2 88).trans rfl) (ls' := [some (.ref (77)), some (.int (x1)), some (.int (x2)), none]) rfl ?_
              exact TJ_187_88_4 (X := X) (d := d + 1) (by omega) (Or.inr rfl) h hP hE
            · rw [if_neg hb2] at h
              refine Rc.run tb_187 1 (pc' := 88) (ls' := [some (.ref (77)), some (.int (x1)), some (.int (x2)), some (.int (M 85 x2.toNatClampNeg))]) (st' := [.int (0), .int (x1 - 1), .ref (86)]) rfl rfl ?_
              refine Rc.mask (b := 7) ((tb_187.2 88).trans rfl) (ls' := [some (.ref (77)), some (.int (x1)), some (.int (x2)), none]) rfl ?_
              exact TJ_187_88_4 (X := X) (d := d + 1) (by omega) (Or.inl rfl) h hP hE
          · rw [if_neg hb3] at h
            cases h
        · rw [if_neg hb8] at h
          refine Rc.run tb_187 2 (pc' := 96) (ls' := [some (.ref (77)), some (.int (x1 + (-1))), some (.int (x2)), some (.int (M 85 x2.toNatClampNeg))]) (st' := [.ref (77)]) rfl rfl ?_
          refine Rc.getR tb_187 rfl rfl ob_77 (by decide +kernel) tg_77_18 (by decide) ?_
          refine Rc.run tb_187 5 (pc' := 104) (ls' := [some (.ref (77)), some (.int (x1 + (-1))), some (.int (x2)), some (.int (M 85 x2.toNatClampNeg))]) (st' := [.ref (77), .int (M 85 x2.toNatClampNeg), .int ((x1 + (-1)) - 1), .ref (86)]) rfl rfl ?_
          refine Rc.getR tb_187 rfl rfl ob_77 (by decide +kernel) tg_77_18 (by decide) ?_
          refine Rc.run tb_187 3 (pc' := 110) (ls' := [some (.ref (77)), some (.int (x1 + (-1))), some (.int (x2)), some (.int (M 85 x2.toNatClampNeg))]) (st' := [.int ((x1 + (-1)) - 1), .ref (86), .int (M 85 x2.toNatClampNeg), .int ((x1 + (-1)) - 1), .ref (86)]) rfl rfl ?_
          by_cases hb7 : inb ((x1 + (-1)) - 1) 60 = true
          · rw [if_pos hb7] at h
            refine Rc.iald tb_187 rfl rfl ia_86 hb7 ?_
            refine Rc.run tb_187 1 (pc' := 112) (ls' := [some (.ref (77)), some (.int (x1 + (-1))), some (.int (x2)), some (.int (M 85 x2.toNatClampNeg))]) (st' := [.ref (77), .int (M 86 ((x1 + (-1)) - 1).toNatClampNeg), .int (M 85 x2.toNatClampNeg), .int ((x1 + (-1)) - 1), .ref (86)]) rfl rfl ?_
            refine Rc.getR tb_187 rfl rfl ob_77 (by decide +kernel) tg_77_18 (by decide) ?_
            refine Rc.run tb_187 1 (pc' := 116) (ls' := [some (.ref (77)), some (.int (x1 + (-1))), some (.int (x2)), some (.int (M 85 x2.toNatClampNeg))]) (st' := [.int (x1 + (-1)), .ref (86), .int (M 86 ((x1 + (-1)) - 1).toNatClampNeg), .int (M 85 x2.toNatClampNeg), .int ((x1 + (-1)) - 1), .ref (86)]) rfl rfl ?_
            by_cases hb6 : inb (x1 + (-1)) 60 = true
            · rw [if_pos hb6] at h
              refine Rc.iald tb_187 rfl rfl ia_86 hb6 ?_
              cases hc4 : F_186 (M 85 x2.toNatClampNeg) (M 86 ((x1 + (-1)) - 1).toNatClampNeg) (M 86 (x1 + (-1)).toNatClampNeg) with
              | none => rw [hc4] at h; cases h
              | some c4 =>
                rw [hc4] at h
                dsimp only at h
                have hq4 := T_186 (X := X) (d := d) (by omega) (M := M) hc4
                refine Rc.callS tb_187 rfl rfl rfl mS_186 mP_186 mL_186 rfl rfl rfl hq4 ?_
                by_cases hb5 : inb ((x1 + (-1)) - 1) 60 = true
                · rw [if_pos hb5] at h
                  refine Rc.iast tb_187 rfl rfl ia_86 hb5 ?_
                  refine Rc.mask (b := 7) ((tb_187.2 121).trans rfl) (ls' := [some (.ref (77)), some (.int (x1 + (-1))), some (.int (x2)), none]) rfl ?_
                  exact TJ_187_121_4 (X := X) (d := d + 1) (by omega) h hP hE
                · rw [if_neg hb5] at h
                  cases h
            · rw [if_neg hb6] at h
              cases h
          · rw [if_neg hb7] at h
            cases h
      · rw [if_neg hb12] at h
        refine Rc.run tb_187 1 (pc' := 27) (ls' := [some (.ref (77)), some (.int (x1)), some (.int (x2)), some (.int (M 85 x2.toNatClampNeg))]) (st' := [.ref (77)]) rfl rfl ?_
        refine Rc.getR tb_187 rfl rfl ob_77 (by decide +kernel) tg_77_18 (by decide) ?_
        refine Rc.run tb_187 3 (pc' := 35) (ls' := [some (.ref (77)), some (.int (x1)), some (.int (x2)), some (.int (M 85 x2.toNatClampNeg))]) (st' := [.int (10000), .int (M 85 x2.toNatClampNeg), .int (x1), .ref (86)]) rfl rfl ?_
        refine Rc.icmp_ge (pc1 := 42) tb_187 rfl rfl (by decide) (by decide) (fun hb11 => ?_) (fun hb11 => ?_)
        · rw [if_pos hb11] at h
          refine Rc.run tb_187 4 (pc' := 48) (ls' := [some (.ref (77)), some (.int (x1)), some (.int (x2)), some (.int (M 85 x2.toNatClampNeg))]) (st' := [.int ((M 85 x2.toNatClampNeg) - 10000), .ref (77), .int (x1), .ref (86)]) rfl rfl ?_
          cases hc9 : F_185 ((M 85 x2.toNatClampNeg) - 10000) M with
          | none => rw [hc9] at h; cases h
          | some c9 =>
            rw [hc9] at h
            dsimp only at h
            have hq9 := T_185 (X := X) (d := d) (by omega) (M := M) hc9
            refine Rc.callV tb_187 rfl rfl rfl mS_185 mP_185 mL_185 mO_185 rfl rfl ob_77 rfl rfl hq9 ?_
            refine Rc.mask (b := 7) ((tb_187.2 51).trans rfl) (ls' := [some (.ref (77)), some (.int (x1)), some (.int (x2)), none]) rfl ?_
            exact TJ_187_51_4 (X := X) (d := d + 1) (by omega) h hP hE
        · rw [if_neg hb11] at h
          refine Rc.run tb_187 2 (pc' := 51) (ls' := [some (.ref (77)), some (.int (x1)), some (.int (x2)), some (.int (M 85 x2.toNatClampNeg))]) (st' := [.int (M 85 x2.toNatClampNeg), .int (x1), .ref (86)]) rfl rfl ?_
          refine Rc.mask (b := 7) ((tb_187.2 51).trans rfl) (ls' := [some (.ref (77)), some (.int (x1)), some (.int (x2)), none]) rfl ?_
          exact TJ_187_51_4 (X := X) (d := d + 1) (by omega) h hP hE
    · rw [if_neg hb13] at h
      cases h
theorem TL_187_4 {X : AX} {d : Nat} (hd : 4 ≤ d) {x1 : Int32} {x2 : Int32} {M : IM} {v : Option Value} {M' : IM} {r : Int32 × Int32 × IM} (h : L_187_4 x1 x2 M = some r) (hE : (fun (x1, x2, M) => Rc X d 187 127 [some (.ref (77)), none, none, none] [] M v M') r) : Rc X d 187 4 [some (.ref (77)), some (.int (x1)), some (.int (x2)), none] [] M v M' := by
  exact loopN_rc (P := fun (x1, x2, M) => Rc X d 187 4 [some (.ref (77)), some (.int (x1)), some (.int (x2)), none] [] M v M') (E := fun (x1, x2, M) => Rc X d 187 127 [some (.ref (77)), none, none, none] [] M v M') (TB_187_4 (X := X) hd) FU _ r h hE
theorem TJ_187_127 {X : AX} {d : Nat} (hd : 4 ≤ d) {M : IM} {v : Option Value} {M' : IM} {o : Int32 × IM} (h : J_187_127 M = some o) (hC : v = some (.int o.1) ∧ M' = o.2) : Rc X d 187 127 [some (.ref (77)), none, none, none] [] M v M' := by
  obtain ⟨d, rfl⟩ : ∃ e, d = e + 1 := ⟨d - 1, by omega⟩
  unfold J_187_127 at h
  refine Rc.run tb_187 1 (pc' := 128) (ls' := [some (.ref (77)), none, none, none]) (st' := [.ref (77)]) rfl rfl ?_
  refine Rc.getR tb_187 rfl rfl ob_77 (by decide +kernel) tg_77_18 (by decide) ?_
  refine Rc.run tb_187 1 (pc' := 132) (ls' := [some (.ref (77)), none, none, none]) (st' := [.int (0), .ref (86)]) rfl rfl ?_
  refine Rc.iald tb_187 rfl rfl ia_86 (by decide) ?_
  refine Rc.if_eq (pc1 := 140) tb_187 rfl rfl (by decide) (by decide) (fun hb16 => ?_) (fun hb16 => ?_)
  · rw [if_pos hb16] at h
    refine Rc.run tb_187 1 (pc' := 141) (ls' := [some (.ref (77)), none, none, none]) (st' := [.int (0)]) rfl rfl ?_
    obtain rfl := Option.some.inj h
    obtain ⟨rfl, rfl⟩ := hC
    exact Rc.zret tb_187 rfl mR_187 (Or.inl rfl)
  · rw [if_neg hb16] at h
    refine Rc.run tb_187 2 (pc' := 141) (ls' := [some (.ref (77)), none, none, none]) (st' := [.int (1)]) rfl rfl ?_
    obtain rfl := Option.some.inj h
    obtain ⟨rfl, rfl⟩ := hC
    exact Rc.zret tb_187 rfl mR_187 (Or.inr rfl)
theorem TF_187 {X : AX} {d : Nat} (hd : 4 ≤ d) {M : IM} {v : Option Value} {M' : IM} {o : Int32 × IM} (h : F_187 M = some o) (hC : v = some (.int o.1) ∧ M' = o.2) : Rc X d 187 0 [some (.ref (77)), none, none, none] [] M v M' := by
  obtain ⟨d, rfl⟩ : ∃ e, d = e + 1 := ⟨d - 1, by omega⟩
  unfold F_187 at h
  refine Rc.run tb_187 4 (pc' := 4) (ls' := [some (.ref (77)), some (.int (0)), some (.int (0)), none]) (st' := []) rfl rfl ?_
  refine Rc.mask (b := 7) ((tb_187.2 4).trans rfl) (ls' := [some (.ref (77)), some (.int (0)), some (.int (0)), none]) rfl ?_
  cases hl15 : L_187_4 0 0 M with
  | none => rw [hl15] at h; cases h
  | some r15 =>
    obtain ⟨x1_15, x2_15, M15⟩ := r15
    rw [hl15] at h
    dsimp only at h
    refine TL_187_4 (X := X) (d := d + 1) (by omega) hl15 ?_
    refine Rc.mask (b := 1) ((tb_187.2 127).trans rfl) (ls' := [some (.ref (77)), none, none, none]) rfl ?_
    exact TJ_187_127 (X := X) (d := d + 1) (by omega) h hC
theorem T_187 {X : AX} {d : Nat} (hd : 4 ≤ d) {M : IM} {x : Int32} {M1 : IM} (h : F_187 M = some (x, M1)) : Rc X d 187 0 [some (.ref (77)), none, none, none] [] M (some (.int x)) M1 := TF_187 hd h ⟨rfl, rfl⟩
/-! 188: NineDemandsModel.isSo -/
def J_188_75 (s0 : Int32) (s1 : Int32) (M : IM) : Option (Int32 × IM) := if s1 = s0 then (some ((1, M))) else (some ((0, M)))
def F_188 (a1 : Int32) (a2 : Int32) (a3 : Int32) (M : IM) : Option (Int32 × IM) := if a1 = 2 then (if a3 = a2 then (some ((1, iset (iset M 77 16 a2) 77 17 a3))) else (some ((0, iset (iset M 77 16 a2) 77 17 a3)))) else (if a1 = 3 then (if a2 = 3 then (J_188_75 (3 : Int32) a3 (iset (iset M 77 16 a2) 77 17 a3)) else (J_188_75 (3 - a2) a3 (iset (iset M 77 16 a2) 77 17 a3))) else (if a1 = 5 then (if a2 = 3 then (some ((0, iset (iset M 77 16 a2) 77 17 a3))) else (some ((1, iset (iset M 77 16 a2) 77 17 a3)))) else (match F_187 (iset (iset M 77 16 a2) 77 17 a3) with | none => none | some (c1, M1) => (some ((c1, M1))))))
theorem TJ_188_75 {X : AX} {d : Nat} (hd : 5 ≤ d) {s0 : Int32} {s1 : Int32} {M : IM} {v : Option Value} {M' : IM} {o : Int32 × IM} (h : J_188_75 s0 s1 M = some o) (hC : v = some (.int o.1) ∧ M' = o.2) : Rc X d 188 75 [none, none, none, none] [.int (s0), .int (s1)] M v M' := by
  obtain ⟨d, rfl⟩ : ∃ e, d = e + 1 := ⟨d - 1, by omega⟩
  unfold J_188_75 at h
  refine Rc.icmp_ne (pc1 := 82) tb_188 rfl rfl (by decide) (by decide) (fun hb6 => ?_) (fun hb6 => ?_)
  · rw [if_pos hb6] at h
    refine Rc.run tb_188 2 (pc' := 83) (ls' := [none, none, none, none]) (st' := [.int (1)]) rfl rfl ?_
    obtain rfl := Option.some.inj h
    obtain ⟨rfl, rfl⟩ := hC
    exact Rc.zret tb_188 rfl mR_188 (Or.inr rfl)
  · rw [if_neg hb6] at h
    refine Rc.run tb_188 1 (pc' := 83) (ls' := [none, none, none, none]) (st' := [.int (0)]) rfl rfl ?_
    obtain rfl := Option.some.inj h
    obtain ⟨rfl, rfl⟩ := hC
    exact Rc.zret tb_188 rfl mR_188 (Or.inl rfl)
theorem TF_188 {X : AX} {d : Nat} (hd : 5 ≤ d) {a1 : Int32} {a2 : Int32} {a3 : Int32} {M : IM} {v : Option Value} {M' : IM} {o : Int32 × IM} (h : F_188 a1 a2 a3 M = some o) (hC : v = some (.int o.1) ∧ M' = o.2) : Rc X d 188 0 [some (.ref (77)), some (.int (a1)), some (.int (a2)), some (.int (a3))] [] M v M' := by
  obtain ⟨d, rfl⟩ : ∃ e, d = e + 1 := ⟨d - 1, by omega⟩
  unfold F_188 at h
  refine Rc.run tb_188 2 (pc' := 2) (ls' := [some (.ref (77)), some (.int (a1)), some (.int (a2)), some (.int (a3))]) (st' := [.int (a2), .ref (77)]) rfl rfl ?_
  refine Rc.putI tb_188 rfl rfl ob_77 (by decide +kernel) tg_77_16 rfl ?_
  refine Rc.run tb_188 2 (pc' := 7) (ls' := [some (.ref (77)), some (.int (a1)), some (.int (a2)), some (.int (a3))]) (st' := [.int (a3), .ref (77)]) rfl rfl ?_
  refine Rc.putI tb_188 rfl rfl ob_77 (by decide +kernel) tg_77_17 rfl ?_
  refine Rc.run tb_188 1 (pc' := 11) (ls' := [some (.ref (77)), some (.int (a1)), some (.int (a2)), some (.int (a3))]) (st' := [.int (a1)]) rfl rfl ?_
  by_cases hk2 : a1 = 2
  · rw [if_pos hk2] at h
    refine Rc.table (off := 40) (pc1 := 51) tb_188 rfl rfl (by decide) (tsw_at (k := 2) (by rw [hk2]; decide) (by decide +kernel)) (by decide) (by decide) ?_
    refine Rc.run tb_188 2 (pc' := 53) (ls' := [some (.ref (77)), some (.int (a1)), some (.int (a2)), some (.int (a3))]) (st' := [.int (a2), .int (a3)]) rfl rfl ?_
    refine Rc.icmp_ne (pc1 := 60) tb_188 rfl rfl (by decide) (by decide) (fun hb8 => ?_) (fun hb8 => ?_)
    · rw [if_pos hb8] at h
      refine Rc.run tb_188 2 (pc' := 61) (ls' := [some (.ref (77)), some (.int (a1)), some (.int (a2)), some (.int (a3))]) (st' := [.int (1)]) rfl rfl ?_
      obtain rfl := Option.some.inj h
      obtain ⟨rfl, rfl⟩ := hC
      exact Rc.zret tb_188 rfl mR_188 (Or.inr rfl)
    · rw [if_neg hb8] at h
      refine Rc.run tb_188 1 (pc' := 61) (ls' := [some (.ref (77)), some (.int (a1)), some (.int (a2)), some (.int (a3))]) (st' := [.int (0)]) rfl rfl ?_
      obtain rfl := Option.some.inj h
      obtain ⟨rfl, rfl⟩ := hC
      exact Rc.zret tb_188 rfl mR_188 (Or.inl rfl)
  · rw [if_neg hk2] at h
    by_cases hk3 : a1 = 3
    · rw [if_pos hk3] at h
      refine Rc.table (off := 51) (pc1 := 62) tb_188 rfl rfl (by decide) (tsw_at (k := 3) (by rw [hk3]; decide) (by decide +kernel)) (by decide) (by decide) ?_
      refine Rc.run tb_188 3 (pc' := 65) (ls' := [some (.ref (77)), some (.int (a1)), some (.int (a2)), some (.int (a3))]) (st' := [.int (3), .int (a2), .int (a3)]) rfl rfl ?_
      refine Rc.icmp_ne (pc1 := 72) tb_188 rfl rfl (by decide) (by decide) (fun hb7 => ?_) (fun hb7 => ?_)
      · rw [if_pos hb7] at h
        refine Rc.run tb_188 2 (pc' := 75) (ls' := [some (.ref (77)), some (.int (a1)), some (.int (a2)), some (.int (a3))]) (st' := [.int (3), .int (a3)]) rfl rfl ?_
        refine Rc.mask (b := 0) ((tb_188.2 75).trans rfl) (ls' := [none, none, none, none]) rfl ?_
        exact TJ_188_75 (X := X) (d := d + 1) (by omega) h hC
      · rw [if_neg hb7] at h
        refine Rc.run tb_188 3 (pc' := 75) (ls' := [some (.ref (77)), some (.int (a1)), some (.int (a2)), some (.int (a3))]) (st' := [.int (3 - a2), .int (a3)]) rfl rfl ?_
        refine Rc.mask (b := 0) ((tb_188.2 75).trans rfl) (ls' := [none, none, none, none]) rfl ?_
        exact TJ_188_75 (X := X) (d := d + 1) (by omega) h hC
    · rw [if_neg hk3] at h
      by_cases hk4 : a1 = 5
      · rw [if_pos hk4] at h
        refine Rc.table (off := 29) (pc1 := 40) tb_188 rfl rfl (by decide) (tsw_at (k := 5) (by rw [hk4]; decide) (by decide +kernel)) (by decide) (by decide) ?_
        refine Rc.run tb_188 2 (pc' := 42) (ls' := [some (.ref (77)), some (.int (a1)), some (.int (a2)), some (.int (a3))]) (st' := [.int (3), .int (a2)]) rfl rfl ?_
        refine Rc.icmp_eq (pc1 := 49) tb_188 rfl rfl (by decide) (by decide) (fun hb5 => ?_) (fun hb5 => ?_)
        · rw [if_pos hb5] at h
          refine Rc.run tb_188 1 (pc' := 50) (ls' := [some (.ref (77)), some (.int (a1)), some (.int (a2)), some (.int (a3))]) (st' := [.int (0)]) rfl rfl ?_
          obtain rfl := Option.some.inj h
          obtain ⟨rfl, rfl⟩ := hC
          exact Rc.zret tb_188 rfl mR_188 (Or.inl rfl)
        · rw [if_neg hb5] at h
          refine Rc.run tb_188 2 (pc' := 50) (ls' := [some (.ref (77)), some (.int (a1)), some (.int (a2)), some (.int (a3))]) (st' := [.int (1)]) rfl rfl ?_
          obtain rfl := Option.some.inj h
          obtain ⟨rfl, rfl⟩ := hC
          exact Rc.zret tb_188 rfl mR_188 (Or.inr rfl)
      · rw [if_neg hk4] at h
        refine Rc.table (off := 73) (pc1 := 84) tb_188 rfl rfl (by decide) (tsw_df [2, 3, 5] (by decide +kernel) (fun k hk => by simp only [List.mem_cons, List.not_mem_nil, or_false] at hk; rcases hk with rfl | rfl | rfl <;> assumption)) (by decide) (by decide) ?_
        refine Rc.run tb_188 1 (pc' := 85) (ls' := [some (.ref (77)), some (.int (a1)), some (.int (a2)), some (.int (a3))]) (st' := [.ref (77)]) rfl rfl ?_
        cases hc1 : F_187 (iset (iset M 77 16 a2) 77 17 a3) with
        | none => rw [hc1] at h; cases h
        | some r1 =>
          obtain ⟨c1, M1⟩ := r1
          rw [hc1] at h
          dsimp only at h
          have hq1 := T_187 (X := X) (d := d) (by omega) (M := iset (iset M 77 16 a2) 77 17 a3) hc1
          have hz1 := Rc.bool mR_187 hq1
          refine Rc.callV tb_188 rfl rfl rfl mS_187 mP_187 mL_187 mO_187 rfl rfl ob_77 rfl rfl hq1 ?_
          obtain rfl := Option.some.inj h
          obtain ⟨rfl, rfl⟩ := hC
          exact Rc.zret tb_188 rfl mR_188 hz1
theorem T_188 {X : AX} {d : Nat} (hd : 5 ≤ d) {a1 : Int32} {a2 : Int32} {a3 : Int32} {M : IM} {x : Int32} {M1 : IM} (h : F_188 a1 a2 a3 M = some (x, M1)) : Rc X d 188 0 [some (.ref (77)), some (.int (a1)), some (.int (a2)), some (.int (a3))] [] M (some (.int x)) M1 := TF_188 hd h ⟨rfl, rfl⟩
/-! 189: NineDemandsModel.tableOf -/
def J_189_89_55 (x1 : Int32) (x2 : Int32) (x4 : Int32) (x5 : Int32) (s0 : Int32) (s1 : Int32) (M : IM) : Option ((Int32 × Int32 × IM) ⊕ (Int32 × Int32 × IM)) := some (Sum.inl (s1 ||| s0, x5 + 1, M))
def B_189_55 (x1 : Int32) (x2 : Int32) (x4 : Int32) : (Int32 × Int32 × IM) → Option ((Int32 × Int32 × IM) ⊕ (Int32 × Int32 × IM)) := fun (x3, x5, M) => if (3 : Int32) < x5 then (some (Sum.inr (x3, x5, M))) else (match F_188 x1 x4 x5 M with | none => none | some (c1, M1) => (if c1 = 0 then (J_189_89_55 x1 x2 x4 x5 (0 : Int32) x3 M1) else (J_189_89_55 x1 x2 x4 x5 ((1 : Int32) <<< ((((3 * x4) + x5) - 4) &&& 31)) x3 M1)))
def L_189_55 (x1 : Int32) (x2 : Int32) (x4 : Int32) (x3 : Int32) (x5 : Int32) (M : IM) : Option (Int32 × Int32 × IM) := loopN (B_189_55 x1 x2 x4) FU (x3, x5, M)
def J_189_97_10 (x1 : Int32) (x2 : Int32) (x3 : Int32) (x4 : Int32) (M : IM) : Option ((Int32 × Int32 × IM) ⊕ (Int32 × Int32 × IM)) := some (Sum.inl (x3, x4 + 1, M))
def J_189_47_10 (x1 : Int32) (x2 : Int32) (x4 : Int32) (s0 : Int32) (s1 : Int32) (M : IM) : Option ((Int32 × Int32 × IM) ⊕ (Int32 × Int32 × IM)) := J_189_97_10 x1 x2 (s1 ||| s0) x4 M
def B_189_10 (x1 : Int32) (x2 : Int32) : (Int32 × Int32 × IM) → Option ((Int32 × Int32 × IM) ⊕ (Int32 × Int32 × IM)) := fun (x3, x4, M) => if (3 : Int32) < x4 then (some (Sum.inr (x3, x4, M))) else (if inb x2 90 = true then (if (0 : Int32) ≤ M 83 x2.toNatClampNeg then (match L_189_55 x1 x2 x4 x3 1 M with | none => none | some (x3_4, x5_4, M4) => (J_189_97_10 x1 x2 x3_4 x4 M4)) else (match F_188 x1 x4 (0 : Int32) M with | none => none | some (c5, M5) => (if c5 = 0 then (J_189_47_10 x1 x2 x4 (0 : Int32) x3 M5) else (J_189_47_10 x1 x2 x4 ((1 : Int32) <<< ((x4 - 1) &&& 31)) x3 M5)))) else none)
def L_189_10 (x1 : Int32) (x2 : Int32) (x3 : Int32) (x4 : Int32) (M : IM) : Option (Int32 × Int32 × IM) := loopN (B_189_10 x1 x2) FU (x3, x4, M)
def F_189 (a1 : Int32) (a2 : Int32) (M : IM) : Option (Int32 × IM) := (match L_189_10 a1 a2 0 1 (iset M 77 15 a2) with | none => none | some (x3_10, x4_10, M10) => (some ((x3_10, M10))))
theorem TJ_189_89_55 {X : AX} {d : Nat} (hd : 6 ≤ d) {x1 : Int32} {x2 : Int32} {x4 : Int32} {x5 : Int32} {s0 : Int32} {s1 : Int32} {M : IM} {v : Option Value} {M' : IM} {o : (Int32 × Int32 × IM) ⊕ (Int32 × Int32 × IM)} (h : J_189_89_55 x1 x2 x4 x5 s0 s1 M = some o) (hP : ∀ s', o = .inl s' → (fun (x3, x5, M) => Rc X d 189 55 [some (.ref (77)), some (.int (x1)), some (.int (x2)), some (.int (x3)), some (.int (x4)), some (.int (x5))] [] M v M') s') (hE : ∀ r, o = .inr r → (fun (x3, x5, M) => Rc X d 189 97 [some (.ref (77)), some (.int (x1)), some (.int (x2)), some (.int (x3)), some (.int (x4)), none] [] M v M') r) : Rc X d 189 89 [some (.ref (77)), some (.int (x1)), some (.int (x2)), none, some (.int (x4)), some (.int (x5))] [.int (s0), .int (s1)] M v M' := by
  obtain ⟨d, rfl⟩ : ∃ e, d = e + 1 := ⟨d - 1, by omega⟩
  unfold J_189_89_55 at h
  dsimp only at hP hE
  refine Rc.run tb_189 4 (pc' := 55) (ls' := [some (.ref (77)), some (.int (x1)), some (.int (x2)), some (.int (s1 ||| s0)), some (.int (x4)), some (.int (x5 + 1))]) (st' := []) rfl rfl ?_
  refine Rc.mask (b := 63) ((tb_189.2 55).trans rfl) (ls' := [some (.ref (77)), some (.int (x1)), some (.int (x2)), some (.int (s1 ||| s0)), some (.int (x4)), some (.int (x5 + 1))]) rfl ?_
  obtain rfl := Option.some.inj h
  exact hP _ rfl
theorem TB_189_55 {X : AX} {d : Nat} (hd : 6 ≤ d) {x1 : Int32} {x2 : Int32} {x4 : Int32} {v : Option Value} {M' : IM} : ∀ (s : Int32 × Int32 × IM) (o : (Int32 × Int32 × IM) ⊕ (Int32 × Int32 × IM)), B_189_55 x1 x2 x4 s = some o → (∀ s', o = .inl s' → (fun (x3, x5, M) => Rc X d 189 55 [some (.ref (77)), some (.int (x1)), some (.int (x2)), some (.int (x3)), some (.int (x4)), some (.int (x5))] [] M v M') s') → (∀ r, o = .inr r → (fun (x3, x5, M) => Rc X d 189 97 [some (.ref (77)), some (.int (x1)), some (.int (x2)), some (.int (x3)), some (.int (x4)), none] [] M v M') r) → (fun (x3, x5, M) => Rc X d 189 55 [some (.ref (77)), some (.int (x1)), some (.int (x2)), some (.int (x3)), some (.int (x4)), some (.int (x5))] [] M v M') s := by
  rintro ⟨x3, x5, M⟩ o h hP hE
  show Rc X d 189 55 [some (.ref (77)), some (.int (x1)), some (.int (x2)), some (.int (x3)), some (.int (x4)), some (.int (x5))] [] M v M'
  obtain ⟨d, rfl⟩ : ∃ e, d = e + 1 := ⟨d - 1, by omega⟩
  unfold B_189_55 at h
  dsimp only at h hP hE
  refine Rc.run tb_189 2 (pc' := 58) (ls' := [some (.ref (77)), some (.int (x1)), some (.int (x2)), some (.int (x3)), some (.int (x4)), some (.int (x5))]) (st' := [.int (3), .int (x5)]) rfl rfl ?_
  refine Rc.icmp_gt (pc1 := 97) tb_189 rfl rfl (by decide) (by decide) (fun hb3 => ?_) (fun hb3 => ?_)
  · rw [if_pos hb3] at h
    refine Rc.mask (b := 31) ((tb_189.2 97).trans rfl) (ls' := [some (.ref (77)), some (.int (x1)), some (.int (x2)), some (.int (x3)), some (.int (x4)), none]) rfl ?_
    obtain rfl := Option.some.inj h
    exact hE _ rfl
  · rw [if_neg hb3] at h
    refine Rc.run tb_189 5 (pc' := 68) (ls' := [some (.ref (77)), some (.int (x1)), some (.int (x2)), some (.int (x3)), some (.int (x4)), some (.int (x5))]) (st' := [.int (x5), .int (x4), .int (x1), .ref (77), .int (x3)]) rfl rfl ?_
    cases hc1 : F_188 x1 x4 x5 M with
    | none => rw [hc1] at h; cases h
    | some r1 =>
      obtain ⟨c1, M1⟩ := r1
      rw [hc1] at h
      dsimp only at h
      have hq1 := T_188 (X := X) (d := d) (by omega) (M := M) hc1
      have hz1 := Rc.bool mR_188 hq1
      refine Rc.callV tb_189 rfl rfl rfl mS_188 mP_188 mL_188 mO_188 rfl rfl ob_77 rfl rfl hq1 ?_
      refine Rc.if_eq (pc1 := 88) tb_189 rfl rfl (by decide) (by decide) (fun hb2 => ?_) (fun hb2 => ?_)
      · rw [if_pos hb2] at h
        refine Rc.run tb_189 1 (pc' := 89) (ls' := [some (.ref (77)), some (.int (x1)), some (.int (x2)), some (.int (x3)), some (.int (x4)), some (.int (x5))]) (st' := [.int (0), .int (x3)]) rfl rfl ?_
        refine Rc.mask (b := 55) ((tb_189.2 89).trans rfl) (ls' := [some (.ref (77)), some (.int (x1)), some (.int (x2)), none, some (.int (x4)), some (.int (x5))]) rfl ?_
        exact TJ_189_89_55 (X := X) (d := d + 1) (by omega) h hP hE
      · rw [if_neg hb2] at h
        refine Rc.run tb_189 10 (pc' := 89) (ls' := [some (.ref (77)), some (.int (x1)), some (.int (x2)), some (.int (x3)), some (.int (x4)), some (.int (x5))]) (st' := [.int ((1 : Int32) <<< ((((3 * x4) + x5) - 4) &&& 31)), .int (x3)]) rfl rfl ?_
        refine Rc.mask (b := 55) ((tb_189.2 89).trans rfl) (ls' := [some (.ref (77)), some (.int (x1)), some (.int (x2)), none, some (.int (x4)), some (.int (x5))]) rfl ?_
        exact TJ_189_89_55 (X := X) (d := d + 1) (by omega) h hP hE
theorem TL_189_55 {X : AX} {d : Nat} (hd : 6 ≤ d) {x1 : Int32} {x2 : Int32} {x4 : Int32} {x3 : Int32} {x5 : Int32} {M : IM} {v : Option Value} {M' : IM} {r : Int32 × Int32 × IM} (h : L_189_55 x1 x2 x4 x3 x5 M = some r) (hE : (fun (x3, x5, M) => Rc X d 189 97 [some (.ref (77)), some (.int (x1)), some (.int (x2)), some (.int (x3)), some (.int (x4)), none] [] M v M') r) : Rc X d 189 55 [some (.ref (77)), some (.int (x1)), some (.int (x2)), some (.int (x3)), some (.int (x4)), some (.int (x5))] [] M v M' := by
  exact loopN_rc (P := fun (x3, x5, M) => Rc X d 189 55 [some (.ref (77)), some (.int (x1)), some (.int (x2)), some (.int (x3)), some (.int (x4)), some (.int (x5))] [] M v M') (E := fun (x3, x5, M) => Rc X d 189 97 [some (.ref (77)), some (.int (x1)), some (.int (x2)), some (.int (x3)), some (.int (x4)), none] [] M v M') (TB_189_55 (X := X) hd) FU _ r h hE
theorem TJ_189_97_10 {X : AX} {d : Nat} (hd : 6 ≤ d) {x1 : Int32} {x2 : Int32} {x3 : Int32} {x4 : Int32} {M : IM} {v : Option Value} {M' : IM} {o : (Int32 × Int32 × IM) ⊕ (Int32 × Int32 × IM)} (h : J_189_97_10 x1 x2 x3 x4 M = some o) (hP : ∀ s', o = .inl s' → (fun (x3, x4, M) => Rc X d 189 10 [some (.ref (77)), some (.int (x1)), some (.int (x2)), some (.int (x3)), some (.int (x4)), none] [] M v M') s') (hE : ∀ r, o = .inr r → (fun (x3, x4, M) => Rc X d 189 103 [none, none, none, some (.int (x3)), none, none] [] M v M') r) : Rc X d 189 97 [some (.ref (77)), some (.int (x1)), some (.int (x2)), some (.int (x3)), some (.int (x4)), none] [] M v M' := by
  obtain ⟨d, rfl⟩ : ∃ e, d = e + 1 := ⟨d - 1, by omega⟩
  unfold J_189_97_10 at h
  dsimp only at hP hE
  refine Rc.run tb_189 2 (pc' := 10) (ls' := [some (.ref (77)), some (.int (x1)), some (.int (x2)), some (.int (x3)), some (.int (x4 + 1)), none]) (st' := []) rfl rfl ?_
  refine Rc.mask (b := 31) ((tb_189.2 10).trans rfl) (ls' := [some (.ref (77)), some (.int (x1)), some (.int (x2)), some (.int (x3)), some (.int (x4 + 1)), none]) rfl ?_
  obtain rfl := Option.some.inj h
  exact hP _ rfl
theorem TJ_189_47_10 {X : AX} {d : Nat} (hd : 6 ≤ d) {x1 : Int32} {x2 : Int32} {x4 : Int32} {s0 : Int32} {s1 : Int32} {M : IM} {v : Option Value} {M' : IM} {o : (Int32 × Int32 × IM) ⊕ (Int32 × Int32 × IM)} (h : J_189_47_10 x1 x2 x4 s0 s1 M = some o) (hP : ∀ s', o = .inl s' → (fun (x3, x4, M) => Rc X d 189 10 [some (.ref (77)), some (.int (x1)), some (.int (x2)), some (.int (x3)), some (.int (x4)), none] [] M v M') s') (hE : ∀ r, o = .inr r → (fun (x3, x4, M) => Rc X d 189 103 [none, none, none, some (.int (x3)), none, none] [] M v M') r) : Rc X d 189 47 [some (.ref (77)), some (.int (x1)), some (.int (x2)), none, some (.int (x4)), none] [.int (s0), .int (s1)] M v M' := by
  obtain ⟨d, rfl⟩ : ∃ e, d = e + 1 := ⟨d - 1, by omega⟩
  unfold J_189_47_10 at h
  dsimp only at hP hE
  refine Rc.run tb_189 3 (pc' := 97) (ls' := [some (.ref (77)), some (.int (x1)), some (.int (x2)), some (.int (s1 ||| s0)), some (.int (x4)), none]) (st' := []) rfl rfl ?_
  refine Rc.mask (b := 31) ((tb_189.2 97).trans rfl) (ls' := [some (.ref (77)), some (.int (x1)), some (.int (x2)), some (.int (s1 ||| s0)), some (.int (x4)), none]) rfl ?_
  exact TJ_189_97_10 (X := X) (d := d + 1) (by omega) h hP hE
theorem TB_189_10 {X : AX} {d : Nat} (hd : 6 ≤ d) {x1 : Int32} {x2 : Int32} {v : Option Value} {M' : IM} : ∀ (s : Int32 × Int32 × IM) (o : (Int32 × Int32 × IM) ⊕ (Int32 × Int32 × IM)), B_189_10 x1 x2 s = some o → (∀ s', o = .inl s' → (fun (x3, x4, M) => Rc X d 189 10 [some (.ref (77)), some (.int (x1)), some (.int (x2)), some (.int (x3)), some (.int (x4)), none] [] M v M') s') → (∀ r, o = .inr r → (fun (x3, x4, M) => Rc X d 189 103 [none, none, none, some (.int (x3)), none, none] [] M v M') r) → (fun (x3, x4, M) => Rc X d 189 10 [some (.ref (77)), some (.int (x1)), some (.int (x2)), some (.int (x3)), some (.int (x4)), none] [] M v M') s := by
  rintro ⟨x3, x4, M⟩ o h hP hE
  show Rc X d 189 10 [some (.ref (77)), some (.int (x1)), some (.int (x2)), some (.int (x3)), some (.int (x4)), none] [] M v M'
  obtain ⟨d, rfl⟩ : ∃ e, d = e + 1 := ⟨d - 1, by omega⟩
  unfold B_189_10 at h
  dsimp only at h hP hE
  refine Rc.run tb_189 2 (pc' := 13) (ls' := [some (.ref (77)), some (.int (x1)), some (.int (x2)), some (.int (x3)), some (.int (x4)), none]) (st' := [.int (3), .int (x4)]) rfl rfl ?_
  refine Rc.icmp_gt (pc1 := 103) tb_189 rfl rfl (by decide) (by decide) (fun hb9 => ?_) (fun hb9 => ?_)
  · rw [if_pos hb9] at h
    refine Rc.mask (b := 8) ((tb_189.2 103).trans rfl) (ls' := [none, none, none, some (.int (x3)), none, none]) rfl ?_
    obtain rfl := Option.some.inj h
    exact hE _ rfl
  · rw [if_neg hb9] at h
    refine Rc.run tb_189 1 (pc' := 17) (ls' := [some (.ref (77)), some (.int (x1)), some (.int (x2)), some (.int (x3)), some (.int (x4)), none]) (st' := [.ref (77)]) rfl rfl ?_
    refine Rc.getR tb_189 rfl rfl ob_77 (by decide +kernel) tg_77_6 (by decide) ?_
    refine Rc.run tb_189 1 (pc' := 21) (ls' := [some (.ref (77)), some (.int (x1)), some (.int (x2)), some (.int (x3)), some (.int (x4)), none]) (st' := [.int (x2), .ref (83)]) rfl rfl ?_
    by_cases hb8 : inb x2 90 = true
    · rw [if_pos hb8] at h
      refine Rc.iald tb_189 rfl rfl ia_83 hb8 ?_
      refine Rc.if_ge (pc1 := 52) tb_189 rfl rfl (by decide) (by decide) (fun hb7 => ?_) (fun hb7 => ?_)
      · rw [if_pos hb7] at h
        refine Rc.run tb_189 2 (pc' := 55) (ls' := [some (.ref (77)), some (.int (x1)), some (.int (x2)), some (.int (x3)), some (.int (x4)), some (.int (1))]) (st' := []) rfl rfl ?_
        refine Rc.mask (b := 63) ((tb_189.2 55).trans rfl) (ls' := [some (.ref (77)), some (.int (x1)), some (.int (x2)), some (.int (x3)), some (.int (x4)), some (.int (1))]) rfl ?_
        cases hl4 : L_189_55 x1 x2 x4 x3 1 M with
        | none => rw [hl4] at h; cases h
        | some r4 =>
          obtain ⟨x3_4, x5_4, M4⟩ := r4
          rw [hl4] at h
          dsimp only at h
          refine TL_189_55 (X := X) (d := d + 1) (by omega) hl4 ?_
          refine Rc.mask (b := 31) ((tb_189.2 97).trans rfl) (ls' := [some (.ref (77)), some (.int (x1)), some (.int (x2)), some (.int (x3_4)), some (.int (x4)), none]) rfl ?_
          exact TJ_189_97_10 (X := X) (d := d + 1) (by omega) h hP hE
      · rw [if_neg hb7] at h
        refine Rc.run tb_189 5 (pc' := 31) (ls' := [some (.ref (77)), some (.int (x1)), some (.int (x2)), some (.int (x3)), some (.int (x4)), none]) (st' := [.int (0), .int (x4), .int (x1), .ref (77), .int (x3)]) rfl rfl ?_
        cases hc5 : F_188 x1 x4 (0 : Int32) M with
        | none => rw [hc5] at h; cases h
        | some r5 =>
          obtain ⟨c5, M5⟩ := r5
          rw [hc5] at h
          dsimp only at h
          have hq5 := T_188 (X := X) (d := d) (by omega) (M := M) hc5
          have hz5 := Rc.bool mR_188 hq5
          refine Rc.callV tb_189 rfl rfl rfl mS_188 mP_188 mL_188 mO_188 rfl rfl ob_77 rfl rfl hq5 ?_
          refine Rc.if_eq (pc1 := 46) tb_189 rfl rfl (by decide) (by decide) (fun hb6 => ?_) (fun hb6 => ?_)
          · rw [if_pos hb6] at h
            refine Rc.run tb_189 1 (pc' := 47) (ls' := [some (.ref (77)), some (.int (x1)), some (.int (x2)), some (.int (x3)), some (.int (x4)), none]) (st' := [.int (0), .int (x3)]) rfl rfl ?_
            refine Rc.mask (b := 23) ((tb_189.2 47).trans rfl) (ls' := [some (.ref (77)), some (.int (x1)), some (.int (x2)), none, some (.int (x4)), none]) rfl ?_
            exact TJ_189_47_10 (X := X) (d := d + 1) (by omega) h hP hE
          · rw [if_neg hb6] at h
            refine Rc.run tb_189 6 (pc' := 47) (ls' := [some (.ref (77)), some (.int (x1)), some (.int (x2)), some (.int (x3)), some (.int (x4)), none]) (st' := [.int ((1 : Int32) <<< ((x4 - 1) &&& 31)), .int (x3)]) rfl rfl ?_
            refine Rc.mask (b := 23) ((tb_189.2 47).trans rfl) (ls' := [some (.ref (77)), some (.int (x1)), some (.int (x2)), none, some (.int (x4)), none]) rfl ?_
            exact TJ_189_47_10 (X := X) (d := d + 1) (by omega) h hP hE
    · rw [if_neg hb8] at h
      cases h
theorem TL_189_10 {X : AX} {d : Nat} (hd : 6 ≤ d) {x1 : Int32} {x2 : Int32} {x3 : Int32} {x4 : Int32} {M : IM} {v : Option Value} {M' : IM} {r : Int32 × Int32 × IM} (h : L_189_10 x1 x2 x3 x4 M = some r) (hE : (fun (x3, x4, M) => Rc X d 189 103 [none, none, none, some (.int (x3)), none, none] [] M v M') r) : Rc X d 189 10 [some (.ref (77)), some (.int (x1)), some (.int (x2)), some (.int (x3)), some (.int (x4)), none] [] M v M' := by
  exact loopN_rc (P := fun (x3, x4, M) => Rc X d 189 10 [some (.ref (77)), some (.int (x1)), some (.int (x2)), some (.int (x3)), some (.int (x4)), none] [] M v M') (E := fun (x3, x4, M) => Rc X d 189 103 [none, none, none, some (.int (x3)), none, none] [] M v M') (TB_189_10 (X := X) hd) FU _ r h hE
theorem TF_189 {X : AX} {d : Nat} (hd : 6 ≤ d) {a1 : Int32} {a2 : Int32} {M : IM} {v : Option Value} {M' : IM} {o : Int32 × IM} (h : F_189 a1 a2 M = some o) (hC : v = some (.int o.1) ∧ M' = o.2) : Rc X d 189 0 [some (.ref (77)), some (.int (a1)), some (.int (a2)), none, none, none] [] M v M' := by
  obtain ⟨d, rfl⟩ : ∃ e, d = e + 1 := ⟨d - 1, by omega⟩
  unfold F_189 at h
  refine Rc.run tb_189 2 (pc' := 2) (ls' := [some (.ref (77)), some (.int (a1)), some (.int (a2)), none, none, none]) (st' := [.int (a2), .ref (77)]) rfl rfl ?_
  refine Rc.putI tb_189 rfl rfl ob_77 (by decide +kernel) tg_77_15 rfl ?_
  refine Rc.run tb_189 4 (pc' := 10) (ls' := [some (.ref (77)), some (.int (a1)), some (.int (a2)), some (.int (0)), some (.int (1)), none]) (st' := []) rfl rfl ?_
  refine Rc.mask (b := 31) ((tb_189.2 10).trans rfl) (ls' := [some (.ref (77)), some (.int (a1)), some (.int (a2)), some (.int (0)), some (.int (1)), none]) rfl ?_
  cases hl10 : L_189_10 a1 a2 0 1 (iset M 77 15 a2) with
  | none => rw [hl10] at h; cases h
  | some r10 =>
    obtain ⟨x3_10, x4_10, M10⟩ := r10
    rw [hl10] at h
    dsimp only at h
    refine TL_189_10 (X := X) (d := d + 1) (by omega) hl10 ?_
    refine Rc.run tb_189 1 (pc' := 104) (ls' := [none, none, none, some (.int (x3_10)), none, none]) (st' := [.int (x3_10)]) rfl rfl ?_
    obtain rfl := Option.some.inj h
    obtain ⟨rfl, rfl⟩ := hC
    exact Rc.iret (ins := .ireturn) tb_189 rfl mR_189
theorem T_189 {X : AX} {d : Nat} (hd : 6 ≤ d) {a1 : Int32} {a2 : Int32} {M : IM} {x : Int32} {M1 : IM} (h : F_189 a1 a2 M = some (x, M1)) : Rc X d 189 0 [some (.ref (77)), some (.int (a1)), some (.int (a2)), none, none, none] [] M (some (.int x)) M1 := TF_189 hd h ⟨rfl, rfl⟩
/-! 191: NineDemandsModel.price -/
def J_191_18 (M : IM) : Option (Int32 × IM) := (match F_156 ((-1000001) : Int32) M with | none => none | some (c2, M2) => (some ((c2, M2))))
def F_191 (a1 : Int32) (a2 : Int32) (M : IM) : Option (Int32 × IM) := if F_160 a1 M = 0 then (J_191_18 M) else (if F_157 a2 (0 : Int32) (99 : Int32) = 0 then (J_191_18 M) else (if inb (30 + a1) 366 = true then (if inb (30 + a1) 366 = true then (some ((M 78 (30 + a1).toNatClampNeg, iset M 78 (30 + a1).toNatClampNeg a2))) else none) else none))
theorem TJ_191_18 {X : AX} {d : Nat} (hd : 2 ≤ d) {M : IM} {v : Option Value} {M' : IM} {o : Int32 × IM} (h : J_191_18 M = some o) (hC : v = some (.int o.1) ∧ M' = o.2) : Rc X d 191 18 [some (.ref (77)), none, none, none] [] M v M' := by
  obtain ⟨d, rfl⟩ : ∃ e, d = e + 1 := ⟨d - 1, by omega⟩
  unfold J_191_18 at h
  refine Rc.run tb_191 2 (pc' := 21) (ls' := [some (.ref (77)), none, none, none]) (st' := [.int ((-1000001)), .ref (77)]) rfl rfl ?_
  cases hc2 : F_156 ((-1000001) : Int32) M with
  | none => rw [hc2] at h; cases h
  | some r2 =>
    obtain ⟨c2, M2⟩ := r2
    rw [hc2] at h
    dsimp only at h
    have hq2 := T_156 (X := X) (d := d) (by omega) (M := M) hc2
    refine Rc.callV tb_191 rfl rfl rfl mS_156 mP_156 mL_156 mO_156 rfl rfl ob_77 rfl rfl hq2 ?_
    obtain rfl := Option.some.inj h
    obtain ⟨rfl, rfl⟩ := hC
    exact Rc.iret (ins := .ireturn) tb_191 rfl mR_191
theorem TF_191 {X : AX} {d : Nat} (hd : 2 ≤ d) {a1 : Int32} {a2 : Int32} {M : IM} {v : Option Value} {M' : IM} {o : Int32 × IM} (h : F_191 a1 a2 M = some o) (hC : v = some (.int o.1) ∧ M' = o.2) : Rc X d 191 0 [some (.ref (77)), some (.int (a1)), some (.int (a2)), none] [] M v M' := by
  obtain ⟨d, rfl⟩ : ∃ e, d = e + 1 := ⟨d - 1, by omega⟩
  unfold F_191 at h
  refine Rc.run tb_191 2 (pc' := 2) (ls' := [some (.ref (77)), some (.int (a1)), some (.int (a2)), none]) (st' := [.int (a1), .ref (77)]) rfl rfl ?_
  have hq1 := T_160 (X := X) (d := d) (by omega) a1 M
  have hz1 := Rc.bool mR_160 hq1
  refine Rc.callV tb_191 rfl rfl rfl mS_160 mP_160 mL_160 mO_160 rfl rfl ob_77 rfl rfl hq1 ?_
  refine Rc.if_eq (pc1 := 18) tb_191 rfl rfl (by decide) (by decide) (fun hb7 => ?_) (fun hb7 => ?_)
  · rw [if_pos hb7] at h
    refine Rc.mask (b := 1) ((tb_191.2 18).trans rfl) (ls' := [some (.ref (77)), none, none, none]) rfl ?_
    exact TJ_191_18 (X := X) (d := d + 1) (by omega) h hC
  · rw [if_neg hb7] at h
    refine Rc.run tb_191 3 (pc' := 12) (ls' := [some (.ref (77)), some (.int (a1)), some (.int (a2)), none]) (st' := [.int (99), .int (0), .int (a2)]) rfl rfl ?_
    have hq3 := T_157 (X := X) (d := d) (by omega) a2 (0 : Int32) (99 : Int32) M
    have hz3 := Rc.bool mR_157 hq3
    refine Rc.callS tb_191 rfl rfl rfl mS_157 mP_157 mL_157 rfl rfl rfl hq3 ?_
    refine Rc.if_ne (pc1 := 25) tb_191 rfl rfl (by decide) (by decide) (fun hb6 => ?_) (fun hb6 => ?_)
    · rw [if_pos hb6] at h
      refine Rc.mask (b := 1) ((tb_191.2 18).trans rfl) (ls' := [some (.ref (77)), none, none, none]) rfl ?_
      exact TJ_191_18 (X := X) (d := d + 1) (by omega) h hC
    · rw [if_neg hb6] at h
      refine Rc.run tb_191 1 (pc' := 26) (ls' := [some (.ref (77)), some (.int (a1)), some (.int (a2)), none]) (st' := [.ref (77)]) rfl rfl ?_
      refine Rc.getR tb_191 rfl rfl ob_77 (by decide +kernel) tg_77_0 (by decide) ?_
      refine Rc.run tb_191 3 (pc' := 33) (ls' := [some (.ref (77)), some (.int (a1)), some (.int (a2)), none]) (st' := [.int (30 + a1), .ref (78)]) rfl rfl ?_
      by_cases hb5 : inb (30 + a1) 366 = true
      · rw [if_pos hb5] at h
        refine Rc.iald tb_191 rfl rfl ia_78 hb5 ?_
        refine Rc.run tb_191 2 (pc' := 36) (ls' := [some (.ref (77)), some (.int (a1)), some (.int (a2)), some (.int (M 78 (30 + a1).toNatClampNeg))]) (st' := [.ref (77)]) rfl rfl ?_
        refine Rc.getR tb_191 rfl rfl ob_77 (by decide +kernel) tg_77_0 (by decide) ?_
        refine Rc.run tb_191 4 (pc' := 44) (ls' := [some (.ref (77)), some (.int (a1)), some (.int (a2)), some (.int (M 78 (30 + a1).toNatClampNeg))]) (st' := [.int (a2), .int (30 + a1), .ref (78)]) rfl rfl ?_
        by_cases hb4 : inb (30 + a1) 366 = true
        · rw [if_pos hb4] at h
          refine Rc.iast tb_191 rfl rfl ia_78 hb4 ?_
          refine Rc.run tb_191 1 (pc' := 46) (ls' := [some (.ref (77)), some (.int (a1)), some (.int (a2)), some (.int (M 78 (30 + a1).toNatClampNeg))]) (st' := [.int (M 78 (30 + a1).toNatClampNeg)]) rfl rfl ?_
          obtain rfl := Option.some.inj h
          obtain ⟨rfl, rfl⟩ := hC
          exact Rc.iret (ins := .ireturn) tb_191 rfl mR_191
        · rw [if_neg hb4] at h
          cases h
      · rw [if_neg hb5] at h
        cases h
theorem T_191 {X : AX} {d : Nat} (hd : 2 ≤ d) {a1 : Int32} {a2 : Int32} {M : IM} {x : Int32} {M1 : IM} (h : F_191 a1 a2 M = some (x, M1)) : Rc X d 191 0 [some (.ref (77)), some (.int (a1)), some (.int (a2)), none] [] M (some (.int x)) M1 := TF_191 hd h ⟨rfl, rfl⟩
/-! 192: NineDemandsModel.above -/
def F_192 (a1 : Int32) : Int32 := if a1 = 0 then (-1) else (if a1 = 1 then 0 else (if a1 = 5 then 0 else 1))
theorem TF_192 {X : AX} {d : Nat} (hd : 0 ≤ d) {a1 : Int32} {M : IM} {v : Option Value} {M' : IM} {o : Int32} (h : F_192 a1 = o) (hC : v = some (.int o) ∧ M' = M) : Rc X d 192 0 [some (.int (a1))] [] M v M' := by
  unfold F_192 at h
  refine Rc.run tb_192 1 (pc' := 1) (ls' := [some (.int (a1))]) (st' := [.int (a1)]) rfl rfl ?_
  refine Rc.if_ne (pc1 := 8) tb_192 rfl rfl (by decide) (by decide) (fun hb3 => ?_) (fun hb3 => ?_)
  · rw [if_pos hb3] at h
    refine Rc.run tb_192 2 (pc' := 23) (ls' := [some (.int (a1))]) (st' := [.int ((-1))]) rfl rfl ?_
    subst h
    obtain ⟨rfl, rfl⟩ := hC
    exact Rc.iret (ins := .ireturn) tb_192 rfl mR_192
  · rw [if_neg hb3] at h
    refine Rc.run tb_192 2 (pc' := 10) (ls' := [some (.int (a1))]) (st' := [.int (1), .int (a1)]) rfl rfl ?_
    refine Rc.icmp_eq (pc1 := 18) tb_192 rfl rfl (by decide) (by decide) (fun hb2 => ?_) (fun hb2 => ?_)
    · rw [if_pos hb2] at h
      refine Rc.run tb_192 2 (pc' := 23) (ls' := [none]) (st' := [.int (0)]) rfl rfl ?_
      subst h
      obtain ⟨rfl, rfl⟩ := hC
      exact Rc.iret (ins := .ireturn) tb_192 rfl mR_192
    · rw [if_neg hb2] at h
      refine Rc.run tb_192 2 (pc' := 15) (ls' := [some (.int (a1))]) (st' := [.int (5), .int (a1)]) rfl rfl ?_
      refine Rc.icmp_ne (pc1 := 22) tb_192 rfl rfl (by decide) (by decide) (fun hb1 => ?_) (fun hb1 => ?_)
      · rw [if_pos hb1] at h
        refine Rc.run tb_192 2 (pc' := 23) (ls' := [none]) (st' := [.int (0)]) rfl rfl ?_
        subst h
        obtain ⟨rfl, rfl⟩ := hC
        exact Rc.iret (ins := .ireturn) tb_192 rfl mR_192
      · rw [if_neg hb1] at h
        refine Rc.run tb_192 1 (pc' := 23) (ls' := [some (.int (a1))]) (st' := [.int (1)]) rfl rfl ?_
        subst h
        obtain ⟨rfl, rfl⟩ := hC
        exact Rc.iret (ins := .ireturn) tb_192 rfl mR_192
theorem T_192 {X : AX} {d : Nat} (hd : 0 ≤ d) (a1 : Int32) (M : IM) : Rc X d 192 0 [some (.int (a1))] [] M (some (.int (F_192 a1))) M := TF_192 hd rfl ⟨rfl, rfl⟩
/-! 193: NineDemandsModel.as -/
def J_193_17 (M : IM) : Option (Int32 × IM) := (match F_156 ((-1000001) : Int32) M with | none => none | some (c2, M2) => (some ((c2, M2))))
def B_193_30 (x1 : Int32) (x2 : Int32) (M : IM) : (Int32) → Option ((Int32) ⊕ (Int32)) := fun x3 => if x3 < 0 then (some (Sum.inr x3)) else (if x3 = x2 then (some (Sum.inr x3)) else (some (Sum.inl (F_192 x3))))
def L_193_30 (x1 : Int32) (x2 : Int32) (M : IM) (x3 : Int32) : Option (Int32) := loopN (B_193_30 x1 x2 M) FU x3
def J_193_47 (x1 : Int32) (x3 : Int32) (M : IM) : Option (Int32 × IM) := if (0 : Int32) ≤ x3 then (match F_164 x1 M with | none => none | some c9 => (some ((c9, M)))) else (match F_156 ((-1000005) : Int32) M with | none => none | some (c10, M10) => (some ((c10, M10))))
def F_193 (a1 : Int32) (a2 : Int32) (M : IM) : Option (Int32 × IM) := if F_160 a1 M = 0 then (J_193_17 M) else (if F_157 a2 (0 : Int32) (5 : Int32) = 0 then (J_193_17 M) else (match F_163 a1 M with | none => none | some c4 => (match L_193_30 a1 a2 M c4 with | none => none | some x3_8 => (J_193_47 a1 x3_8 M))))
theorem TJ_193_17 {X : AX} {d : Nat} (hd : 2 ≤ d) {M : IM} {v : Option Value} {M' : IM} {o : Int32 × IM} (h : J_193_17 M = some o) (hC : v = some (.int o.1) ∧ M' = o.2) : Rc X d 193 17 [some (.ref (77)), none, none, none] [] M v M' := by
  obtain ⟨d, rfl⟩ : ∃ e, d = e + 1 := ⟨d - 1, by omega⟩
  unfold J_193_17 at h
  refine Rc.run tb_193 2 (pc' := 20) (ls' := [some (.ref (77)), none, none, none]) (st' := [.int ((-1000001)), .ref (77)]) rfl rfl ?_
  cases hc2 : F_156 ((-1000001) : Int32) M with
  | none => rw [hc2] at h; cases h
  | some r2 =>
    obtain ⟨c2, M2⟩ := r2
    rw [hc2] at h
    dsimp only at h
    have hq2 := T_156 (X := X) (d := d) (by omega) (M := M) hc2
    refine Rc.callV tb_193 rfl rfl rfl mS_156 mP_156 mL_156 mO_156 rfl rfl ob_77 rfl rfl hq2 ?_
    obtain rfl := Option.some.inj h
    obtain ⟨rfl, rfl⟩ := hC
    exact Rc.iret (ins := .ireturn) tb_193 rfl mR_193
theorem TB_193_30 {X : AX} {d : Nat} (hd : 2 ≤ d) {x1 : Int32} {x2 : Int32} {M : IM} {v : Option Value} {M' : IM} : ∀ (s : Int32) (o : (Int32) ⊕ (Int32)), B_193_30 x1 x2 M s = some o → (∀ s', o = .inl s' → (fun x3 => Rc X d 193 30 [some (.ref (77)), some (.int (x1)), some (.int (x2)), some (.int (x3))] [] M v M') s') → (∀ r, o = .inr r → (fun x3 => Rc X d 193 47 [some (.ref (77)), some (.int (x1)), none, some (.int (x3))] [] M v M') r) → (fun x3 => Rc X d 193 30 [some (.ref (77)), some (.int (x1)), some (.int (x2)), some (.int (x3))] [] M v M') s := by
  intro x3 o h hP hE
  show Rc X d 193 30 [some (.ref (77)), some (.int (x1)), some (.int (x2)), some (.int (x3))] [] M v M'
  obtain ⟨d, rfl⟩ : ∃ e, d = e + 1 := ⟨d - 1, by omega⟩
  unfold B_193_30 at h
  dsimp only at h hP hE
  refine Rc.run tb_193 1 (pc' := 31) (ls' := [some (.ref (77)), some (.int (x1)), some (.int (x2)), some (.int (x3))]) (st' := [.int (x3)]) rfl rfl ?_
  refine Rc.if_lt (pc1 := 47) tb_193 rfl rfl (by decide) (by decide) (fun hb7 => ?_) (fun hb7 => ?_)
  · rw [if_pos hb7] at h
    refine Rc.mask (b := 11) ((tb_193.2 47).trans rfl) (ls' := [some (.ref (77)), some (.int (x1)), none, some (.int (x3))]) rfl ?_
    obtain rfl := Option.some.inj h
    exact hE _ rfl
  · rw [if_neg hb7] at h
    refine Rc.run tb_193 2 (pc' := 36) (ls' := [some (.ref (77)), some (.int (x1)), some (.int (x2)), some (.int (x3))]) (st' := [.int (x2), .int (x3)]) rfl rfl ?_
    refine Rc.icmp_eq (pc1 := 47) tb_193 rfl rfl (by decide) (by decide) (fun hb6 => ?_) (fun hb6 => ?_)
    · rw [if_pos hb6] at h
      refine Rc.mask (b := 11) ((tb_193.2 47).trans rfl) (ls' := [some (.ref (77)), some (.int (x1)), none, some (.int (x3))]) rfl ?_
      obtain rfl := Option.some.inj h
      exact hE _ rfl
    · rw [if_neg hb6] at h
      refine Rc.run tb_193 1 (pc' := 40) (ls' := [some (.ref (77)), some (.int (x1)), some (.int (x2)), some (.int (x3))]) (st' := [.int (x3)]) rfl rfl ?_
      have hq5 := T_192 (X := X) (d := d) (by omega) x3 M
      refine Rc.callS tb_193 rfl rfl rfl mS_192 mP_192 mL_192 rfl rfl rfl hq5 ?_
      refine Rc.run tb_193 2 (pc' := 30) (ls' := [some (.ref (77)), some (.int (x1)), some (.int (x2)), some (.int (F_192 x3))]) (st' := []) rfl rfl ?_
      refine Rc.mask (b := 15) ((tb_193.2 30).trans rfl) (ls' := [some (.ref (77)), some (.int (x1)), some (.int (x2)), some (.int (F_192 x3))]) rfl ?_
      obtain rfl := Option.some.inj h
      exact hP _ rfl
theorem TL_193_30 {X : AX} {d : Nat} (hd : 2 ≤ d) {x1 : Int32} {x2 : Int32} {M : IM} {x3 : Int32} {v : Option Value} {M' : IM} {r : Int32} (h : L_193_30 x1 x2 M x3 = some r) (hE : (fun x3 => Rc X d 193 47 [some (.ref (77)), some (.int (x1)), none, some (.int (x3))] [] M v M') r) : Rc X d 193 30 [some (.ref (77)), some (.int (x1)), some (.int (x2)), some (.int (x3))] [] M v M' := by
  exact loopN_rc (P := fun x3 => Rc X d 193 30 [some (.ref (77)), some (.int (x1)), some (.int (x2)), some (.int (x3))] [] M v M') (E := fun x3 => Rc X d 193 47 [some (.ref (77)), some (.int (x1)), none, some (.int (x3))] [] M v M') (TB_193_30 (X := X) hd) FU _ r h hE
theorem TJ_193_47 {X : AX} {d : Nat} (hd : 2 ≤ d) {x1 : Int32} {x3 : Int32} {M : IM} {v : Option Value} {M' : IM} {o : Int32 × IM} (h : J_193_47 x1 x3 M = some o) (hC : v = some (.int o.1) ∧ M' = o.2) : Rc X d 193 47 [some (.ref (77)), some (.int (x1)), none, some (.int (x3))] [] M v M' := by
  obtain ⟨d, rfl⟩ : ∃ e, d = e + 1 := ⟨d - 1, by omega⟩
  unfold J_193_47 at h
  refine Rc.run tb_193 1 (pc' := 48) (ls' := [some (.ref (77)), some (.int (x1)), none, some (.int (x3))]) (st' := [.int (x3)]) rfl rfl ?_
  refine Rc.if_ge (pc1 := 60) tb_193 rfl rfl (by decide) (by decide) (fun hb11 => ?_) (fun hb11 => ?_)
  · rw [if_pos hb11] at h
    refine Rc.run tb_193 2 (pc' := 62) (ls' := [some (.ref (77)), some (.int (x1)), none, some (.int (x3))]) (st' := [.int (x1), .ref (77)]) rfl rfl ?_
    cases hc9 : F_164 x1 M with
    | none => rw [hc9] at h; cases h
    | some c9 =>
      rw [hc9] at h
      dsimp only at h
      have hq9 := T_164 (X := X) (d := d) (by omega) (M := M) hc9
      refine Rc.callV tb_193 rfl rfl rfl mS_164 mP_164 mL_164 mO_164 rfl rfl ob_77 rfl rfl hq9 ?_
      obtain rfl := Option.some.inj h
      obtain ⟨rfl, rfl⟩ := hC
      exact Rc.iret (ins := .ireturn) tb_193 rfl mR_193
  · rw [if_neg hb11] at h
    refine Rc.run tb_193 2 (pc' := 54) (ls' := [some (.ref (77)), some (.int (x1)), none, some (.int (x3))]) (st' := [.int ((-1000005)), .ref (77)]) rfl rfl ?_
    cases hc10 : F_156 ((-1000005) : Int32) M with
    | none => rw [hc10] at h; cases h
    | some r10 =>
      obtain ⟨c10, M10⟩ := r10
      rw [hc10] at h
      dsimp only at h
      have hq10 := T_156 (X := X) (d := d) (by omega) (M := M) hc10
      refine Rc.callV tb_193 rfl rfl rfl mS_156 mP_156 mL_156 mO_156 rfl rfl ob_77 rfl rfl hq10 ?_
      refine Rc.run tb_193 1 (pc' := 65) (ls' := [some (.ref (77)), some (.int (x1)), none, some (.int (x3))]) (st' := [.int (c10)]) rfl rfl ?_
      obtain rfl := Option.some.inj h
      obtain ⟨rfl, rfl⟩ := hC
      exact Rc.iret (ins := .ireturn) tb_193 rfl mR_193
theorem TF_193 {X : AX} {d : Nat} (hd : 2 ≤ d) {a1 : Int32} {a2 : Int32} {M : IM} {v : Option Value} {M' : IM} {o : Int32 × IM} (h : F_193 a1 a2 M = some o) (hC : v = some (.int o.1) ∧ M' = o.2) : Rc X d 193 0 [some (.ref (77)), some (.int (a1)), some (.int (a2)), none] [] M v M' := by
  obtain ⟨d, rfl⟩ : ∃ e, d = e + 1 := ⟨d - 1, by omega⟩
  unfold F_193 at h
  refine Rc.run tb_193 2 (pc' := 2) (ls' := [some (.ref (77)), some (.int (a1)), some (.int (a2)), none]) (st' := [.int (a1), .ref (77)]) rfl rfl ?_
  have hq1 := T_160 (X := X) (d := d) (by omega) a1 M
  have hz1 := Rc.bool mR_160 hq1
  refine Rc.callV tb_193 rfl rfl rfl mS_160 mP_160 mL_160 mO_160 rfl rfl ob_77 rfl rfl hq1 ?_
  refine Rc.if_eq (pc1 := 17) tb_193 rfl rfl (by decide) (by decide) (fun hb13 => ?_) (fun hb13 => ?_)
  · rw [if_pos hb13] at h
    refine Rc.mask (b := 1) ((tb_193.2 17).trans rfl) (ls' := [some (.ref (77)), none, none, none]) rfl ?_
    exact TJ_193_17 (X := X) (d := d + 1) (by omega) h hC
  · rw [if_neg hb13] at h
    refine Rc.run tb_193 3 (pc' := 11) (ls' := [some (.ref (77)), some (.int (a1)), some (.int (a2)), none]) (st' := [.int (5), .int (0), .int (a2)]) rfl rfl ?_
    have hq3 := T_157 (X := X) (d := d) (by omega) a2 (0 : Int32) (5 : Int32) M
    have hz3 := Rc.bool mR_157 hq3
    refine Rc.callS tb_193 rfl rfl rfl mS_157 mP_157 mL_157 rfl rfl rfl hq3 ?_
    refine Rc.if_ne (pc1 := 24) tb_193 rfl rfl (by decide) (by decide) (fun hb12 => ?_) (fun hb12 => ?_)
    · rw [if_pos hb12] at h
      refine Rc.mask (b := 1) ((tb_193.2 17).trans rfl) (ls' := [some (.ref (77)), none, none, none]) rfl ?_
      exact TJ_193_17 (X := X) (d := d + 1) (by omega) h hC
    · rw [if_neg hb12] at h
      refine Rc.run tb_193 2 (pc' := 26) (ls' := [some (.ref (77)), some (.int (a1)), some (.int (a2)), none]) (st' := [.int (a1), .ref (77)]) rfl rfl ?_
      cases hc4 : F_163 a1 M with
      | none => rw [hc4] at h; cases h
      | some c4 =>
        rw [hc4] at h
        dsimp only at h
        have hq4 := T_163 (X := X) (d := d) (by omega) (M := M) hc4
        refine Rc.callV tb_193 rfl rfl rfl mS_163 mP_163 mL_163 mO_163 rfl rfl ob_77 rfl rfl hq4 ?_
        refine Rc.run tb_193 1 (pc' := 30) (ls' := [some (.ref (77)), some (.int (a1)), some (.int (a2)), some (.int (c4))]) (st' := []) rfl rfl ?_
        refine Rc.mask (b := 15) ((tb_193.2 30).trans rfl) (ls' := [some (.ref (77)), some (.int (a1)), some (.int (a2)), some (.int (c4))]) rfl ?_
        cases hl8 : L_193_30 a1 a2 M c4 with
        | none => rw [hl8] at h; cases h
        | some x3_8 =>
          rw [hl8] at h
          dsimp only at h
          refine TL_193_30 (X := X) (d := d + 1) (by omega) hl8 ?_
          refine Rc.mask (b := 11) ((tb_193.2 47).trans rfl) (ls' := [some (.ref (77)), some (.int (a1)), none, some (.int (x3_8))]) rfl ?_
          exact TJ_193_47 (X := X) (d := d + 1) (by omega) h hC
theorem T_193 {X : AX} {d : Nat} (hd : 2 ≤ d) {a1 : Int32} {a2 : Int32} {M : IM} {x : Int32} {M1 : IM} (h : F_193 a1 a2 M = some (x, M1)) : Rc X d 193 0 [some (.ref (77)), some (.int (a1)), some (.int (a2)), none] [] M (some (.int x)) M1 := TF_193 hd h ⟨rfl, rfl⟩
/-! 194: NineDemandsModel.isCase -/
def F_194 (a1 : Int32) (a2 : Int32) (M : IM) : Option (Int32) := if F_160 a1 M = 0 then (some (0)) else (match F_164 a1 M with | none => none | some c2 => (if F_157 a2 (0 : Int32) (c2 - 1) = 0 then (some (0)) else (some (1))))
theorem TF_194 {X : AX} {d : Nat} (hd : 2 ≤ d) {a1 : Int32} {a2 : Int32} {M : IM} {v : Option Value} {M' : IM} {o : Int32} (h : F_194 a1 a2 M = some o) (hC : v = some (.int o) ∧ M' = M) : Rc X d 194 0 [some (.ref (77)), some (.int (a1)), some (.int (a2))] [] M v M' := by
  obtain ⟨d, rfl⟩ : ∃ e, d = e + 1 := ⟨d - 1, by omega⟩
  unfold F_194 at h
  refine Rc.run tb_194 2 (pc' := 2) (ls' := [some (.ref (77)), some (.int (a1)), some (.int (a2))]) (st' := [.int (a1), .ref (77)]) rfl rfl ?_
  have hq1 := T_160 (X := X) (d := d) (by omega) a1 M
  have hz1 := Rc.bool mR_160 hq1
  refine Rc.callV tb_194 rfl rfl rfl mS_160 mP_160 mL_160 mO_160 rfl rfl ob_77 rfl rfl hq1 ?_
  refine Rc.if_eq (pc1 := 27) tb_194 rfl rfl (by decide) (by decide) (fun hb5 => ?_) (fun hb5 => ?_)
  · rw [if_pos hb5] at h
    refine Rc.run tb_194 1 (pc' := 28) (ls' := [none, none, none]) (st' := [.int (0)]) rfl rfl ?_
    obtain rfl := Option.some.inj h
    obtain ⟨rfl, rfl⟩ := hC
    exact Rc.zret tb_194 rfl mR_194 (Or.inl rfl)
  · rw [if_neg hb5] at h
    refine Rc.run tb_194 4 (pc' := 12) (ls' := [some (.ref (77)), some (.int (a1)), some (.int (a2))]) (st' := [.int (a1), .ref (77), .int (0), .int (a2)]) rfl rfl ?_
    cases hc2 : F_164 a1 M with
    | none => rw [hc2] at h; cases h
    | some c2 =>
      rw [hc2] at h
      dsimp only at h
      have hq2 := T_164 (X := X) (d := d) (by omega) (M := M) hc2
      refine Rc.callV tb_194 rfl rfl rfl mS_164 mP_164 mL_164 mO_164 rfl rfl ob_77 rfl rfl hq2 ?_
      refine Rc.run tb_194 2 (pc' := 17) (ls' := [some (.ref (77)), some (.int (a1)), some (.int (a2))]) (st' := [.int (c2 - 1), .int (0), .int (a2)]) rfl rfl ?_
      have hq3 := T_157 (X := X) (d := d) (by omega) a2 (0 : Int32) (c2 - 1) M
      have hz3 := Rc.bool mR_157 hq3
      refine Rc.callS tb_194 rfl rfl rfl mS_157 mP_157 mL_157 rfl rfl rfl hq3 ?_
      refine Rc.if_eq (pc1 := 27) tb_194 rfl rfl (by decide) (by decide) (fun hb4 => ?_) (fun hb4 => ?_)
      · rw [if_pos hb4] at h
        refine Rc.run tb_194 1 (pc' := 28) (ls' := [none, none, none]) (st' := [.int (0)]) rfl rfl ?_
        obtain rfl := Option.some.inj h
        obtain ⟨rfl, rfl⟩ := hC
        exact Rc.zret tb_194 rfl mR_194 (Or.inl rfl)
      · rw [if_neg hb4] at h
        refine Rc.run tb_194 2 (pc' := 28) (ls' := [some (.ref (77)), some (.int (a1)), some (.int (a2))]) (st' := [.int (1)]) rfl rfl ?_
        obtain rfl := Option.some.inj h
        obtain ⟨rfl, rfl⟩ := hC
        exact Rc.zret tb_194 rfl mR_194 (Or.inr rfl)
theorem T_194 {X : AX} {d : Nat} (hd : 2 ≤ d) {a1 : Int32} {a2 : Int32} {M : IM} {x : Int32} (h : F_194 a1 a2 M = some x) : Rc X d 194 0 [some (.ref (77)), some (.int (a1)), some (.int (a2))] [] M (some (.int x)) M := TF_194 hd h ⟨rfl, rfl⟩
/-! 195: NineDemandsModel.hallOf -/
def F_195 (a1 : Int32) (a2 : Int32) (M : IM) : Option (Int32) := (match F_163 a1 M with | none => none | some c1 => (if inb c1 7 = true then (if inb ((M 81 c1.toNatClampNeg) + a2) 90 = true then (some (M 82 ((M 81 c1.toNatClampNeg) + a2).toNatClampNeg)) else none) else none))
theorem TF_195 {X : AX} {d : Nat} (hd : 1 ≤ d) {a1 : Int32} {a2 : Int32} {M : IM} {v : Option Value} {M' : IM} {o : Int32} (h : F_195 a1 a2 M = some o) (hC : v = some (.int o) ∧ M' = M) : Rc X d 195 0 [some (.ref (77)), some (.int (a1)), some (.int (a2))] [] M v M' := by
  obtain ⟨d, rfl⟩ : ∃ e, d = e + 1 := ⟨d - 1, by omega⟩
  unfold F_195 at h
  refine Rc.run tb_195 1 (pc' := 1) (ls' := [some (.ref (77)), some (.int (a1)), some (.int (a2))]) (st' := [.ref (77)]) rfl rfl ?_
  refine Rc.getR tb_195 rfl rfl ob_77 (by decide +kernel) tg_77_5 (by decide) ?_
  refine Rc.run tb_195 1 (pc' := 5) (ls' := [some (.ref (77)), some (.int (a1)), some (.int (a2))]) (st' := [.ref (77), .ref (82)]) rfl rfl ?_
  refine Rc.getR tb_195 rfl rfl ob_77 (by decide +kernel) tg_77_4 (by decide) ?_
  refine Rc.run tb_195 2 (pc' := 10) (ls' := [some (.ref (77)), some (.int (a1)), some (.int (a2))]) (st' := [.int (a1), .ref (77), .ref (81), .ref (82)]) rfl rfl ?_
  cases hc1 : F_163 a1 M with
  | none => rw [hc1] at h; cases h
  | some c1 =>
    rw [hc1] at h
    dsimp only at h
    have hq1 := T_163 (X := X) (d := d) (by omega) (M := M) hc1
    refine Rc.callV tb_195 rfl rfl rfl mS_163 mP_163 mL_163 mO_163 rfl rfl ob_77 rfl rfl hq1 ?_
    by_cases hb3 : inb c1 7 = true
    · rw [if_pos hb3] at h
      refine Rc.iald tb_195 rfl rfl ia_81 hb3 ?_
      refine Rc.run tb_195 2 (pc' := 16) (ls' := [some (.ref (77)), some (.int (a1)), some (.int (a2))]) (st' := [.int ((M 81 c1.toNatClampNeg) + a2), .ref (82)]) rfl rfl ?_
      by_cases hb2 : inb ((M 81 c1.toNatClampNeg) + a2) 90 = true
      · rw [if_pos hb2] at h
        refine Rc.iald tb_195 rfl rfl ia_82 hb2 ?_
        obtain rfl := Option.some.inj h
        obtain ⟨rfl, rfl⟩ := hC
        exact Rc.iret (ins := .ireturn) tb_195 rfl mR_195
      · rw [if_neg hb2] at h
        cases h
    · rw [if_neg hb3] at h
      cases h
theorem T_195 {X : AX} {d : Nat} (hd : 1 ≤ d) {a1 : Int32} {a2 : Int32} {M : IM} {x : Int32} (h : F_195 a1 a2 M = some x) : Rc X d 195 0 [some (.ref (77)), some (.int (a1)), some (.int (a2))] [] M (some (.int x)) M := TF_195 hd h ⟨rfl, rfl⟩
/-! 196: NineDemandsModel.otherOf -/
def F_196 (a1 : Int32) (a2 : Int32) (M : IM) : Option (Int32) := (match F_163 a1 M with | none => none | some c1 => (if inb c1 7 = true then (if inb ((M 81 c1.toNatClampNeg) + a2) 90 = true then (some (M 83 ((M 81 c1.toNatClampNeg) + a2).toNatClampNeg)) else none) else none))
theorem TF_196 {X : AX} {d : Nat} (hd : 1 ≤ d) {a1 : Int32} {a2 : Int32} {M : IM} {v : Option Value} {M' : IM} {o : Int32} (h : F_196 a1 a2 M = some o) (hC : v = some (.int o) ∧ M' = M) : Rc X d 196 0 [some (.ref (77)), some (.int (a1)), some (.int (a2))] [] M v M' := by
  obtain ⟨d, rfl⟩ : ∃ e, d = e + 1 := ⟨d - 1, by omega⟩
  unfold F_196 at h
  refine Rc.run tb_196 1 (pc' := 1) (ls' := [some (.ref (77)), some (.int (a1)), some (.int (a2))]) (st' := [.ref (77)]) rfl rfl ?_
  refine Rc.getR tb_196 rfl rfl ob_77 (by decide +kernel) tg_77_6 (by decide) ?_
  refine Rc.run tb_196 1 (pc' := 5) (ls' := [some (.ref (77)), some (.int (a1)), some (.int (a2))]) (st' := [.ref (77), .ref (83)]) rfl rfl ?_
  refine Rc.getR tb_196 rfl rfl ob_77 (by decide +kernel) tg_77_4 (by decide) ?_
  refine Rc.run tb_196 2 (pc' := 10) (ls' := [some (.ref (77)), some (.int (a1)), some (.int (a2))]) (st' := [.int (a1), .ref (77), .ref (81), .ref (83)]) rfl rfl ?_
  cases hc1 : F_163 a1 M with
  | none => rw [hc1] at h; cases h
  | some c1 =>
    rw [hc1] at h
    dsimp only at h
    have hq1 := T_163 (X := X) (d := d) (by omega) (M := M) hc1
    refine Rc.callV tb_196 rfl rfl rfl mS_163 mP_163 mL_163 mO_163 rfl rfl ob_77 rfl rfl hq1 ?_
    by_cases hb3 : inb c1 7 = true
    · rw [if_pos hb3] at h
      refine Rc.iald tb_196 rfl rfl ia_81 hb3 ?_
      refine Rc.run tb_196 2 (pc' := 16) (ls' := [some (.ref (77)), some (.int (a1)), some (.int (a2))]) (st' := [.int ((M 81 c1.toNatClampNeg) + a2), .ref (83)]) rfl rfl ?_
      by_cases hb2 : inb ((M 81 c1.toNatClampNeg) + a2) 90 = true
      · rw [if_pos hb2] at h
        refine Rc.iald tb_196 rfl rfl ia_83 hb2 ?_
        obtain rfl := Option.some.inj h
        obtain ⟨rfl, rfl⟩ := hC
        exact Rc.iret (ins := .ireturn) tb_196 rfl mR_196
      · rw [if_neg hb2] at h
        cases h
    · rw [if_neg hb3] at h
      cases h
theorem T_196 {X : AX} {d : Nat} (hd : 1 ≤ d) {a1 : Int32} {a2 : Int32} {M : IM} {x : Int32} (h : F_196 a1 a2 M = some x) : Rc X d 196 0 [some (.ref (77)), some (.int (a1)), some (.int (a2))] [] M (some (.int x)) M := TF_196 hd h ⟨rfl, rfl⟩
/-! 197: NineDemandsModel.part -/
def J_197_18 (M : IM) : Option (Int32 × IM) := (match F_156 ((-1000001) : Int32) M with | none => none | some (c2, M2) => (some ((c2, M2))))
def F_197 (a1 : Int32) (a2 : Int32) (a3 : Int32) (M : IM) : Option (Int32 × IM) := (match F_194 a1 a2 M with | none => none | some c1 => (if c1 = 0 then (J_197_18 M) else (if F_157 a3 (0 : Int32) (1 : Int32) = 0 then (J_197_18 M) else (if a3 = 0 then (match F_195 a1 a2 M with | none => none | some c4 => (some ((c4, M)))) else (match F_165 a1 M with | none => none | some c5 => (if c5 = 0 then (match F_156 ((-1000002) : Int32) M with | none => none | some (c6, M6) => (some ((c6, M6)))) else (match F_196 a1 a2 M with | none => none | some c7 => (some ((c7, M))))))))))
theorem TJ_197_18 {X : AX} {d : Nat} (hd : 3 ≤ d) {M : IM} {v : Option Value} {M' : IM} {o : Int32 × IM} (h : J_197_18 M = some o) (hC : v = some (.int o.1) ∧ M' = o.2) : Rc X d 197 18 [some (.ref (77)), none, none, none] [] M v M' := by
  obtain ⟨d, rfl⟩ : ∃ e, d = e + 1 := ⟨d - 1, by omega⟩
  unfold J_197_18 at h
  refine Rc.run tb_197 2 (pc' := 21) (ls' := [some (.ref (77)), none, none, none]) (st' := [.int ((-1000001)), .ref (77)]) rfl rfl ?_
  cases hc2 : F_156 ((-1000001) : Int32) M with
  | none => rw [hc2] at h; cases h
  | some r2 =>
    obtain ⟨c2, M2⟩ := r2
    rw [hc2] at h
    dsimp only at h
    have hq2 := T_156 (X := X) (d := d) (by omega) (M := M) hc2
    refine Rc.callV tb_197 rfl rfl rfl mS_156 mP_156 mL_156 mO_156 rfl rfl ob_77 rfl rfl hq2 ?_
    obtain rfl := Option.some.inj h
    obtain ⟨rfl, rfl⟩ := hC
    exact Rc.iret (ins := .ireturn) tb_197 rfl mR_197
theorem TF_197 {X : AX} {d : Nat} (hd : 3 ≤ d) {a1 : Int32} {a2 : Int32} {a3 : Int32} {M : IM} {v : Option Value} {M' : IM} {o : Int32 × IM} (h : F_197 a1 a2 a3 M = some o) (hC : v = some (.int o.1) ∧ M' = o.2) : Rc X d 197 0 [some (.ref (77)), some (.int (a1)), some (.int (a2)), some (.int (a3))] [] M v M' := by
  obtain ⟨d, rfl⟩ : ∃ e, d = e + 1 := ⟨d - 1, by omega⟩
  unfold F_197 at h
  refine Rc.run tb_197 3 (pc' := 3) (ls' := [some (.ref (77)), some (.int (a1)), some (.int (a2)), some (.int (a3))]) (st' := [.int (a2), .int (a1), .ref (77)]) rfl rfl ?_
  cases hc1 : F_194 a1 a2 M with
  | none => rw [hc1] at h; cases h
  | some c1 =>
    rw [hc1] at h
    dsimp only at h
    have hq1 := T_194 (X := X) (d := d) (by omega) (M := M) hc1
    have hz1 := Rc.bool mR_194 hq1
    refine Rc.callV tb_197 rfl rfl rfl mS_194 mP_194 mL_194 mO_194 rfl rfl ob_77 rfl rfl hq1 ?_
    refine Rc.if_eq (pc1 := 18) tb_197 rfl rfl (by decide) (by decide) (fun hb11 => ?_) (fun hb11 => ?_)
    · rw [if_pos hb11] at h
      refine Rc.mask (b := 1) ((tb_197.2 18).trans rfl) (ls' := [some (.ref (77)), none, none, none]) rfl ?_
      exact TJ_197_18 (X := X) (d := d + 1) (by omega) h hC
    · rw [if_neg hb11] at h
      refine Rc.run tb_197 3 (pc' := 12) (ls' := [some (.ref (77)), some (.int (a1)), some (.int (a2)), some (.int (a3))]) (st' := [.int (1), .int (0), .int (a3)]) rfl rfl ?_
      have hq3 := T_157 (X := X) (d := d) (by omega) a3 (0 : Int32) (1 : Int32) M
      have hz3 := Rc.bool mR_157 hq3
      refine Rc.callS tb_197 rfl rfl rfl mS_157 mP_157 mL_157 rfl rfl rfl hq3 ?_
      refine Rc.if_ne (pc1 := 25) tb_197 rfl rfl (by decide) (by decide) (fun hb10 => ?_) (fun hb10 => ?_)
      · rw [if_pos hb10] at h
        refine Rc.mask (b := 1) ((tb_197.2 18).trans rfl) (ls' := [some (.ref (77)), none, none, none]) rfl ?_
        exact TJ_197_18 (X := X) (d := d + 1) (by omega) h hC
      · rw [if_neg hb10] at h
        refine Rc.run tb_197 1 (pc' := 26) (ls' := [some (.ref (77)), some (.int (a1)), some (.int (a2)), some (.int (a3))]) (st' := [.int (a3)]) rfl rfl ?_
        refine Rc.if_ne (pc1 := 36) tb_197 rfl rfl (by decide) (by decide) (fun hb9 => ?_) (fun hb9 => ?_)
        · rw [if_pos hb9] at h
          refine Rc.run tb_197 3 (pc' := 32) (ls' := [some (.ref (77)), some (.int (a1)), some (.int (a2)), some (.int (a3))]) (st' := [.int (a2), .int (a1), .ref (77)]) rfl rfl ?_
          cases hc4 : F_195 a1 a2 M with
          | none => rw [hc4] at h; cases h
          | some c4 =>
            rw [hc4] at h
            dsimp only at h
            have hq4 := T_195 (X := X) (d := d) (by omega) (M := M) hc4
            refine Rc.callV tb_197 rfl rfl rfl mS_195 mP_195 mL_195 mO_195 rfl rfl ob_77 rfl rfl hq4 ?_
            obtain rfl := Option.some.inj h
            obtain ⟨rfl, rfl⟩ := hC
            exact Rc.iret (ins := .ireturn) tb_197 rfl mR_197
        · rw [if_neg hb9] at h
          refine Rc.run tb_197 2 (pc' := 38) (ls' := [some (.ref (77)), some (.int (a1)), some (.int (a2)), some (.int (a3))]) (st' := [.int (a1), .ref (77)]) rfl rfl ?_
          cases hc5 : F_165 a1 M with
          | none => rw [hc5] at h; cases h
          | some c5 =>
            rw [hc5] at h
            dsimp only at h
            have hq5 := T_165 (X := X) (d := d) (by omega) (M := M) hc5
            have hz5 := Rc.bool mR_165 hq5
            refine Rc.callV tb_197 rfl rfl rfl mS_165 mP_165 mL_165 mO_165 rfl rfl ob_77 rfl rfl hq5 ?_
            refine Rc.if_eq (pc1 := 53) tb_197 rfl rfl (by decide) (by decide) (fun hb8 => ?_) (fun hb8 => ?_)
            · rw [if_pos hb8] at h
              refine Rc.run tb_197 2 (pc' := 56) (ls' := [some (.ref (77)), some (.int (a1)), some (.int (a2)), some (.int (a3))]) (st' := [.int ((-1000002)), .ref (77)]) rfl rfl ?_
              cases hc6 : F_156 ((-1000002) : Int32) M with
              | none => rw [hc6] at h; cases h
              | some r6 =>
                obtain ⟨c6, M6⟩ := r6
                rw [hc6] at h
                dsimp only at h
                have hq6 := T_156 (X := X) (d := d) (by omega) (M := M) hc6
                refine Rc.callV tb_197 rfl rfl rfl mS_156 mP_156 mL_156 mO_156 rfl rfl ob_77 rfl rfl hq6 ?_
                obtain rfl := Option.some.inj h
                obtain ⟨rfl, rfl⟩ := hC
                exact Rc.iret (ins := .ireturn) tb_197 rfl mR_197
            · rw [if_neg hb8] at h
              refine Rc.run tb_197 3 (pc' := 47) (ls' := [some (.ref (77)), some (.int (a1)), some (.int (a2)), some (.int (a3))]) (st' := [.int (a2), .int (a1), .ref (77)]) rfl rfl ?_
              cases hc7 : F_196 a1 a2 M with
              | none => rw [hc7] at h; cases h
              | some c7 =>
                rw [hc7] at h
                dsimp only at h
                have hq7 := T_196 (X := X) (d := d) (by omega) (M := M) hc7
                refine Rc.callV tb_197 rfl rfl rfl mS_196 mP_196 mL_196 mO_196 rfl rfl ob_77 rfl rfl hq7 ?_
                refine Rc.run tb_197 1 (pc' := 59) (ls' := [some (.ref (77)), some (.int (a1)), some (.int (a2)), some (.int (a3))]) (st' := [.int (c7)]) rfl rfl ?_
                obtain rfl := Option.some.inj h
                obtain ⟨rfl, rfl⟩ := hC
                exact Rc.iret (ins := .ireturn) tb_197 rfl mR_197
theorem T_197 {X : AX} {d : Nat} (hd : 3 ≤ d) {a1 : Int32} {a2 : Int32} {a3 : Int32} {M : IM} {x : Int32} {M1 : IM} (h : F_197 a1 a2 a3 M = some (x, M1)) : Rc X d 197 0 [some (.ref (77)), some (.int (a1)), some (.int (a2)), some (.int (a3))] [] M (some (.int x)) M1 := TF_197 hd h ⟨rfl, rfl⟩
/-! 198: NineDemandsModel.goes -/
def F_198 (a1 : Int32) (a2 : Int32) (a3 : Int32) (a4 : Int32) (M : IM) : Option (Int32) := if inb ((110 + (32 * a1)) + a2) 366 = true then (match F_165 a1 M with | none => none | some c1 => (if c1 = 0 then (some (F_162 (M 78 ((110 + (32 * a1)) + a2).toNatClampNeg) (a3 - 1))) else (some (F_162 (M 78 ((110 + (32 * a1)) + a2).toNatClampNeg) (((3 * a3) + a4) - 4))))) else none
theorem TF_198 {X : AX} {d : Nat} (hd : 2 ≤ d) {a1 : Int32} {a2 : Int32} {a3 : Int32} {a4 : Int32} {M : IM} {v : Option Value} {M' : IM} {o : Int32} (h : F_198 a1 a2 a3 a4 M = some o) (hC : v = some (.int o) ∧ M' = M) : Rc X d 198 0 [some (.ref (77)), some (.int (a1)), some (.int (a2)), some (.int (a3)), some (.int (a4)), none] [] M v M' := by
  obtain ⟨d, rfl⟩ : ∃ e, d = e + 1 := ⟨d - 1, by omega⟩
  unfold F_198 at h
  refine Rc.run tb_198 1 (pc' := 1) (ls' := [some (.ref (77)), some (.int (a1)), some (.int (a2)), some (.int (a3)), some (.int (a4)), none]) (st' := [.ref (77)]) rfl rfl ?_
  refine Rc.getR tb_198 rfl rfl ob_77 (by decide +kernel) tg_77_0 (by decide) ?_
  refine Rc.run tb_198 7 (pc' := 13) (ls' := [some (.ref (77)), some (.int (a1)), some (.int (a2)), some (.int (a3)), some (.int (a4)), none]) (st' := [.int ((110 + (32 * a1)) + a2), .ref (78)]) rfl rfl ?_
  by_cases hb5 : inb ((110 + (32 * a1)) + a2) 366 = true
  · rw [if_pos hb5] at h
    refine Rc.iald tb_198 rfl rfl ia_78 hb5 ?_
    refine Rc.run tb_198 3 (pc' := 18) (ls' := [some (.ref (77)), some (.int (a1)), some (.int (a2)), some (.int (a3)), some (.int (a4)), some (.int (M 78 ((110 + (32 * a1)) + a2).toNatClampNeg))]) (st' := [.int (a1), .ref (77)]) rfl rfl ?_
    cases hc1 : F_165 a1 M with
    | none => rw [hc1] at h; cases h
    | some c1 =>
      rw [hc1] at h
      dsimp only at h
      have hq1 := T_165 (X := X) (d := d) (by omega) (M := M) hc1
      have hz1 := Rc.bool mR_165 hq1
      refine Rc.callV tb_198 rfl rfl rfl mS_165 mP_165 mL_165 mO_165 rfl rfl ob_77 rfl rfl hq1 ?_
      refine Rc.if_eq (pc1 := 40) tb_198 rfl rfl (by decide) (by decide) (fun hb4 => ?_) (fun hb4 => ?_)
      · rw [if_pos hb4] at h
        refine Rc.run tb_198 4 (pc' := 45) (ls' := [some (.ref (77)), some (.int (a1)), some (.int (a2)), some (.int (a3)), some (.int (a4)), some (.int (M 78 ((110 + (32 * a1)) + a2).toNatClampNeg))]) (st' := [.int (a3 - 1), .int (M 78 ((110 + (32 * a1)) + a2).toNatClampNeg)]) rfl rfl ?_
        have hq2 := T_162 (X := X) (d := d) (by omega) (M 78 ((110 + (32 * a1)) + a2).toNatClampNeg) (a3 - 1) M
        have hz2 := Rc.bool mR_162 hq2
        refine Rc.callS tb_198 rfl rfl rfl mS_162 mP_162 mL_162 rfl rfl rfl hq2 ?_
        obtain rfl := Option.some.inj h
        obtain ⟨rfl, rfl⟩ := hC
        exact Rc.zret tb_198 rfl mR_198 hz2
      · rw [if_neg hb4] at h
        refine Rc.run tb_198 8 (pc' := 34) (ls' := [some (.ref (77)), some (.int (a1)), some (.int (a2)), some (.int (a3)), some (.int (a4)), some (.int (M 78 ((110 + (32 * a1)) + a2).toNatClampNeg))]) (st' := [.int (((3 * a3) + a4) - 4), .int (M 78 ((110 + (32 * a1)) + a2).toNatClampNeg)]) rfl rfl ?_
        have hq3 := T_162 (X := X) (d := d) (by omega) (M 78 ((110 + (32 * a1)) + a2).toNatClampNeg) (((3 * a3) + a4) - 4) M
        have hz3 := Rc.bool mR_162 hq3
        refine Rc.callS tb_198 rfl rfl rfl mS_162 mP_162 mL_162 rfl rfl rfl hq3 ?_
        refine Rc.run tb_198 1 (pc' := 48) (ls' := [some (.ref (77)), some (.int (a1)), some (.int (a2)), some (.int (a3)), some (.int (a4)), some (.int (M 78 ((110 + (32 * a1)) + a2).toNatClampNeg))]) (st' := [.int (F_162 (M 78 ((110 + (32 * a1)) + a2).toNatClampNeg) (((3 * a3) + a4) - 4))]) rfl rfl ?_
        obtain rfl := Option.some.inj h
        obtain ⟨rfl, rfl⟩ := hC
        exact Rc.zret tb_198 rfl mR_198 hz3
  · rw [if_neg hb5] at h
    cases h
theorem T_198 {X : AX} {d : Nat} (hd : 2 ≤ d) {a1 : Int32} {a2 : Int32} {a3 : Int32} {a4 : Int32} {M : IM} {x : Int32} (h : F_198 a1 a2 a3 a4 M = some x) : Rc X d 198 0 [some (.ref (77)), some (.int (a1)), some (.int (a2)), some (.int (a3)), some (.int (a4)), none] [] M (some (.int x)) M := TF_198 hd h ⟨rfl, rfl⟩
/-! 199: NineDemandsModel.so -/
def J_199_32 (M : IM) : Option (Int32 × IM) := (match F_156 ((-1000001) : Int32) M with | none => none | some (c2, M2) => (some ((c2, M2))))
def J_199_39 (x1 : Int32) (x2 : Int32) (x3 : Int32) (x4 : Int32) (M : IM) : Option (Int32 × IM) := (match F_198 x1 x2 x3 x4 M with | none => none | some c5 => (if c5 = 0 then (some ((0, M))) else (some ((1, M)))))
def F_199 (a1 : Int32) (a2 : Int32) (a3 : Int32) (a4 : Int32) (M : IM) : Option (Int32 × IM) := (match F_194 a1 a2 M with | none => none | some c1 => (if c1 = 0 then (J_199_32 M) else (if F_159 a3 = 0 then (J_199_32 M) else (match F_165 a1 M with | none => none | some c4 => (if c4 = 0 then (J_199_39 a1 a2 a3 a4 M) else (if F_159 a4 = 0 then (J_199_32 M) else (J_199_39 a1 a2 a3 a4 M)))))))
theorem TJ_199_32 {X : AX} {d : Nat} (hd : 3 ≤ d) {M : IM} {v : Option Value} {M' : IM} {o : Int32 × IM} (h : J_199_32 M = some o) (hC : v = some (.int o.1) ∧ M' = o.2) : Rc X d 199 32 [some (.ref (77)), none, none, none, none] [] M v M' := by
  obtain ⟨d, rfl⟩ : ∃ e, d = e + 1 := ⟨d - 1, by omega⟩
  unfold J_199_32 at h
  refine Rc.run tb_199 2 (pc' := 35) (ls' := [some (.ref (77)), none, none, none, none]) (st' := [.int ((-1000001)), .ref (77)]) rfl rfl ?_
  cases hc2 : F_156 ((-1000001) : Int32) M with
  | none => rw [hc2] at h; cases h
  | some r2 =>
    obtain ⟨c2, M2⟩ := r2
    rw [hc2] at h
    dsimp only at h
    have hq2 := T_156 (X := X) (d := d) (by omega) (M := M) hc2
    refine Rc.callV tb_199 rfl rfl rfl mS_156 mP_156 mL_156 mO_156 rfl rfl ob_77 rfl rfl hq2 ?_
    obtain rfl := Option.some.inj h
    obtain ⟨rfl, rfl⟩ := hC
    exact Rc.iret (ins := .ireturn) tb_199 rfl mR_199
theorem TJ_199_39 {X : AX} {d : Nat} (hd : 3 ≤ d) {x1 : Int32} {x2 : Int32} {x3 : Int32} {x4 : Int32} {M : IM} {v : Option Value} {M' : IM} {o : Int32 × IM} (h : J_199_39 x1 x2 x3 x4 M = some o) (hC : v = some (.int o.1) ∧ M' = o.2) : Rc X d 199 39 [some (.ref (77)), some (.int (x1)), some (.int (x2)), some (.int (x3)), some (.int (x4))] [] M v M' := by
  obtain ⟨d, rfl⟩ : ∃ e, d = e + 1 := ⟨d - 1, by omega⟩
  unfold J_199_39 at h
  refine Rc.run tb_199 5 (pc' := 45) (ls' := [some (.ref (77)), some (.int (x1)), some (.int (x2)), some (.int (x3)), some (.int (x4))]) (st' := [.int (x4), .int (x3), .int (x2), .int (x1), .ref (77)]) rfl rfl ?_
  cases hc5 : F_198 x1 x2 x3 x4 M with
  | none => rw [hc5] at h; cases h
  | some c5 =>
    rw [hc5] at h
    dsimp only at h
    have hq5 := T_198 (X := X) (d := d) (by omega) (M := M) hc5
    have hz5 := Rc.bool mR_198 hq5
    refine Rc.callV tb_199 rfl rfl rfl mS_198 mP_198 mL_198 mO_198 rfl rfl ob_77 rfl rfl hq5 ?_
    refine Rc.if_eq (pc1 := 55) tb_199 rfl rfl (by decide) (by decide) (fun hb6 => ?_) (fun hb6 => ?_)
    · rw [if_pos hb6] at h
      refine Rc.run tb_199 1 (pc' := 56) (ls' := [some (.ref (77)), some (.int (x1)), some (.int (x2)), some (.int (x3)), some (.int (x4))]) (st' := [.int (0)]) rfl rfl ?_
      obtain rfl := Option.some.inj h
      obtain ⟨rfl, rfl⟩ := hC
      exact Rc.iret (ins := .ireturn) tb_199 rfl mR_199
    · rw [if_neg hb6] at h
      refine Rc.run tb_199 2 (pc' := 56) (ls' := [some (.ref (77)), some (.int (x1)), some (.int (x2)), some (.int (x3)), some (.int (x4))]) (st' := [.int (1)]) rfl rfl ?_
      obtain rfl := Option.some.inj h
      obtain ⟨rfl, rfl⟩ := hC
      exact Rc.iret (ins := .ireturn) tb_199 rfl mR_199
theorem TF_199 {X : AX} {d : Nat} (hd : 3 ≤ d) {a1 : Int32} {a2 : Int32} {a3 : Int32} {a4 : Int32} {M : IM} {v : Option Value} {M' : IM} {o : Int32 × IM} (h : F_199 a1 a2 a3 a4 M = some o) (hC : v = some (.int o.1) ∧ M' = o.2) : Rc X d 199 0 [some (.ref (77)), some (.int (a1)), some (.int (a2)), some (.int (a3)), some (.int (a4))] [] M v M' := by
  obtain ⟨d, rfl⟩ : ∃ e, d = e + 1 := ⟨d - 1, by omega⟩
  unfold F_199 at h
  refine Rc.run tb_199 3 (pc' := 3) (ls' := [some (.ref (77)), some (.int (a1)), some (.int (a2)), some (.int (a3)), some (.int (a4))]) (st' := [.int (a2), .int (a1), .ref (77)]) rfl rfl ?_
  cases hc1 : F_194 a1 a2 M with
  | none => rw [hc1] at h; cases h
  | some c1 =>
    rw [hc1] at h
    dsimp only at h
    have hq1 := T_194 (X := X) (d := d) (by omega) (M := M) hc1
    have hz1 := Rc.bool mR_194 hq1
    refine Rc.callV tb_199 rfl rfl rfl mS_194 mP_194 mL_194 mO_194 rfl rfl ob_77 rfl rfl hq1 ?_
    refine Rc.if_eq (pc1 := 32) tb_199 rfl rfl (by decide) (by decide) (fun hb11 => ?_) (fun hb11 => ?_)
    · rw [if_pos hb11] at h
      refine Rc.mask (b := 1) ((tb_199.2 32).trans rfl) (ls' := [some (.ref (77)), none, none, none, none]) rfl ?_
      exact TJ_199_32 (X := X) (d := d + 1) (by omega) h hC
    · rw [if_neg hb11] at h
      refine Rc.run tb_199 1 (pc' := 10) (ls' := [some (.ref (77)), some (.int (a1)), some (.int (a2)), some (.int (a3)), some (.int (a4))]) (st' := [.int (a3)]) rfl rfl ?_
      have hq3 := T_159 (X := X) (d := d) (by omega) a3 M
      have hz3 := Rc.bool mR_159 hq3
      refine Rc.callS tb_199 rfl rfl rfl mS_159 mP_159 mL_159 rfl rfl rfl hq3 ?_
      refine Rc.if_eq (pc1 := 32) tb_199 rfl rfl (by decide) (by decide) (fun hb10 => ?_) (fun hb10 => ?_)
      · rw [if_pos hb10] at h
        refine Rc.mask (b := 1) ((tb_199.2 32).trans rfl) (ls' := [some (.ref (77)), none, none, none, none]) rfl ?_
        exact TJ_199_32 (X := X) (d := d + 1) (by omega) h hC
      · rw [if_neg hb10] at h
        refine Rc.run tb_199 2 (pc' := 18) (ls' := [some (.ref (77)), some (.int (a1)), some (.int (a2)), some (.int (a3)), some (.int (a4))]) (st' := [.int (a1), .ref (77)]) rfl rfl ?_
        cases hc4 : F_165 a1 M with
        | none => rw [hc4] at h; cases h
        | some c4 =>
          rw [hc4] at h
          dsimp only at h
          have hq4 := T_165 (X := X) (d := d) (by omega) (M := M) hc4
          have hz4 := Rc.bool mR_165 hq4
          refine Rc.callV tb_199 rfl rfl rfl mS_165 mP_165 mL_165 mO_165 rfl rfl ob_77 rfl rfl hq4 ?_
          refine Rc.if_eq (pc1 := 39) tb_199 rfl rfl (by decide) (by decide) (fun hb9 => ?_) (fun hb9 => ?_)
          · rw [if_pos hb9] at h
            refine Rc.mask (b := 31) ((tb_199.2 39).trans rfl) (ls' := [some (.ref (77)), some (.int (a1)), some (.int (a2)), some (.int (a3)), some (.int (a4))]) rfl ?_
            exact TJ_199_39 (X := X) (d := d + 1) (by omega) h hC
          · rw [if_neg hb9] at h
            refine Rc.run tb_199 1 (pc' := 26) (ls' := [some (.ref (77)), some (.int (a1)), some (.int (a2)), some (.int (a3)), some (.int (a4))]) (st' := [.int (a4)]) rfl rfl ?_
            have hq7 := T_159 (X := X) (d := d) (by omega) a4 M
            have hz7 := Rc.bool mR_159 hq7
            refine Rc.callS tb_199 rfl rfl rfl mS_159 mP_159 mL_159 rfl rfl rfl hq7 ?_
            refine Rc.if_ne (pc1 := 39) tb_199 rfl rfl (by decide) (by decide) (fun hb8 => ?_) (fun hb8 => ?_)
            · rw [if_pos hb8] at h
              refine Rc.mask (b := 1) ((tb_199.2 32).trans rfl) (ls' := [some (.ref (77)), none, none, none, none]) rfl ?_
              exact TJ_199_32 (X := X) (d := d + 1) (by omega) h hC
            · rw [if_neg hb8] at h
              refine Rc.mask (b := 31) ((tb_199.2 39).trans rfl) (ls' := [some (.ref (77)), some (.int (a1)), some (.int (a2)), some (.int (a3)), some (.int (a4))]) rfl ?_
              exact TJ_199_39 (X := X) (d := d + 1) (by omega) h hC
theorem T_199 {X : AX} {d : Nat} (hd : 3 ≤ d) {a1 : Int32} {a2 : Int32} {a3 : Int32} {a4 : Int32} {M : IM} {x : Int32} {M1 : IM} (h : F_199 a1 a2 a3 a4 M = some (x, M1)) : Rc X d 199 0 [some (.ref (77)), some (.int (a1)), some (.int (a2)), some (.int (a3)), some (.int (a4))] [] M (some (.int x)) M1 := TF_199 hd h ⟨rfl, rfl⟩
/-! 200: NineDemandsModel.broken -/
def J_200_52_3 (x1 : Int32) (t2 : Nat) (x3 : Int32) (x4 : Int32) (s0 : Int32) (s1 : Int32) (s2 : Int32) (s3 : Int32) (M : IM) : Option ((Int32) ⊕ ((Int32) ⊕ (Int32))) := (match F_198 s3 s2 s1 s0 M with | none => none | some c4 => (if c4 = 0 then (some (Sum.inr (Sum.inr x4))) else (some (Sum.inl (x4 + 1)))))
def B_200_3 (x1 : Int32) (t2 : Nat) (x3 : Int32) (M : IM) : (Int32) → Option ((Int32) ⊕ ((Int32) ⊕ (Int32))) := fun x4 => (match F_164 x1 M with | none => none | some c1 => (if c1 ≤ x4 then (some (Sum.inr (Sum.inl x4))) else (match F_196 x1 x4 M with | none => none | some c2 => (match F_195 x1 x4 M with | none => none | some c3 => (if inb (x3 + c3) (ln t2) = true then (if (0 : Int32) ≤ c2 then (if inb (x3 + c2) (ln t2) = true then (J_200_52_3 x1 t2 x3 x4 (M t2 (x3 + c2).toNatClampNeg) (M t2 (x3 + c3).toNatClampNeg) x4 x1 M) else none) else (J_200_52_3 x1 t2 x3 x4 (0 : Int32) (M t2 (x3 + c3).toNatClampNeg) x4 x1 M)) else none)))))
def L_200_3 (x1 : Int32) (t2 : Nat) (x3 : Int32) (M : IM) (x4 : Int32) : Option ((Int32) ⊕ (Int32)) := loopN (B_200_3 x1 t2 x3 M) FU x4
def F_200 (a1 : Int32) (r2 : Nat) (a3 : Int32) (M : IM) : Option (Int32) := (match L_200_3 a1 r2 a3 M 0 with | none => none | some (.inl x4_10) => (some ((-1))) | some (.inr q) => some (q))
theorem TJ_200_52_3 {X : AX} {d : Nat} (hd : 3 ≤ d) {x1 : Int32} {t2 : Nat} {x3 : Int32} {x4 : Int32} {s0 : Int32} {s1 : Int32} {s2 : Int32} {s3 : Int32} {M : IM} (ht2 : IA t2) {v : Option Value} {M' : IM} {o : (Int32) ⊕ ((Int32) ⊕ (Int32))} (h : J_200_52_3 x1 t2 x3 x4 s0 s1 s2 s3 M = some o) (hP : ∀ s', o = .inl s' → (fun x4 => Rc X d 200 3 [some (.ref (77)), some (.int (x1)), some (.ref (t2)), some (.int (x3)), some (.int (x4)), none] [] M v M') s') (hE : ∀ r, o = .inr r → (fun r => match r with | .inl x4 => Rc X d 200 67 [none, none, none, none, none, none] [] M v M' | .inr q => v = some (.int q) ∧ M' = M) r) : Rc X d 200 52 [some (.ref (77)), some (.int (x1)), some (.ref (t2)), some (.int (x3)), some (.int (x4)), none] [.int (s0), .int (s1), .int (s2), .int (s3), .ref (77)] M v M' := by
  obtain ⟨d, rfl⟩ : ∃ e, d = e + 1 := ⟨d - 1, by omega⟩
  unfold J_200_52_3 at h
  dsimp only at hP hE
  cases hc4 : F_198 s3 s2 s1 s0 M with
  | none => rw [hc4] at h; cases h
  | some c4 =>
    rw [hc4] at h
    dsimp only at h
    have hq4 := T_198 (X := X) (d := d) (by omega) (M := M) hc4
    have hz4 := Rc.bool mR_198 hq4
    refine Rc.callV tb_200 rfl rfl rfl mS_198 mP_198 mL_198 mO_198 rfl rfl ob_77 rfl rfl hq4 ?_
    refine Rc.if_ne (pc1 := 61) tb_200 rfl rfl (by decide) (by decide) (fun hb5 => ?_) (fun hb5 => ?_)
    · rw [if_pos hb5] at h
      refine Rc.run tb_200 1 (pc' := 60) (ls' := [some (.ref (77)), some (.int (x1)), some (.ref (t2)), some (.int (x3)), some (.int (x4)), none]) (st' := [.int (x4)]) rfl rfl ?_
      obtain rfl := Option.some.inj h
      obtain ⟨rfl, rfl⟩ := hE _ rfl
      exact Rc.iret (ins := .ireturn) tb_200 rfl mR_200
    · rw [if_neg hb5] at h
      refine Rc.run tb_200 2 (pc' := 3) (ls' := [some (.ref (77)), some (.int (x1)), some (.ref (t2)), some (.int (x3)), some (.int (x4 + 1)), none]) (st' := []) rfl rfl ?_
      refine Rc.mask (b := 31) ((tb_200.2 3).trans rfl) (ls' := [some (.ref (77)), some (.int (x1)), some (.ref (t2)), some (.int (x3)), some (.int (x4 + 1)), none]) rfl ?_
      obtain rfl := Option.some.inj h
      exact hP _ rfl
theorem TB_200_3 {X : AX} {d : Nat} (hd : 3 ≤ d) {x1 : Int32} {t2 : Nat} {x3 : Int32} {M : IM} (ht2 : IA t2) {v : Option Value} {M' : IM} : ∀ (s : Int32) (o : (Int32) ⊕ ((Int32) ⊕ (Int32))), B_200_3 x1 t2 x3 M s = some o → (∀ s', o = .inl s' → (fun x4 => Rc X d 200 3 [some (.ref (77)), some (.int (x1)), some (.ref (t2)), some (.int (x3)), some (.int (x4)), none] [] M v M') s') → (∀ r, o = .inr r → (fun r => match r with | .inl x4 => Rc X d 200 67 [none, none, none, none, none, none] [] M v M' | .inr q => v = some (.int q) ∧ M' = M) r) → (fun x4 => Rc X d 200 3 [some (.ref (77)), some (.int (x1)), some (.ref (t2)), some (.int (x3)), some (.int (x4)), none] [] M v M') s := by
  intro x4 o h hP hE
  show Rc X d 200 3 [some (.ref (77)), some (.int (x1)), some (.ref (t2)), some (.int (x3)), some (.int (x4)), none] [] M v M'
  obtain ⟨d, rfl⟩ : ∃ e, d = e + 1 := ⟨d - 1, by omega⟩
  unfold B_200_3 at h
  dsimp only at h hP hE
  refine Rc.run tb_200 3 (pc' := 7) (ls' := [some (.ref (77)), some (.int (x1)), some (.ref (t2)), some (.int (x3)), some (.int (x4)), none]) (st' := [.int (x1), .ref (77), .int (x4)]) rfl rfl ?_
  cases hc1 : F_164 x1 M with
  | none => rw [hc1] at h; cases h
  | some c1 =>
    rw [hc1] at h
    dsimp only at h
    have hq1 := T_164 (X := X) (d := d) (by omega) (M := M) hc1
    refine Rc.callV tb_200 rfl rfl rfl mS_164 mP_164 mL_164 mO_164 rfl rfl ob_77 rfl rfl hq1 ?_
    refine Rc.icmp_ge (pc1 := 67) tb_200 rfl rfl (by decide) (by decide) (fun hb9 => ?_) (fun hb9 => ?_)
    · rw [if_pos hb9] at h
      refine Rc.mask (b := 0) ((tb_200.2 67).trans rfl) (ls' := [none, none, none, none, none, none]) rfl ?_
      obtain rfl := Option.some.inj h
      exact hE _ rfl
    · rw [if_neg hb9] at h
      refine Rc.run tb_200 3 (pc' := 17) (ls' := [some (.ref (77)), some (.int (x1)), some (.ref (t2)), some (.int (x3)), some (.int (x4)), none]) (st' := [.int (x4), .int (x1), .ref (77)]) rfl rfl ?_
      cases hc2 : F_196 x1 x4 M with
      | none => rw [hc2] at h; cases h
      | some c2 =>
        rw [hc2] at h
        dsimp only at h
        have hq2 := T_196 (X := X) (d := d) (by omega) (M := M) hc2
        refine Rc.callV tb_200 rfl rfl rfl mS_196 mP_196 mL_196 mO_196 rfl rfl ob_77 rfl rfl hq2 ?_
        refine Rc.run tb_200 9 (pc' := 32) (ls' := [some (.ref (77)), some (.int (x1)), some (.ref (t2)), some (.int (x3)), some (.int (x4)), some (.int (c2))]) (st' := [.int (x4), .int (x1), .ref (77), .int (x3), .ref (t2), .int (x4), .int (x1), .ref (77)]) rfl rfl ?_
        cases hc3 : F_195 x1 x4 M with
        | none => rw [hc3] at h; cases h
        | some c3 =>
          rw [hc3] at h
          dsimp only at h
          have hq3 := T_195 (X := X) (d := d) (by omega) (M := M) hc3
          refine Rc.callV tb_200 rfl rfl rfl mS_195 mP_195 mL_195 mO_195 rfl rfl ob_77 rfl rfl hq3 ?_
          refine Rc.run tb_200 1 (pc' := 36) (ls' := [some (.ref (77)), some (.int (x1)), some (.ref (t2)), some (.int (x3)), some (.int (x4)), some (.int (c2))]) (st' := [.int (x3 + c3), .ref (t2), .int (x4), .int (x1), .ref (77)]) rfl rfl ?_
          by_cases hb8 : inb (x3 + c3) (ln t2) = true
          · rw [if_pos hb8] at h
            refine Rc.iald tb_200 rfl rfl (IA.n ht2) hb8 ?_
            refine Rc.run tb_200 1 (pc' := 39) (ls' := [some (.ref (77)), some (.int (x1)), some (.ref (t2)), some (.int (x3)), some (.int (x4)), some (.int (c2))]) (st' := [.int (c2), .int (M t2 (x3 + c3).toNatClampNeg), .int (x4), .int (x1), .ref (77)]) rfl rfl ?_
            refine Rc.if_ge (pc1 := 46) tb_200 rfl rfl (by decide) (by decide) (fun hb7 => ?_) (fun hb7 => ?_)
            · rw [if_pos hb7] at h
              refine Rc.run tb_200 4 (pc' := 51) (ls' := [some (.ref (77)), some (.int (x1)), some (.ref (t2)), some (.int (x3)), some (.int (x4)), some (.int (c2))]) (st' := [.int (x3 + c2), .ref (t2), .int (M t2 (x3 + c3).toNatClampNeg), .int (x4), .int (x1), .ref (77)]) rfl rfl ?_
              by_cases hb6 : inb (x3 + c2) (ln t2) = true
              · rw [if_pos hb6] at h
                refine Rc.iald tb_200 rfl rfl (IA.n ht2) hb6 ?_
                refine Rc.mask (b := 31) ((tb_200.2 52).trans rfl) (ls' := [some (.ref (77)), some (.int (x1)), some (.ref (t2)), some (.int (x3)), some (.int (x4)), none]) rfl ?_
                exact TJ_200_52_3 (X := X) (d := d + 1) (by omega) ((IA.n ht2)).1 h hP hE
              · rw [if_neg hb6] at h
                cases h
            · rw [if_neg hb7] at h
              refine Rc.run tb_200 2 (pc' := 52) (ls' := [some (.ref (77)), some (.int (x1)), some (.ref (t2)), some (.int (x3)), some (.int (x4)), some (.int (c2))]) (st' := [.int (0), .int (M t2 (x3 + c3).toNatClampNeg), .int (x4), .int (x1), .ref (77)]) rfl rfl ?_
              refine Rc.mask (b := 31) ((tb_200.2 52).trans rfl) (ls' := [some (.ref (77)), some (.int (x1)), some (.ref (t2)), some (.int (x3)), some (.int (x4)), none]) rfl ?_
              exact TJ_200_52_3 (X := X) (d := d + 1) (by omega) ((IA.n ht2)).1 h hP hE
          · rw [if_neg hb8] at h
            cases h
theorem TL_200_3 {X : AX} {d : Nat} (hd : 3 ≤ d) {x1 : Int32} {t2 : Nat} {x3 : Int32} {M : IM} {x4 : Int32} (ht2 : IA t2) {v : Option Value} {M' : IM} {r : (Int32) ⊕ (Int32)} (h : L_200_3 x1 t2 x3 M x4 = some r) (hE : (fun r => match r with | .inl x4 => Rc X d 200 67 [none, none, none, none, none, none] [] M v M' | .inr q => v = some (.int q) ∧ M' = M) r) : Rc X d 200 3 [some (.ref (77)), some (.int (x1)), some (.ref (t2)), some (.int (x3)), some (.int (x4)), none] [] M v M' := by
  exact loopN_rc (P := fun x4 => Rc X d 200 3 [some (.ref (77)), some (.int (x1)), some (.ref (t2)), some (.int (x3)), some (.int (x4)), none] [] M v M') (E := fun r => match r with | .inl x4 => Rc X d 200 67 [none, none, none, none, none, none] [] M v M' | .inr q => v = some (.int q) ∧ M' = M) (TB_200_3 (X := X) hd ht2) FU _ r h hE
theorem TF_200 {X : AX} {d : Nat} (hd : 3 ≤ d) {a1 : Int32} {r2 : Nat} {a3 : Int32} {M : IM} (hr2 : IA r2) {v : Option Value} {M' : IM} {o : Int32} (h : F_200 a1 r2 a3 M = some o) (hC : v = some (.int o) ∧ M' = M) : Rc X d 200 0 [some (.ref (77)), some (.int (a1)), some (.ref (r2)), some (.int (a3)), none, none] [] M v M' := by
  obtain ⟨d, rfl⟩ : ∃ e, d = e + 1 := ⟨d - 1, by omega⟩
  unfold F_200 at h
  refine Rc.run tb_200 2 (pc' := 3) (ls' := [some (.ref (77)), some (.int (a1)), some (.ref (r2)), some (.int (a3)), some (.int (0)), none]) (st' := []) rfl rfl ?_
  refine Rc.mask (b := 31) ((tb_200.2 3).trans rfl) (ls' := [some (.ref (77)), some (.int (a1)), some (.ref (r2)), some (.int (a3)), some (.int (0)), none]) rfl ?_
  cases hl10 : L_200_3 a1 r2 a3 M 0 with
  | none => rw [hl10] at h; cases h
  | some rr10 =>
    rw [hl10] at h
    cases rr10 with
    | inl x4_10 =>
      dsimp only at h
      refine TL_200_3 (X := X) (d := d + 1) (by omega) ((IA.n hr2)).1 hl10 ?_
      refine Rc.run tb_200 1 (pc' := 68) (ls' := [none, none, none, none, none, none]) (st' := [.int ((-1))]) rfl rfl ?_
      obtain rfl := Option.some.inj h
      obtain ⟨rfl, rfl⟩ := hC
      exact Rc.iret (ins := .ireturn) tb_200 rfl mR_200
    | inr q =>
      dsimp only at h
      refine TL_200_3 (X := X) (d := d + 1) (by omega) ((IA.n hr2)).1 hl10 ?_
      obtain rfl := Option.some.inj h
      obtain ⟨rfl, rfl⟩ := hC
      exact ⟨rfl, rfl⟩
theorem T_200 {X : AX} {d : Nat} (hd : 3 ≤ d) {a1 : Int32} {r2 : Nat} {a3 : Int32} {M : IM} (hr2 : IA r2) {x : Int32} (h : F_200 a1 r2 a3 M = some x) : Rc X d 200 0 [some (.ref (77)), some (.int (a1)), some (.ref (r2)), some (.int (a3)), none, none] [] M (some (.int x)) M := TF_200 hd hr2 h ⟨rfl, rfl⟩
/-! 201: NineDemandsModel.breach -/
def F_201 (a1 : Int32) (M : IM) : Option (Int32 × IM) := if F_160 a1 M = 0 then (match F_156 ((-1000001) : Int32) M with | none => none | some (c2, M2) => (some ((c2, M2)))) else (match F_200 a1 78 (10 : Int32) M with | none => none | some c3 => (if (0 : Int32) ≤ c3 then (some ((c3, M))) else (match F_156 ((-1000002) : Int32) M with | none => none | some (c4, M4) => (some ((c4, M4))))))
theorem TF_201 {X : AX} {d : Nat} (hd : 4 ≤ d) {a1 : Int32} {M : IM} {v : Option Value} {M' : IM} {o : Int32 × IM} (h : F_201 a1 M = some o) (hC : v = some (.int o.1) ∧ M' = o.2) : Rc X d 201 0 [some (.ref (77)), some (.int (a1)), none] [] M v M' := by
  obtain ⟨d, rfl⟩ : ∃ e, d = e + 1 := ⟨d - 1, by omega⟩
  unfold F_201 at h
  refine Rc.run tb_201 2 (pc' := 2) (ls' := [some (.ref (77)), some (.int (a1)), none]) (st' := [.int (a1), .ref (77)]) rfl rfl ?_
  have hq1 := T_160 (X := X) (d := d) (by omega) a1 M
  have hz1 := Rc.bool mR_160 hq1
  refine Rc.callV tb_201 rfl rfl rfl mS_160 mP_160 mL_160 mO_160 rfl rfl ob_77 rfl rfl hq1 ?_
  refine Rc.if_ne (pc1 := 15) tb_201 rfl rfl (by decide) (by decide) (fun hb6 => ?_) (fun hb6 => ?_)
  · rw [if_pos hb6] at h
    refine Rc.run tb_201 2 (pc' := 11) (ls' := [some (.ref (77)), some (.int (a1)), none]) (st' := [.int ((-1000001)), .ref (77)]) rfl rfl ?_
    cases hc2 : F_156 ((-1000001) : Int32) M with
    | none => rw [hc2] at h; cases h
    | some r2 =>
      obtain ⟨c2, M2⟩ := r2
      rw [hc2] at h
      dsimp only at h
      have hq2 := T_156 (X := X) (d := d) (by omega) (M := M) hc2
      refine Rc.callV tb_201 rfl rfl rfl mS_156 mP_156 mL_156 mO_156 rfl rfl ob_77 rfl rfl hq2 ?_
      obtain rfl := Option.some.inj h
      obtain ⟨rfl, rfl⟩ := hC
      exact Rc.iret (ins := .ireturn) tb_201 rfl mR_201
  · rw [if_neg hb6] at h
    refine Rc.run tb_201 3 (pc' := 18) (ls' := [some (.ref (77)), some (.int (a1)), none]) (st' := [.ref (77), .int (a1), .ref (77)]) rfl rfl ?_
    refine Rc.getR tb_201 rfl rfl ob_77 (by decide +kernel) tg_77_0 (by decide) ?_
    refine Rc.run tb_201 1 (pc' := 23) (ls' := [some (.ref (77)), some (.int (a1)), none]) (st' := [.int (10), .ref (78), .int (a1), .ref (77)]) rfl rfl ?_
    cases hc3 : F_200 a1 78 (10 : Int32) M with
    | none => rw [hc3] at h; cases h
    | some c3 =>
      rw [hc3] at h
      dsimp only at h
      have hq3 := T_200 (X := X) (d := d) (by omega) (M := M) (ia_78).1 hc3
      refine Rc.callV tb_201 rfl rfl rfl mS_200 mP_200 mL_200 mO_200 rfl rfl ob_77 rfl rfl hq3 ?_
      refine Rc.run tb_201 2 (pc' := 28) (ls' := [some (.ref (77)), some (.int (a1)), some (.int (c3))]) (st' := [.int (c3)]) rfl rfl ?_
      refine Rc.if_ge (pc1 := 40) tb_201 rfl rfl (by decide) (by decide) (fun hb5 => ?_) (fun hb5 => ?_)
      · rw [if_pos hb5] at h
        refine Rc.run tb_201 1 (pc' := 41) (ls' := [some (.ref (77)), some (.int (a1)), some (.int (c3))]) (st' := [.int (c3)]) rfl rfl ?_
        obtain rfl := Option.some.inj h
        obtain ⟨rfl, rfl⟩ := hC
        exact Rc.iret (ins := .ireturn) tb_201 rfl mR_201
      · rw [if_neg hb5] at h
        refine Rc.run tb_201 2 (pc' := 34) (ls' := [some (.ref (77)), some (.int (a1)), some (.int (c3))]) (st' := [.int ((-1000002)), .ref (77)]) rfl rfl ?_
        cases hc4 : F_156 ((-1000002) : Int32) M with
        | none => rw [hc4] at h; cases h
        | some r4 =>
          obtain ⟨c4, M4⟩ := r4
          rw [hc4] at h
          dsimp only at h
          have hq4 := T_156 (X := X) (d := d) (by omega) (M := M) hc4
          refine Rc.callV tb_201 rfl rfl rfl mS_156 mP_156 mL_156 mO_156 rfl rfl ob_77 rfl rfl hq4 ?_
          refine Rc.run tb_201 1 (pc' := 41) (ls' := [some (.ref (77)), some (.int (a1)), some (.int (c3))]) (st' := [.int (c4)]) rfl rfl ?_
          obtain rfl := Option.some.inj h
          obtain ⟨rfl, rfl⟩ := hC
          exact Rc.iret (ins := .ireturn) tb_201 rfl mR_201
theorem T_201 {X : AX} {d : Nat} (hd : 4 ≤ d) {a1 : Int32} {M : IM} {x : Int32} {M1 : IM} (h : F_201 a1 M = some (x, M1)) : Rc X d 201 0 [some (.ref (77)), some (.int (a1)), none] [] M (some (.int x)) M1 := TF_201 hd h ⟨rfl, rfl⟩
/-! 202: NineDemandsModel.kept -/
def J_202_36_4 (x2 : Int32) (s0 : Int32) (s1 : Int32) (M : IM) : Option ((Int32 × Int32) ⊕ (Int32 × Int32)) := some (Sum.inl (s1 ||| s0, x2 + 1))
def B_202_4 (M : IM) : (Int32 × Int32) → Option ((Int32 × Int32) ⊕ (Int32 × Int32)) := fun (x1, x2) => if M 78 (0 : Int32).toNatClampNeg ≤ x2 then (some (Sum.inr (x1, x2))) else (match F_200 x2 78 (10 : Int32) M with | none => none | some c1 => (if (0 : Int32) ≤ c1 then (J_202_36_4 x2 (0 : Int32) x1 M) else (J_202_36_4 x2 ((1 : Int32) <<< (x2 &&& 31)) x1 M)))
def L_202_4 (M : IM) (x1 : Int32) (x2 : Int32) : Option (Int32 × Int32) := loopN (B_202_4 M) FU (x1, x2)
def F_202 (M : IM) : Option (Int32) := (match L_202_4 M 0 0 with | none => none | some (x1_5, x2_5) => (some (x1_5)))
theorem TJ_202_36_4 {X : AX} {d : Nat} (hd : 4 ≤ d) {x2 : Int32} {s0 : Int32} {s1 : Int32} {M : IM} {v : Option Value} {M' : IM} {o : (Int32 × Int32) ⊕ (Int32 × Int32)} (h : J_202_36_4 x2 s0 s1 M = some o) (hP : ∀ s', o = .inl s' → (fun (x1, x2) => Rc X d 202 4 [some (.ref (77)), some (.int (x1)), some (.int (x2))] [] M v M') s') (hE : ∀ r, o = .inr r → (fun (x1, x2) => Rc X d 202 44 [none, some (.int (x1)), none] [] M v M') r) : Rc X d 202 36 [some (.ref (77)), none, some (.int (x2))] [.int (s0), .int (s1)] M v M' := by
  obtain ⟨d, rfl⟩ : ∃ e, d = e + 1 := ⟨d - 1, by omega⟩
  unfold J_202_36_4 at h
  dsimp only at hP hE
  refine Rc.run tb_202 4 (pc' := 4) (ls' := [some (.ref (77)), some (.int (s1 ||| s0)), some (.int (x2 + 1))]) (st' := []) rfl rfl ?_
  refine Rc.mask (b := 7) ((tb_202.2 4).trans rfl) (ls' := [some (.ref (77)), some (.int (s1 ||| s0)), some (.int (x2 + 1))]) rfl ?_
  obtain rfl := Option.some.inj h
  exact hP _ rfl
theorem TB_202_4 {X : AX} {d : Nat} (hd : 4 ≤ d) {M : IM} {v : Option Value} {M' : IM} : ∀ (s : Int32 × Int32) (o : (Int32 × Int32) ⊕ (Int32 × Int32)), B_202_4 M s = some o → (∀ s', o = .inl s' → (fun (x1, x2) => Rc X d 202 4 [some (.ref (77)), some (.int (x1)), some (.int (x2))] [] M v M') s') → (∀ r, o = .inr r → (fun (x1, x2) => Rc X d 202 44 [none, some (.int (x1)), none] [] M v M') r) → (fun (x1, x2) => Rc X d 202 4 [some (.ref (77)), some (.int (x1)), some (.int (x2))] [] M v M') s := by
  rintro ⟨x1, x2⟩ o h hP hE
  show Rc X d 202 4 [some (.ref (77)), some (.int (x1)), some (.int (x2))] [] M v M'
  obtain ⟨d, rfl⟩ : ∃ e, d = e + 1 := ⟨d - 1, by omega⟩
  unfold B_202_4 at h
  dsimp only at h hP hE
  refine Rc.run tb_202 2 (pc' := 6) (ls' := [some (.ref (77)), some (.int (x1)), some (.int (x2))]) (st' := [.ref (77), .int (x2)]) rfl rfl ?_
  refine Rc.getR tb_202 rfl rfl ob_77 (by decide +kernel) tg_77_0 (by decide) ?_
  refine Rc.run tb_202 1 (pc' := 10) (ls' := [some (.ref (77)), some (.int (x1)), some (.int (x2))]) (st' := [.int (0), .ref (78), .int (x2)]) rfl rfl ?_
  refine Rc.iald tb_202 rfl rfl ia_78 (by decide) ?_
  refine Rc.icmp_ge (pc1 := 44) tb_202 rfl rfl (by decide) (by decide) (fun hb3 => ?_) (fun hb3 => ?_)
  · rw [if_pos hb3] at h
    refine Rc.mask (b := 2) ((tb_202.2 44).trans rfl) (ls' := [none, some (.int (x1)), none]) rfl ?_
    obtain rfl := Option.some.inj h
    exact hE _ rfl
  · rw [if_neg hb3] at h
    refine Rc.run tb_202 4 (pc' := 18) (ls' := [some (.ref (77)), some (.int (x1)), some (.int (x2))]) (st' := [.ref (77), .int (x2), .ref (77), .int (x1)]) rfl rfl ?_
    refine Rc.getR tb_202 rfl rfl ob_77 (by decide +kernel) tg_77_0 (by decide) ?_
    refine Rc.run tb_202 1 (pc' := 23) (ls' := [some (.ref (77)), some (.int (x1)), some (.int (x2))]) (st' := [.int (10), .ref (78), .int (x2), .ref (77), .int (x1)]) rfl rfl ?_
    cases hc1 : F_200 x2 78 (10 : Int32) M with
    | none => rw [hc1] at h; cases h
    | some c1 =>
      rw [hc1] at h
      dsimp only at h
      have hq1 := T_200 (X := X) (d := d) (by omega) (M := M) (ia_78).1 hc1
      refine Rc.callV tb_202 rfl rfl rfl mS_200 mP_200 mL_200 mO_200 rfl rfl ob_77 rfl rfl hq1 ?_
      refine Rc.if_ge (pc1 := 35) tb_202 rfl rfl (by decide) (by decide) (fun hb2 => ?_) (fun hb2 => ?_)
      · rw [if_pos hb2] at h
        refine Rc.run tb_202 1 (pc' := 36) (ls' := [some (.ref (77)), some (.int (x1)), some (.int (x2))]) (st' := [.int (0), .int (x1)]) rfl rfl ?_
        refine Rc.mask (b := 5) ((tb_202.2 36).trans rfl) (ls' := [some (.ref (77)), none, some (.int (x2))]) rfl ?_
        exact TJ_202_36_4 (X := X) (d := d + 1) (by omega) h hP hE
      · rw [if_neg hb2] at h
        refine Rc.run tb_202 4 (pc' := 36) (ls' := [some (.ref (77)), some (.int (x1)), some (.int (x2))]) (st' := [.int ((1 : Int32) <<< (x2 &&& 31)), .int (x1)]) rfl rfl ?_
        refine Rc.mask (b := 5) ((tb_202.2 36).trans rfl) (ls' := [some (.ref (77)), none, some (.int (x2))]) rfl ?_
        exact TJ_202_36_4 (X := X) (d := d + 1) (by omega) h hP hE
theorem TL_202_4 {X : AX} {d : Nat} (hd : 4 ≤ d) {M : IM} {x1 : Int32} {x2 : Int32} {v : Option Value} {M' : IM} {r : Int32 × Int32} (h : L_202_4 M x1 x2 = some r) (hE : (fun (x1, x2) => Rc X d 202 44 [none, some (.int (x1)), none] [] M v M') r) : Rc X d 202 4 [some (.ref (77)), some (.int (x1)), some (.int (x2))] [] M v M' := by
  exact loopN_rc (P := fun (x1, x2) => Rc X d 202 4 [some (.ref (77)), some (.int (x1)), some (.int (x2))] [] M v M') (E := fun (x1, x2) => Rc X d 202 44 [none, some (.int (x1)), none] [] M v M') (TB_202_4 (X := X) hd) FU _ r h hE
theorem TF_202 {X : AX} {d : Nat} (hd : 4 ≤ d) {M : IM} {v : Option Value} {M' : IM} {o : Int32} (h : F_202 M = some o) (hC : v = some (.int o) ∧ M' = M) : Rc X d 202 0 [some (.ref (77)), none, none] [] M v M' := by
  obtain ⟨d, rfl⟩ : ∃ e, d = e + 1 := ⟨d - 1, by omega⟩
  unfold F_202 at h
  refine Rc.run tb_202 4 (pc' := 4) (ls' := [some (.ref (77)), some (.int (0)), some (.int (0))]) (st' := []) rfl rfl ?_
  refine Rc.mask (b := 7) ((tb_202.2 4).trans rfl) (ls' := [some (.ref (77)), some (.int (0)), some (.int (0))]) rfl ?_
  cases hl5 : L_202_4 M 0 0 with
  | none => rw [hl5] at h; cases h
  | some r5 =>
    obtain ⟨x1_5, x2_5⟩ := r5
    rw [hl5] at h
    dsimp only at h
    refine TL_202_4 (X := X) (d := d + 1) (by omega) hl5 ?_
    refine Rc.run tb_202 1 (pc' := 45) (ls' := [none, some (.int (x1_5)), none]) (st' := [.int (x1_5)]) rfl rfl ?_
    obtain rfl := Option.some.inj h
    obtain ⟨rfl, rfl⟩ := hC
    exact Rc.iret (ins := .ireturn) tb_202 rfl mR_202
theorem T_202 {X : AX} {d : Nat} (hd : 4 ≤ d) {M : IM} {x : Int32} (h : F_202 M = some x) : Rc X d 202 0 [some (.ref (77)), none, none] [] M (some (.int x)) M := TF_202 hd h ⟨rfl, rfl⟩
/-! 203: NineDemandsModel.flipped -/
def J_203_40_11 (x0 : Int32) (x2 : Int32) (x3 : Int32) (s0 : Int32) (s1 : Int32) : Option ((Int32 × Int32) ⊕ (Int32 × Int32)) := some (Sum.inl (s1 ||| s0, x3 + 1))
def B_203_11 (x0 : Int32) (x2 : Int32) : (Int32 × Int32) → Option ((Int32 × Int32) ⊕ (Int32 × Int32)) := fun (x1, x3) => if (3 : Int32) ≤ x3 then (some (Sum.inr (x1, x3))) else (if F_162 x0 ((3 * x2) + x3) = 0 then (J_203_40_11 x0 x2 x3 (0 : Int32) x1) else (J_203_40_11 x0 x2 x3 ((1 : Int32) <<< (((3 * x3) + x2) &&& 31)) x1))
def L_203_11 (x0 : Int32) (x2 : Int32) (x1 : Int32) (x3 : Int32) : Option (Int32 × Int32) := loopN (B_203_11 x0 x2) FU (x1, x3)
def J_203_48_4 (x0 : Int32) (x1 : Int32) (x2 : Int32) : Option ((Int32 × Int32) ⊕ (Int32 × Int32)) := some (Sum.inl (x1, x2 + 1))
def B_203_4 (x0 : Int32) : (Int32 × Int32) → Option ((Int32 × Int32) ⊕ (Int32 × Int32)) := fun (x1, x2) => if (3 : Int32) ≤ x2 then (some (Sum.inr (x1, x2))) else (match L_203_11 x0 x2 x1 0 with | none => none | some (x1_4, x3_4) => (J_203_48_4 x0 x1_4 x2))
def L_203_4 (x0 : Int32) (x1 : Int32) (x2 : Int32) : Option (Int32 × Int32) := loopN (B_203_4 x0) FU (x1, x2)
def F_203 (a1 : Int32) : Option (Int32) := (match L_203_4 a1 0 0 with | none => none | some (x1_6, x2_6) => (some (x1_6)))
theorem TJ_203_40_11 {X : AX} {d : Nat} (hd : 1 ≤ d) {x0 : Int32} {x2 : Int32} {x3 : Int32} {s0 : Int32} {s1 : Int32} {M : IM} {v : Option Value} {M' : IM} {o : (Int32 × Int32) ⊕ (Int32 × Int32)} (h : J_203_40_11 x0 x2 x3 s0 s1 = some o) (hP : ∀ s', o = .inl s' → (fun (x1, x3) => Rc X d 203 11 [some (.int (x0)), some (.int (x1)), some (.int (x2)), some (.int (x3))] [] M v M') s') (hE : ∀ r, o = .inr r → (fun (x1, x3) => Rc X d 203 48 [some (.int (x0)), some (.int (x1)), some (.int (x2)), none] [] M v M') r) : Rc X d 203 40 [some (.int (x0)), none, some (.int (x2)), some (.int (x3))] [.int (s0), .int (s1)] M v M' := by
  obtain ⟨d, rfl⟩ : ∃ e, d = e + 1 := ⟨d - 1, by omega⟩
  unfold J_203_40_11 at h
  dsimp only at hP hE
  refine Rc.run tb_203 4 (pc' := 11) (ls' := [some (.int (x0)), some (.int (s1 ||| s0)), some (.int (x2)), some (.int (x3 + 1))]) (st' := []) rfl rfl ?_
  refine Rc.mask (b := 15) ((tb_203.2 11).trans rfl) (ls' := [some (.int (x0)), some (.int (s1 ||| s0)), some (.int (x2)), some (.int (x3 + 1))]) rfl ?_
  obtain rfl := Option.some.inj h
  exact hP _ rfl
theorem TB_203_11 {X : AX} {d : Nat} (hd : 1 ≤ d) {x0 : Int32} {x2 : Int32} {M : IM} {v : Option Value} {M' : IM} : ∀ (s : Int32 × Int32) (o : (Int32 × Int32) ⊕ (Int32 × Int32)), B_203_11 x0 x2 s = some o → (∀ s', o = .inl s' → (fun (x1, x3) => Rc X d 203 11 [some (.int (x0)), some (.int (x1)), some (.int (x2)), some (.int (x3))] [] M v M') s') → (∀ r, o = .inr r → (fun (x1, x3) => Rc X d 203 48 [some (.int (x0)), some (.int (x1)), some (.int (x2)), none] [] M v M') r) → (fun (x1, x3) => Rc X d 203 11 [some (.int (x0)), some (.int (x1)), some (.int (x2)), some (.int (x3))] [] M v M') s := by
  rintro ⟨x1, x3⟩ o h hP hE
  show Rc X d 203 11 [some (.int (x0)), some (.int (x1)), some (.int (x2)), some (.int (x3))] [] M v M'
  obtain ⟨d, rfl⟩ : ∃ e, d = e + 1 := ⟨d - 1, by omega⟩
  unfold B_203_11 at h
  dsimp only at h hP hE
  refine Rc.run tb_203 2 (pc' := 13) (ls' := [some (.int (x0)), some (.int (x1)), some (.int (x2)), some (.int (x3))]) (st' := [.int (3), .int (x3)]) rfl rfl ?_
  refine Rc.icmp_ge (pc1 := 48) tb_203 rfl rfl (by decide) (by decide) (fun hb3 => ?_) (fun hb3 => ?_)
  · rw [if_pos hb3] at h
    refine Rc.mask (b := 7) ((tb_203.2 48).trans rfl) (ls' := [some (.int (x0)), some (.int (x1)), some (.int (x2)), none]) rfl ?_
    obtain rfl := Option.some.inj h
    exact hE _ rfl
  · rw [if_neg hb3] at h
    refine Rc.run tb_203 7 (pc' := 23) (ls' := [some (.int (x0)), some (.int (x1)), some (.int (x2)), some (.int (x3))]) (st' := [.int ((3 * x2) + x3), .int (x0), .int (x1)]) rfl rfl ?_
    have hq1 := T_162 (X := X) (d := d) (by omega) x0 ((3 * x2) + x3) M
    have hz1 := Rc.bool mR_162 hq1
    refine Rc.callS tb_203 rfl rfl rfl mS_162 mP_162 mL_162 rfl rfl rfl hq1 ?_
    refine Rc.if_eq (pc1 := 39) tb_203 rfl rfl (by decide) (by decide) (fun hb2 => ?_) (fun hb2 => ?_)
    · rw [if_pos hb2] at h
      refine Rc.run tb_203 1 (pc' := 40) (ls' := [some (.int (x0)), some (.int (x1)), some (.int (x2)), some (.int (x3))]) (st' := [.int (0), .int (x1)]) rfl rfl ?_
      refine Rc.mask (b := 13) ((tb_203.2 40).trans rfl) (ls' := [some (.int (x0)), none, some (.int (x2)), some (.int (x3))]) rfl ?_
      exact TJ_203_40_11 (X := X) (d := d + 1) (by omega) h hP hE
    · rw [if_neg hb2] at h
      refine Rc.run tb_203 8 (pc' := 40) (ls' := [some (.int (x0)), some (.int (x1)), some (.int (x2)), some (.int (x3))]) (st' := [.int ((1 : Int32) <<< (((3 * x3) + x2) &&& 31)), .int (x1)]) rfl rfl ?_
      refine Rc.mask (b := 13) ((tb_203.2 40).trans rfl) (ls' := [some (.int (x0)), none, some (.int (x2)), some (.int (x3))]) rfl ?_
      exact TJ_203_40_11 (X := X) (d := d + 1) (by omega) h hP hE
theorem TL_203_11 {X : AX} {d : Nat} (hd : 1 ≤ d) {x0 : Int32} {x2 : Int32} {M : IM} {x1 : Int32} {x3 : Int32} {v : Option Value} {M' : IM} {r : Int32 × Int32} (h : L_203_11 x0 x2 x1 x3 = some r) (hE : (fun (x1, x3) => Rc X d 203 48 [some (.int (x0)), some (.int (x1)), some (.int (x2)), none] [] M v M') r) : Rc X d 203 11 [some (.int (x0)), some (.int (x1)), some (.int (x2)), some (.int (x3))] [] M v M' := by
  exact loopN_rc (P := fun (x1, x3) => Rc X d 203 11 [some (.int (x0)), some (.int (x1)), some (.int (x2)), some (.int (x3))] [] M v M') (E := fun (x1, x3) => Rc X d 203 48 [some (.int (x0)), some (.int (x1)), some (.int (x2)), none] [] M v M') (TB_203_11 (X := X) hd) FU _ r h hE
theorem TJ_203_48_4 {X : AX} {d : Nat} (hd : 1 ≤ d) {x0 : Int32} {x1 : Int32} {x2 : Int32} {M : IM} {v : Option Value} {M' : IM} {o : (Int32 × Int32) ⊕ (Int32 × Int32)} (h : J_203_48_4 x0 x1 x2 = some o) (hP : ∀ s', o = .inl s' → (fun (x1, x2) => Rc X d 203 4 [some (.int (x0)), some (.int (x1)), some (.int (x2)), none] [] M v M') s') (hE : ∀ r, o = .inr r → (fun (x1, x2) => Rc X d 203 54 [none, some (.int (x1)), none, none] [] M v M') r) : Rc X d 203 48 [some (.int (x0)), some (.int (x1)), some (.int (x2)), none] [] M v M' := by
  obtain ⟨d, rfl⟩ : ∃ e, d = e + 1 := ⟨d - 1, by omega⟩
  unfold J_203_48_4 at h
  dsimp only at hP hE
  refine Rc.run tb_203 2 (pc' := 4) (ls' := [some (.int (x0)), some (.int (x1)), some (.int (x2 + 1)), none]) (st' := []) rfl rfl ?_
  refine Rc.mask (b := 7) ((tb_203.2 4).trans rfl) (ls' := [some (.int (x0)), some (.int (x1)), some (.int (x2 + 1)), none]) rfl ?_
  obtain rfl := Option.some.inj h
  exact hP _ rfl
theorem TB_203_4 {X : AX} {d : Nat} (hd : 1 ≤ d) {x0 : Int32} {M : IM} {v : Option Value} {M' : IM} : ∀ (s : Int32 × Int32) (o : (Int32 × Int32) ⊕ (Int32 × Int32)), B_203_4 x0 s = some o → (∀ s', o = .inl s' → (fun (x1, x2) => Rc X d 203 4 [some (.int (x0)), some (.int (x1)), some (.int (x2)), none] [] M v M') s') → (∀ r, o = .inr r → (fun (x1, x2) => Rc X d 203 54 [none, some (.int (x1)), none, none] [] M v M') r) → (fun (x1, x2) => Rc X d 203 4 [some (.int (x0)), some (.int (x1)), some (.int (x2)), none] [] M v M') s := by
  rintro ⟨x1, x2⟩ o h hP hE
  show Rc X d 203 4 [some (.int (x0)), some (.int (x1)), some (.int (x2)), none] [] M v M'
  obtain ⟨d, rfl⟩ : ∃ e, d = e + 1 := ⟨d - 1, by omega⟩
  unfold B_203_4 at h
  dsimp only at h hP hE
  refine Rc.run tb_203 2 (pc' := 6) (ls' := [some (.int (x0)), some (.int (x1)), some (.int (x2)), none]) (st' := [.int (3), .int (x2)]) rfl rfl ?_
  refine Rc.icmp_ge (pc1 := 54) tb_203 rfl rfl (by decide) (by decide) (fun hb5 => ?_) (fun hb5 => ?_)
  · rw [if_pos hb5] at h
    refine Rc.mask (b := 2) ((tb_203.2 54).trans rfl) (ls' := [none, some (.int (x1)), none, none]) rfl ?_
    obtain rfl := Option.some.inj h
    exact hE _ rfl
  · rw [if_neg hb5] at h
    refine Rc.run tb_203 2 (pc' := 11) (ls' := [some (.int (x0)), some (.int (x1)), some (.int (x2)), some (.int (0))]) (st' := []) rfl rfl ?_
    refine Rc.mask (b := 15) ((tb_203.2 11).trans rfl) (ls' := [some (.int (x0)), some (.int (x1)), some (.int (x2)), some (.int (0))]) rfl ?_
    cases hl4 : L_203_11 x0 x2 x1 0 with
    | none => rw [hl4] at h; cases h
    | some r4 =>
      obtain ⟨x1_4, x3_4⟩ := r4
      rw [hl4] at h
      dsimp only at h
      refine TL_203_11 (X := X) (d := d + 1) (by omega) hl4 ?_
      refine Rc.mask (b := 7) ((tb_203.2 48).trans rfl) (ls' := [some (.int (x0)), some (.int (x1_4)), some (.int (x2)), none]) rfl ?_
      exact TJ_203_48_4 (X := X) (d := d + 1) (by omega) h hP hE
theorem TL_203_4 {X : AX} {d : Nat} (hd : 1 ≤ d) {x0 : Int32} {M : IM} {x1 : Int32} {x2 : Int32} {v : Option Value} {M' : IM} {r : Int32 × Int32} (h : L_203_4 x0 x1 x2 = some r) (hE : (fun (x1, x2) => Rc X d 203 54 [none, some (.int (x1)), none, none] [] M v M') r) : Rc X d 203 4 [some (.int (x0)), some (.int (x1)), some (.int (x2)), none] [] M v M' := by
  exact loopN_rc (P := fun (x1, x2) => Rc X d 203 4 [some (.int (x0)), some (.int (x1)), some (.int (x2)), none] [] M v M') (E := fun (x1, x2) => Rc X d 203 54 [none, some (.int (x1)), none, none] [] M v M') (TB_203_4 (X := X) hd) FU _ r h hE
theorem TF_203 {X : AX} {d : Nat} (hd : 1 ≤ d) {a1 : Int32} {M : IM} {v : Option Value} {M' : IM} {o : Int32} (h : F_203 a1 = some o) (hC : v = some (.int o) ∧ M' = M) : Rc X d 203 0 [some (.int (a1)), none, none, none] [] M v M' := by
  obtain ⟨d, rfl⟩ : ∃ e, d = e + 1 := ⟨d - 1, by omega⟩
  unfold F_203 at h
  refine Rc.run tb_203 4 (pc' := 4) (ls' := [some (.int (a1)), some (.int (0)), some (.int (0)), none]) (st' := []) rfl rfl ?_
  refine Rc.mask (b := 7) ((tb_203.2 4).trans rfl) (ls' := [some (.int (a1)), some (.int (0)), some (.int (0)), none]) rfl ?_
  cases hl6 : L_203_4 a1 0 0 with
  | none => rw [hl6] at h; cases h
  | some r6 =>
    obtain ⟨x1_6, x2_6⟩ := r6
    rw [hl6] at h
    dsimp only at h
    refine TL_203_4 (X := X) (d := d + 1) (by omega) hl6 ?_
    refine Rc.run tb_203 1 (pc' := 55) (ls' := [none, some (.int (x1_6)), none, none]) (st' := [.int (x1_6)]) rfl rfl ?_
    obtain rfl := Option.some.inj h
    obtain ⟨rfl, rfl⟩ := hC
    exact Rc.iret (ins := .ireturn) tb_203 rfl mR_203
theorem T_203 {X : AX} {d : Nat} (hd : 1 ≤ d) {a1 : Int32} {M : IM} {x : Int32} (h : F_203 a1 = some x) : Rc X d 203 0 [some (.int (a1)), none, none, none] [] M (some (.int x)) M := TF_203 hd h ⟨rfl, rfl⟩
/-! 204: NineDemandsModel.gather -/
def B_204_2 (x1 : Int32) : (Int32 × IM) → Option ((Int32 × IM) ⊕ (Int32 × IM)) := fun (x2, M) => if (144 : Int32) ≤ x2 then (some (Sum.inr (x2, M))) else (if inb x2 144 = true then (if inb (x2 / 12) 12 = true then (some (Sum.inl (x2 + 1, iset (iset M 88 x2.toNatClampNeg 511) 87 (x2 / 12).toNatClampNeg 7))) else none) else none)
def L_204_2 (x1 : Int32) (x2 : Int32) (M : IM) : Option (Int32 × IM) := loopN (B_204_2 x1) FU (x2, M)
def J_204_167_49 (x1 : Int32) (x2 : Int32) (x3 : Int32) (M : IM) : Option ((Int32 × IM) ⊕ (Int32 × IM)) := some (Sum.inl (x3 + 1, M))
def B_204_49 (x1 : Int32) (x2 : Int32) : (Int32 × IM) → Option ((Int32 × IM) ⊕ (Int32 × IM)) := fun (x3, M) => if F_162 x1 x2 = 0 then (some (Sum.inr (x3, M))) else (match F_164 x2 M with | none => none | some c6 => (if c6 ≤ x3 then (some (Sum.inr (x3, M))) else (match F_195 x2 x3 M with | none => none | some c7 => (match F_196 x2 x3 M with | none => none | some c8 => (if inb ((110 + (32 * x2)) + x3) 366 = true then (if (0 : Int32) ≤ c8 then (if c8 ≤ c7 then (if inb ((12 * c8) + c7) 144 = true then (match F_203 (M 78 ((110 + (32 * x2)) + x3).toNatClampNeg) with | none => none | some c9 => (if inb ((12 * c8) + c7) 144 = true then (J_204_167_49 x1 x2 x3 (iset M 88 ((12 * c8) + c7).toNatClampNeg ((M 88 ((12 * c8) + c7).toNatClampNeg) &&& c9))) else none)) else none) else (if inb ((12 * c7) + c8) 144 = true then (if inb ((12 * c7) + c8) 144 = true then (J_204_167_49 x1 x2 x3 (iset M 88 ((12 * c7) + c8).toNatClampNeg ((M 88 ((12 * c7) + c8).toNatClampNeg) &&& (M 78 ((110 + (32 * x2)) + x3).toNatClampNeg)))) else none) else none)) else (if inb c7 12 = true then (if inb c7 12 = true then (J_204_167_49 x1 x2 x3 (iset M 87 c7.toNatClampNeg ((M 87 c7.toNatClampNeg) &&& (M 78 ((110 + (32 * x2)) + x3).toNatClampNeg)))) else none) else none)) else none)))))
def L_204_49 (x1 : Int32) (x2 : Int32) (x3 : Int32) (M : IM) : Option (Int32 × IM) := loopN (B_204_49 x1 x2) FU (x3, M)
def J_204_173_37 (x1 : Int32) (x2 : Int32) (M : IM) : Option ((Int32 × IM) ⊕ (Int32 × IM)) := some (Sum.inl (x2 + 1, M))
def B_204_37 (x1 : Int32) : (Int32 × IM) → Option ((Int32 × IM) ⊕ (Int32 × IM)) := fun (x2, M) => if M 78 (0 : Int32).toNatClampNeg ≤ x2 then (some (Sum.inr (x2, M))) else (match L_204_49 x1 x2 0 M with | none => none | some (x3_21, M21) => (J_204_173_37 x1 x2 M21))
def L_204_37 (x1 : Int32) (x2 : Int32) (M : IM) : Option (Int32 × IM) := loopN (B_204_37 x1) FU (x2, M)
def J_204_35 (x1 : Int32) (M : IM) : Option (IM) := (match L_204_37 x1 0 M with | none => none | some (x2_24, M24) => (some (M24)))
def F_204 (a1 : Int32) (M : IM) : Option (IM) := (match L_204_2 a1 0 M with | none => none | some (x2_4, M4) => (J_204_35 a1 M4))
theorem TB_204_2 {X : AX} {d : Nat} (hd : 2 ≤ d) {x1 : Int32} {v : Option Value} {M' : IM} : ∀ (s : Int32 × IM) (o : (Int32 × IM) ⊕ (Int32 × IM)), B_204_2 x1 s = some o → (∀ s', o = .inl s' → (fun (x2, M) => Rc X d 204 2 [some (.ref (77)), some (.int (x1)), some (.int (x2)), none, none, none, none] [] M v M') s') → (∀ r, o = .inr r → (fun (x2, M) => Rc X d 204 35 [some (.ref (77)), some (.int (x1)), none, none, none, none, none] [] M v M') r) → (fun (x2, M) => Rc X d 204 2 [some (.ref (77)), some (.int (x1)), some (.int (x2)), none, none, none, none] [] M v M') s := by
  rintro ⟨x2, M⟩ o h hP hE
  show Rc X d 204 2 [some (.ref (77)), some (.int (x1)), some (.int (x2)), none, none, none, none] [] M v M'
  obtain ⟨d, rfl⟩ : ∃ e, d = e + 1 := ⟨d - 1, by omega⟩
  unfold B_204_2 at h
  dsimp only at h hP hE
  refine Rc.run tb_204 2 (pc' := 6) (ls' := [some (.ref (77)), some (.int (x1)), some (.int (x2)), none, none, none, none]) (st' := [.int (144), .int (x2)]) rfl rfl ?_
  refine Rc.icmp_ge (pc1 := 35) tb_204 rfl rfl (by decide) (by decide) (fun hb3 => ?_) (fun hb3 => ?_)
  · rw [if_pos hb3] at h
    refine Rc.mask (b := 3) ((tb_204.2 35).trans rfl) (ls' := [some (.ref (77)), some (.int (x1)), none, none, none, none, none]) rfl ?_
    obtain rfl := Option.some.inj h
    exact hE _ rfl
  · rw [if_neg hb3] at h
    refine Rc.run tb_204 1 (pc' := 10) (ls' := [some (.ref (77)), some (.int (x1)), some (.int (x2)), none, none, none, none]) (st' := [.ref (77)]) rfl rfl ?_
    refine Rc.getR tb_204 rfl rfl ob_77 (by decide +kernel) tg_77_20 (by decide) ?_
    refine Rc.run tb_204 2 (pc' := 17) (ls' := [some (.ref (77)), some (.int (x1)), some (.int (x2)), none, none, none, none]) (st' := [.int (511), .int (x2), .ref (88)]) rfl rfl ?_
    by_cases hb2 : inb x2 144 = true
    · rw [if_pos hb2] at h
      refine Rc.iast tb_204 rfl rfl ia_88 hb2 ?_
      refine Rc.run tb_204 1 (pc' := 19) (ls' := [some (.ref (77)), some (.int (x1)), some (.int (x2)), none, none, none, none]) (st' := [.ref (77)]) rfl rfl ?_
      refine Rc.getR tb_204 rfl rfl ob_77 (by decide +kernel) tg_77_19 (by decide) ?_
      refine Rc.run tb_204 2 (pc' := 25) (ls' := [some (.ref (77)), some (.int (x1)), some (.int (x2)), none, none, none, none]) (st' := [.int (12), .int (x2), .ref (87)]) rfl rfl ?_
      refine Rc.idiv tb_204 rfl rfl (by decide) ?_
      refine Rc.run tb_204 1 (pc' := 28) (ls' := [some (.ref (77)), some (.int (x1)), some (.int (x2)), none, none, none, none]) (st' := [.int (7), .int (x2 / 12), .ref (87)]) rfl rfl ?_
      by_cases hb1 : inb (x2 / 12) 12 = true
      · rw [if_pos hb1] at h
        refine Rc.iast tb_204 rfl rfl ia_87 hb1 ?_
        refine Rc.run tb_204 2 (pc' := 2) (ls' := [some (.ref (77)), some (.int (x1)), some (.int (x2 + 1)), none, none, none, none]) (st' := []) rfl rfl ?_
        refine Rc.mask (b := 7) ((tb_204.2 2).trans rfl) (ls' := [some (.ref (77)), some (.int (x1)), some (.int (x2 + 1)), none, none, none, none]) rfl ?_
        obtain rfl := Option.some.inj h
        exact hP _ rfl
      · rw [if_neg hb1] at h
        cases h
    · rw [if_neg hb2] at h
      cases h
theorem TL_204_2 {X : AX} {d : Nat} (hd : 2 ≤ d) {x1 : Int32} {x2 : Int32} {M : IM} {v : Option Value} {M' : IM} {r : Int32 × IM} (h : L_204_2 x1 x2 M = some r) (hE : (fun (x2, M) => Rc X d 204 35 [some (.ref (77)), some (.int (x1)), none, none, none, none, none] [] M v M') r) : Rc X d 204 2 [some (.ref (77)), some (.int (x1)), some (.int (x2)), none, none, none, none] [] M v M' := by
  exact loopN_rc (P := fun (x2, M) => Rc X d 204 2 [some (.ref (77)), some (.int (x1)), some (.int (x2)), none, none, none, none] [] M v M') (E := fun (x2, M) => Rc X d 204 35 [some (.ref (77)), some (.int (x1)), none, none, none, none, none] [] M v M') (TB_204_2 (X := X) hd) FU _ r h hE
theorem TJ_204_167_49 {X : AX} {d : Nat} (hd : 2 ≤ d) {x1 : Int32} {x2 : Int32} {x3 : Int32} {M : IM} {v : Option Value} {M' : IM} {o : (Int32 × IM) ⊕ (Int32 × IM)} (h : J_204_167_49 x1 x2 x3 M = some o) (hP : ∀ s', o = .inl s' → (fun (x3, M) => Rc X d 204 49 [some (.ref (77)), some (.int (x1)), some (.int (x2)), some (.int (x3)), none, none, none] [] M v M') s') (hE : ∀ r, o = .inr r → (fun (x3, M) => Rc X d 204 173 [some (.ref (77)), some (.int (x1)), some (.int (x2)), none, none, none, none] [] M v M') r) : Rc X d 204 167 [some (.ref (77)), some (.int (x1)), some (.int (x2)), some (.int (x3)), none, none, none] [] M v M' := by
  obtain ⟨d, rfl⟩ : ∃ e, d = e + 1 := ⟨d - 1, by omega⟩
  unfold J_204_167_49 at h
  dsimp only at hP hE
  refine Rc.run tb_204 2 (pc' := 49) (ls' := [some (.ref (77)), some (.int (x1)), some (.int (x2)), some (.int (x3 + 1)), none, none, none]) (st' := []) rfl rfl ?_
  refine Rc.mask (b := 15) ((tb_204.2 49).trans rfl) (ls' := [some (.ref (77)), some (.int (x1)), some (.int (x2)), some (.int (x3 + 1)), none, none, none]) rfl ?_
  obtain rfl := Option.some.inj h
  exact hP _ rfl
theorem TB_204_49 {X : AX} {d : Nat} (hd : 2 ≤ d) {x1 : Int32} {x2 : Int32} {v : Option Value} {M' : IM} : ∀ (s : Int32 × IM) (o : (Int32 × IM) ⊕ (Int32 × IM)), B_204_49 x1 x2 s = some o → (∀ s', o = .inl s' → (fun (x3, M) => Rc X d 204 49 [some (.ref (77)), some (.int (x1)), some (.int (x2)), some (.int (x3)), none, none, none] [] M v M') s') → (∀ r, o = .inr r → (fun (x3, M) => Rc X d 204 173 [some (.ref (77)), some (.int (x1)), some (.int (x2)), none, none, none, none] [] M v M') r) → (fun (x3, M) => Rc X d 204 49 [some (.ref (77)), some (.int (x1)), some (.int (x2)), some (.int (x3)), none, none, none] [] M v M') s := by
  rintro ⟨x3, M⟩ o h hP hE
  show Rc X d 204 49 [some (.ref (77)), some (.int (x1)), some (.int (x2)), some (.int (x3)), none, none, none] [] M v M'
  obtain ⟨d, rfl⟩ : ∃ e, d = e + 1 := ⟨d - 1, by omega⟩
  unfold B_204_49 at h
  dsimp only at h hP hE
  refine Rc.run tb_204 2 (pc' := 51) (ls' := [some (.ref (77)), some (.int (x1)), some (.int (x2)), some (.int (x3)), none, none, none]) (st' := [.int (x2), .int (x1)]) rfl rfl ?_
  have hq5 := T_162 (X := X) (d := d) (by omega) x1 x2 M
  have hz5 := Rc.bool mR_162 hq5
  refine Rc.callS tb_204 rfl rfl rfl mS_162 mP_162 mL_162 rfl rfl rfl hq5 ?_
  refine Rc.if_eq (pc1 := 173) tb_204 rfl rfl (by decide) (by decide) (fun hb20 => ?_) (fun hb20 => ?_)
  · rw [if_pos hb20] at h
    refine Rc.mask (b := 7) ((tb_204.2 173).trans rfl) (ls' := [some (.ref (77)), some (.int (x1)), some (.int (x2)), none, none, none, none]) rfl ?_
    obtain rfl := Option.some.inj h
    exact hE _ rfl
  · rw [if_neg hb20] at h
    refine Rc.run tb_204 3 (pc' := 60) (ls' := [some (.ref (77)), some (.int (x1)), some (.int (x2)), some (.int (x3)), none, none, none]) (st' := [.int (x2), .ref (77), .int (x3)]) rfl rfl ?_
    cases hc6 : F_164 x2 M with
    | none => rw [hc6] at h; cases h
    | some c6 =>
      rw [hc6] at h
      dsimp only at h
      have hq6 := T_164 (X := X) (d := d) (by omega) (M := M) hc6
      refine Rc.callV tb_204 rfl rfl rfl mS_164 mP_164 mL_164 mO_164 rfl rfl ob_77 rfl rfl hq6 ?_
      refine Rc.icmp_ge (pc1 := 173) tb_204 rfl rfl (by decide) (by decide) (fun hb19 => ?_) (fun hb19 => ?_)
      · rw [if_pos hb19] at h
        refine Rc.mask (b := 7) ((tb_204.2 173).trans rfl) (ls' := [some (.ref (77)), some (.int (x1)), some (.int (x2)), none, none, none, none]) rfl ?_
        obtain rfl := Option.some.inj h
        exact hE _ rfl
      · rw [if_neg hb19] at h
        refine Rc.run tb_204 3 (pc' := 69) (ls' := [some (.ref (77)), some (.int (x1)), some (.int (x2)), some (.int (x3)), none, none, none]) (st' := [.int (x3), .int (x2), .ref (77)]) rfl rfl ?_
        cases hc7 : F_195 x2 x3 M with
        | none => rw [hc7] at h; cases h
        | some c7 =>
          rw [hc7] at h
          dsimp only at h
          have hq7 := T_195 (X := X) (d := d) (by omega) (M := M) hc7
          refine Rc.callV tb_204 rfl rfl rfl mS_195 mP_195 mL_195 mO_195 rfl rfl ob_77 rfl rfl hq7 ?_
          refine Rc.run tb_204 4 (pc' := 77) (ls' := [some (.ref (77)), some (.int (x1)), some (.int (x2)), some (.int (x3)), some (.int (c7)), none, none]) (st' := [.int (x3), .int (x2), .ref (77)]) rfl rfl ?_
          cases hc8 : F_196 x2 x3 M with
          | none => rw [hc8] at h; cases h
          | some c8 =>
            rw [hc8] at h
            dsimp only at h
            have hq8 := T_196 (X := X) (d := d) (by omega) (M := M) hc8
            refine Rc.callV tb_204 rfl rfl rfl mS_196 mP_196 mL_196 mO_196 rfl rfl ob_77 rfl rfl hq8 ?_
            refine Rc.run tb_204 2 (pc' := 83) (ls' := [some (.ref (77)), some (.int (x1)), some (.int (x2)), some (.int (x3)), some (.int (c7)), some (.int (c8)), none]) (st' := [.ref (77)]) rfl rfl ?_
            refine Rc.getR tb_204 rfl rfl ob_77 (by decide +kernel) tg_77_0 (by decide) ?_
            refine Rc.run tb_204 7 (pc' := 95) (ls' := [some (.ref (77)), some (.int (x1)), some (.int (x2)), some (.int (x3)), some (.int (c7)), some (.int (c8)), none]) (st' := [.int ((110 + (32 * x2)) + x3), .ref (78)]) rfl rfl ?_
            by_cases hb18 : inb ((110 + (32 * x2)) + x3) 366 = true
            · rw [if_pos hb18] at h
              refine Rc.iald tb_204 rfl rfl ia_78 hb18 ?_
              refine Rc.run tb_204 2 (pc' := 100) (ls' := [some (.ref (77)), some (.int (x1)), some (.int (x2)), some (.int (x3)), some (.int (c7)), some (.int (c8)), some (.int (M 78 ((110 + (32 * x2)) + x3).toNatClampNeg))]) (st' := [.int (c8)]) rfl rfl ?_
              refine Rc.if_ge (pc1 := 118) tb_204 rfl rfl (by decide) (by decide) (fun hb17 => ?_) (fun hb17 => ?_)
              · rw [if_pos hb17] at h
                refine Rc.run tb_204 2 (pc' := 122) (ls' := [some (.ref (77)), some (.int (x1)), some (.int (x2)), some (.int (x3)), some (.int (c7)), some (.int (c8)), some (.int (M 78 ((110 + (32 * x2)) + x3).toNatClampNeg))]) (st' := [.int (c8), .int (c7)]) rfl rfl ?_
                refine Rc.icmp_ge (pc1 := 146) tb_204 rfl rfl (by decide) (by decide) (fun hb14 => ?_) (fun hb14 => ?_)
                · rw [if_pos hb14] at h
                  refine Rc.run tb_204 1 (pc' := 147) (ls' := [some (.ref (77)), some (.int (x1)), some (.int (x2)), some (.int (x3)), some (.int (c7)), some (.int (c8)), some (.int (M 78 ((110 + (32 * x2)) + x3).toNatClampNeg))]) (st' := [.ref (77)]) rfl rfl ?_
                  refine Rc.getR tb_204 rfl rfl ob_77 (by decide +kernel) tg_77_20 (by decide) ?_
                  refine Rc.run tb_204 6 (pc' := 159) (ls' := [some (.ref (77)), some (.int (x1)), some (.int (x2)), some (.int (x3)), some (.int (c7)), some (.int (c8)), some (.int (M 78 ((110 + (32 * x2)) + x3).toNatClampNeg))]) (st' := [.int ((12 * c8) + c7), .ref (88), .int ((12 * c8) + c7), .ref (88)]) rfl rfl ?_
                  by_cases hb11 : inb ((12 * c8) + c7) 144 = true
                  · rw [if_pos hb11] at h
                    refine Rc.iald tb_204 rfl rfl ia_88 hb11 ?_
                    refine Rc.run tb_204 1 (pc' := 162) (ls' := [some (.ref (77)), some (.int (x1)), some (.int (x2)), some (.int (x3)), some (.int (c7)), some (.int (c8)), some (.int (M 78 ((110 + (32 * x2)) + x3).toNatClampNeg))]) (st' := [.int (M 78 ((110 + (32 * x2)) + x3).toNatClampNeg), .int (M 88 ((12 * c8) + c7).toNatClampNeg), .int ((12 * c8) + c7), .ref (88)]) rfl rfl ?_
                    cases hc9 : F_203 (M 78 ((110 + (32 * x2)) + x3).toNatClampNeg) with
                    | none => rw [hc9] at h; cases h
                    | some c9 =>
                      rw [hc9] at h
                      dsimp only at h
                      have hq9 := T_203 (X := X) (d := d) (by omega) (M := M) hc9
                      refine Rc.callS tb_204 rfl rfl rfl mS_203 mP_203 mL_203 rfl rfl rfl hq9 ?_
                      refine Rc.run tb_204 1 (pc' := 166) (ls' := [some (.ref (77)), some (.int (x1)), some (.int (x2)), some (.int (x3)), some (.int (c7)), some (.int (c8)), some (.int (M 78 ((110 + (32 * x2)) + x3).toNatClampNeg))]) (st' := [.int ((M 88 ((12 * c8) + c7).toNatClampNeg) &&& c9), .int ((12 * c8) + c7), .ref (88)]) rfl rfl ?_
                      by_cases hb10 : inb ((12 * c8) + c7) 144 = true
                      · rw [if_pos hb10] at h
                        refine Rc.iast tb_204 rfl rfl ia_88 hb10 ?_
                        refine Rc.mask (b := 15) ((tb_204.2 167).trans rfl) (ls' := [some (.ref (77)), some (.int (x1)), some (.int (x2)), some (.int (x3)), none, none, none]) rfl ?_
                        exact TJ_204_167_49 (X := X) (d := d + 1) (by omega) h hP hE
                      · rw [if_neg hb10] at h
                        cases h
                  · rw [if_neg hb11] at h
                    cases h
                · rw [if_neg hb14] at h
                  refine Rc.run tb_204 1 (pc' := 126) (ls' := [some (.ref (77)), some (.int (x1)), some (.int (x2)), some (.int (x3)), some (.int (c7)), some (.int (c8)), some (.int (M 78 ((110 + (32 * x2)) + x3).toNatClampNeg))]) (st' := [.ref (77)]) rfl rfl ?_
                  refine Rc.getR tb_204 rfl rfl ob_77 (by decide +kernel) tg_77_20 (by decide) ?_
                  refine Rc.run tb_204 6 (pc' := 138) (ls' := [some (.ref (77)), some (.int (x1)), some (.int (x2)), some (.int (x3)), some (.int (c7)), some (.int (c8)), some (.int (M 78 ((110 + (32 * x2)) + x3).toNatClampNeg))]) (st' := [.int ((12 * c7) + c8), .ref (88), .int ((12 * c7) + c8), .ref (88)]) rfl rfl ?_
                  by_cases hb13 : inb ((12 * c7) + c8) 144 = true
                  · rw [if_pos hb13] at h
                    refine Rc.iald tb_204 rfl rfl ia_88 hb13 ?_
                    refine Rc.run tb_204 2 (pc' := 142) (ls' := [some (.ref (77)), some (.int (x1)), some (.int (x2)), some (.int (x3)), some (.int (c7)), some (.int (c8)), some (.int (M 78 ((110 + (32 * x2)) + x3).toNatClampNeg))]) (st' := [.int ((M 88 ((12 * c7) + c8).toNatClampNeg) &&& (M 78 ((110 + (32 * x2)) + x3).toNatClampNeg)), .int ((12 * c7) + c8), .ref (88)]) rfl rfl ?_
                    by_cases hb12 : inb ((12 * c7) + c8) 144 = true
                    · rw [if_pos hb12] at h
                      refine Rc.iast tb_204 rfl rfl ia_88 hb12 ?_
                      refine Rc.run tb_204 1 (pc' := 167) (ls' := [some (.ref (77)), some (.int (x1)), some (.int (x2)), some (.int (x3)), some (.int (c7)), some (.int (c8)), some (.int (M 78 ((110 + (32 * x2)) + x3).toNatClampNeg))]) (st' := []) rfl rfl ?_
                      refine Rc.mask (b := 15) ((tb_204.2 167).trans rfl) (ls' := [some (.ref (77)), some (.int (x1)), some (.int (x2)), some (.int (x3)), none, none, none]) rfl ?_
                      exact TJ_204_167_49 (X := X) (d := d + 1) (by omega) h hP hE
                    · rw [if_neg hb12] at h
                      cases h
                  · rw [if_neg hb13] at h
                    cases h
              · rw [if_neg hb17] at h
                refine Rc.run tb_204 1 (pc' := 104) (ls' := [some (.ref (77)), some (.int (x1)), some (.int (x2)), some (.int (x3)), some (.int (c7)), some (.int (c8)), some (.int (M 78 ((110 + (32 * x2)) + x3).toNatClampNeg))]) (st' := [.ref (77)]) rfl rfl ?_
                refine Rc.getR tb_204 rfl rfl ob_77 (by decide +kernel) tg_77_19 (by decide) ?_
                refine Rc.run tb_204 2 (pc' := 110) (ls' := [some (.ref (77)), some (.int (x1)), some (.int (x2)), some (.int (x3)), some (.int (c7)), some (.int (c8)), some (.int (M 78 ((110 + (32 * x2)) + x3).toNatClampNeg))]) (st' := [.int (c7), .ref (87), .int (c7), .ref (87)]) rfl rfl ?_
                by_cases hb16 : inb c7 12 = true
                · rw [if_pos hb16] at h
                  refine Rc.iald tb_204 rfl rfl ia_87 hb16 ?_
                  refine Rc.run tb_204 2 (pc' := 114) (ls' := [some (.ref (77)), some (.int (x1)), some (.int (x2)), some (.int (x3)), some (.int (c7)), some (.int (c8)), some (.int (M 78 ((110 + (32 * x2)) + x3).toNatClampNeg))]) (st' := [.int ((M 87 c7.toNatClampNeg) &&& (M 78 ((110 + (32 * x2)) + x3).toNatClampNeg)), .int (c7), .ref (87)]) rfl rfl ?_
                  by_cases hb15 : inb c7 12 = true
                  · rw [if_pos hb15] at h
                    refine Rc.iast tb_204 rfl rfl ia_87 hb15 ?_
                    refine Rc.run tb_204 1 (pc' := 167) (ls' := [some (.ref (77)), some (.int (x1)), some (.int (x2)), some (.int (x3)), some (.int (c7)), some (.int (c8)), some (.int (M 78 ((110 + (32 * x2)) + x3).toNatClampNeg))]) (st' := []) rfl rfl ?_
                    refine Rc.mask (b := 15) ((tb_204.2 167).trans rfl) (ls' := [some (.ref (77)), some (.int (x1)), some (.int (x2)), some (.int (x3)), none, none, none]) rfl ?_
                    exact TJ_204_167_49 (X := X) (d := d + 1) (by omega) h hP hE
                  · rw [if_neg hb15] at h
                    cases h
                · rw [if_neg hb16] at h
                  cases h
            · rw [if_neg hb18] at h
              cases h
theorem TL_204_49 {X : AX} {d : Nat} (hd : 2 ≤ d) {x1 : Int32} {x2 : Int32} {x3 : Int32} {M : IM} {v : Option Value} {M' : IM} {r : Int32 × IM} (h : L_204_49 x1 x2 x3 M = some r) (hE : (fun (x3, M) => Rc X d 204 173 [some (.ref (77)), some (.int (x1)), some (.int (x2)), none, none, none, none] [] M v M') r) : Rc X d 204 49 [some (.ref (77)), some (.int (x1)), some (.int (x2)), some (.int (x3)), none, none, none] [] M v M' := by
  exact loopN_rc (P := fun (x3, M) => Rc X d 204 49 [some (.ref (77)), some (.int (x1)), some (.int (x2)), some (.int (x3)), none, none, none] [] M v M') (E := fun (x3, M) => Rc X d 204 173 [some (.ref (77)), some (.int (x1)), some (.int (x2)), none, none, none, none] [] M v M') (TB_204_49 (X := X) hd) FU _ r h hE
theorem TJ_204_173_37 {X : AX} {d : Nat} (hd : 2 ≤ d) {x1 : Int32} {x2 : Int32} {M : IM} {v : Option Value} {M' : IM} {o : (Int32 × IM) ⊕ (Int32 × IM)} (h : J_204_173_37 x1 x2 M = some o) (hP : ∀ s', o = .inl s' → (fun (x2, M) => Rc X d 204 37 [some (.ref (77)), some (.int (x1)), some (.int (x2)), none, none, none, none] [] M v M') s') (hE : ∀ r, o = .inr r → (fun (x2, M) => Rc X d 204 179 [none, none, none, none, none, none, none] [] M v M') r) : Rc X d 204 173 [some (.ref (77)), some (.int (x1)), some (.int (x2)), none, none, none, none] [] M v M' := by
  obtain ⟨d, rfl⟩ : ∃ e, d = e + 1 := ⟨d - 1, by omega⟩
  unfold J_204_173_37 at h
  dsimp only at hP hE
  refine Rc.run tb_204 2 (pc' := 37) (ls' := [some (.ref (77)), some (.int (x1)), some (.int (x2 + 1)), none, none, none, none]) (st' := []) rfl rfl ?_
  refine Rc.mask (b := 7) ((tb_204.2 37).trans rfl) (ls' := [some (.ref (77)), some (.int (x1)), some (.int (x2 + 1)), none, none, none, none]) rfl ?_
  obtain rfl := Option.some.inj h
  exact hP _ rfl
theorem TB_204_37 {X : AX} {d : Nat} (hd : 2 ≤ d) {x1 : Int32} {v : Option Value} {M' : IM} : ∀ (s : Int32 × IM) (o : (Int32 × IM) ⊕ (Int32 × IM)), B_204_37 x1 s = some o → (∀ s', o = .inl s' → (fun (x2, M) => Rc X d 204 37 [some (.ref (77)), some (.int (x1)), some (.int (x2)), none, none, none, none] [] M v M') s') → (∀ r, o = .inr r → (fun (x2, M) => Rc X d 204 179 [none, none, none, none, none, none, none] [] M v M') r) → (fun (x2, M) => Rc X d 204 37 [some (.ref (77)), some (.int (x1)), some (.int (x2)), none, none, none, none] [] M v M') s := by
  rintro ⟨x2, M⟩ o h hP hE
  show Rc X d 204 37 [some (.ref (77)), some (.int (x1)), some (.int (x2)), none, none, none, none] [] M v M'
  obtain ⟨d, rfl⟩ : ∃ e, d = e + 1 := ⟨d - 1, by omega⟩
  unfold B_204_37 at h
  dsimp only at h hP hE
  refine Rc.run tb_204 2 (pc' := 39) (ls' := [some (.ref (77)), some (.int (x1)), some (.int (x2)), none, none, none, none]) (st' := [.ref (77), .int (x2)]) rfl rfl ?_
  refine Rc.getR tb_204 rfl rfl ob_77 (by decide +kernel) tg_77_0 (by decide) ?_
  refine Rc.run tb_204 1 (pc' := 43) (ls' := [some (.ref (77)), some (.int (x1)), some (.int (x2)), none, none, none, none]) (st' := [.int (0), .ref (78), .int (x2)]) rfl rfl ?_
  refine Rc.iald tb_204 rfl rfl ia_78 (by decide) ?_
  refine Rc.icmp_ge (pc1 := 179) tb_204 rfl rfl (by decide) (by decide) (fun hb22 => ?_) (fun hb22 => ?_)
  · rw [if_pos hb22] at h
    refine Rc.mask (b := 0) ((tb_204.2 179).trans rfl) (ls' := [none, none, none, none, none, none, none]) rfl ?_
    obtain rfl := Option.some.inj h
    exact hE _ rfl
  · rw [if_neg hb22] at h
    refine Rc.run tb_204 2 (pc' := 49) (ls' := [some (.ref (77)), some (.int (x1)), some (.int (x2)), some (.int (0)), none, none, none]) (st' := []) rfl rfl ?_
    refine Rc.mask (b := 15) ((tb_204.2 49).trans rfl) (ls' := [some (.ref (77)), some (.int (x1)), some (.int (x2)), some (.int (0)), none, none, none]) rfl ?_
    cases hl21 : L_204_49 x1 x2 0 M with
    | none => rw [hl21] at h; cases h
    | some r21 =>
      obtain ⟨x3_21, M21⟩ := r21
      rw [hl21] at h
      dsimp only at h
      refine TL_204_49 (X := X) (d := d + 1) (by omega) hl21 ?_
      refine Rc.mask (b := 7) ((tb_204.2 173).trans rfl) (ls' := [some (.ref (77)), some (.int (x1)), some (.int (x2)), none, none, none, none]) rfl ?_
      exact TJ_204_173_37 (X := X) (d := d + 1) (by omega) h hP hE
theorem TL_204_37 {X : AX} {d : Nat} (hd : 2 ≤ d) {x1 : Int32} {x2 : Int32} {M : IM} {v : Option Value} {M' : IM} {r : Int32 × IM} (h : L_204_37 x1 x2 M = some r) (hE : (fun (x2, M) => Rc X d 204 179 [none, none, none, none, none, none, none] [] M v M') r) : Rc X d 204 37 [some (.ref (77)), some (.int (x1)), some (.int (x2)), none, none, none, none] [] M v M' := by
  exact loopN_rc (P := fun (x2, M) => Rc X d 204 37 [some (.ref (77)), some (.int (x1)), some (.int (x2)), none, none, none, none] [] M v M') (E := fun (x2, M) => Rc X d 204 179 [none, none, none, none, none, none, none] [] M v M') (TB_204_37 (X := X) hd) FU _ r h hE
theorem TJ_204_35 {X : AX} {d : Nat} (hd : 2 ≤ d) {x1 : Int32} {M : IM} {v : Option Value} {M' : IM} {o : IM} (h : J_204_35 x1 M = some o) (hC : v = none ∧ M' = o) : Rc X d 204 35 [some (.ref (77)), some (.int (x1)), none, none, none, none, none] [] M v M' := by
  obtain ⟨d, rfl⟩ : ∃ e, d = e + 1 := ⟨d - 1, by omega⟩
  unfold J_204_35 at h
  refine Rc.run tb_204 2 (pc' := 37) (ls' := [some (.ref (77)), some (.int (x1)), some (.int (0)), none, none, none, none]) (st' := []) rfl rfl ?_
  refine Rc.mask (b := 7) ((tb_204.2 37).trans rfl) (ls' := [some (.ref (77)), some (.int (x1)), some (.int (0)), none, none, none, none]) rfl ?_
  cases hl24 : L_204_37 x1 0 M with
  | none => rw [hl24] at h; cases h
  | some r24 =>
    obtain ⟨x2_24, M24⟩ := r24
    rw [hl24] at h
    dsimp only at h
    refine TL_204_37 (X := X) (d := d + 1) (by omega) hl24 ?_
    obtain rfl := Option.some.inj h
    obtain ⟨rfl, rfl⟩ := hC
    exact Rc.vret tb_204 rfl mR_204
theorem TF_204 {X : AX} {d : Nat} (hd : 2 ≤ d) {a1 : Int32} {M : IM} {v : Option Value} {M' : IM} {o : IM} (h : F_204 a1 M = some o) (hC : v = none ∧ M' = o) : Rc X d 204 0 [some (.ref (77)), some (.int (a1)), none, none, none, none, none] [] M v M' := by
  obtain ⟨d, rfl⟩ : ∃ e, d = e + 1 := ⟨d - 1, by omega⟩
  unfold F_204 at h
  refine Rc.run tb_204 2 (pc' := 2) (ls' := [some (.ref (77)), some (.int (a1)), some (.int (0)), none, none, none, none]) (st' := []) rfl rfl ?_
  refine Rc.mask (b := 7) ((tb_204.2 2).trans rfl) (ls' := [some (.ref (77)), some (.int (a1)), some (.int (0)), none, none, none, none]) rfl ?_
  cases hl4 : L_204_2 a1 0 M with
  | none => rw [hl4] at h; cases h
  | some r4 =>
    obtain ⟨x2_4, M4⟩ := r4
    rw [hl4] at h
    dsimp only at h
    refine TL_204_2 (X := X) (d := d + 1) (by omega) hl4 ?_
    refine Rc.mask (b := 3) ((tb_204.2 35).trans rfl) (ls' := [some (.ref (77)), some (.int (a1)), none, none, none, none, none]) rfl ?_
    exact TJ_204_35 (X := X) (d := d + 1) (by omega) h hC
theorem T_204 {X : AX} {d : Nat} (hd : 2 ≤ d) {a1 : Int32} {M : IM} {M1 : IM} (h : F_204 a1 M = some M1) : Rc X d 204 0 [some (.ref (77)), some (.int (a1)), none, none, none, none, none] [] M none M1 := TF_204 hd h ⟨rfl, rfl⟩
/-! 205: NineDemandsModel.fitsAhead -/
def J_205_73_17 (x1 : Int32) (x2 : Int32) (x3 : Int32) (x5 : Int32) (s0 : Int32) (M : IM) : Option ((Int32 × Int32) ⊕ (Int32 × Int32)) := some (Sum.inl (s0, x5 + 1))
def J_205_68_17 (x1 : Int32) (x2 : Int32) (x3 : Int32) (x5 : Int32) (M : IM) : Option ((Int32 × Int32) ⊕ (Int32 × Int32)) := J_205_73_17 x1 x2 x3 x5 (1 : Int32) M
def B_205_17 (x1 : Int32) (x2 : Int32) (x3 : Int32) (M : IM) : (Int32 × Int32) → Option ((Int32 × Int32) ⊕ (Int32 × Int32)) := fun (x4, x5) => if x1 ≤ x5 then (some (Sum.inr (x4, x5))) else (if x4 = 0 then (some (Sum.inr (x4, x5))) else (if F_162 x3 x5 = 0 then (J_205_68_17 x1 x2 x3 x5 M) else (if inb ((12 * x5) + x1) 144 = true then (if inb x5 12 = true then (if F_162 (M 88 ((12 * x5) + x1).toNatClampNeg) (((3 * (M 89 x5.toNatClampNeg)) + x2) - 4) = 0 then (J_205_73_17 x1 x2 x3 x5 (0 : Int32) M) else (J_205_68_17 x1 x2 x3 x5 M)) else none) else none)))
def L_205_17 (x1 : Int32) (x2 : Int32) (x3 : Int32) (M : IM) (x4 : Int32) (x5 : Int32) : Option (Int32 × Int32) := loopN (B_205_17 x1 x2 x3 M) FU (x4, x5)
def F_205 (a1 : Int32) (a2 : Int32) (a3 : Int32) (M : IM) : Option (Int32) := if inb a1 12 = true then (match L_205_17 a1 a2 a3 M (F_162 (M 87 a1.toNatClampNeg) (a2 - 1)) 0 with | none => none | some (x4_10, x5_10) => (some (x4_10))) else none
theorem TJ_205_73_17 {X : AX} {d : Nat} (hd : 1 ≤ d) {x1 : Int32} {x2 : Int32} {x3 : Int32} {x5 : Int32} {s0 : Int32} {M : IM} (hs0 : s0 = 0 ∨ s0 = 1) {v : Option Value} {M' : IM} {o : (Int32 × Int32) ⊕ (Int32 × Int32)} (h : J_205_73_17 x1 x2 x3 x5 s0 M = some o) (hP : ∀ s', o = .inl s' → (fun (x4, x5) => (x4 = 0 ∨ x4 = 1) → Rc X d 205 17 [some (.ref (77)), some (.int (x1)), some (.int (x2)), some (.int (x3)), some (.int (x4)), some (.int (x5))] [] M v M') s') (hE : ∀ r, o = .inr r → (fun (x4, x5) => (x4 = 0 ∨ x4 = 1) → Rc X d 205 81 [none, none, none, none, some (.int (x4)), none] [] M v M') r) : Rc X d 205 73 [some (.ref (77)), some (.int (x1)), some (.int (x2)), some (.int (x3)), none, some (.int (x5))] [.int (s0)] M v M' := by
  obtain ⟨d, rfl⟩ : ∃ e, d = e + 1 := ⟨d - 1, by omega⟩
  unfold J_205_73_17 at h
  dsimp only at hP hE
  refine Rc.run tb_205 3 (pc' := 17) (ls' := [some (.ref (77)), some (.int (x1)), some (.int (x2)), some (.int (x3)), some (.int (s0)), some (.int (x5 + 1))]) (st' := []) rfl rfl ?_
  refine Rc.mask (b := 63) ((tb_205.2 17).trans rfl) (ls' := [some (.ref (77)), some (.int (x1)), some (.int (x2)), some (.int (x3)), some (.int (s0)), some (.int (x5 + 1))]) rfl ?_
  obtain rfl := Option.some.inj h
  exact hP _ rfl hs0
theorem TJ_205_68_17 {X : AX} {d : Nat} (hd : 1 ≤ d) {x1 : Int32} {x2 : Int32} {x3 : Int32} {x5 : Int32} {M : IM} {v : Option Value} {M' : IM} {o : (Int32 × Int32) ⊕ (Int32 × Int32)} (h : J_205_68_17 x1 x2 x3 x5 M = some o) (hP : ∀ s', o = .inl s' → (fun (x4, x5) => (x4 = 0 ∨ x4 = 1) → Rc X d 205 17 [some (.ref (77)), some (.int (x1)), some (.int (x2)), some (.int (x3)), some (.int (x4)), some (.int (x5))] [] M v M') s') (hE : ∀ r, o = .inr r → (fun (x4, x5) => (x4 = 0 ∨ x4 = 1) → Rc X d 205 81 [none, none, none, none, some (.int (x4)), none] [] M v M') r) : Rc X d 205 68 [some (.ref (77)), some (.int (x1)), some (.int (x2)), some (.int (x3)), none, some (.int (x5))] [] M v M' := by
  obtain ⟨d, rfl⟩ : ∃ e, d = e + 1 := ⟨d - 1, by omega⟩
  unfold J_205_68_17 at h
  dsimp only at hP hE
  refine Rc.run tb_205 2 (pc' := 73) (ls' := [some (.ref (77)), some (.int (x1)), some (.int (x2)), some (.int (x3)), none, some (.int (x5))]) (st' := [.int (1)]) rfl rfl ?_
  refine Rc.mask (b := 47) ((tb_205.2 73).trans rfl) (ls' := [some (.ref (77)), some (.int (x1)), some (.int (x2)), some (.int (x3)), none, some (.int (x5))]) rfl ?_
  exact TJ_205_73_17 (X := X) (d := d + 1) (by omega) (Or.inr rfl) h hP hE
theorem TB_205_17 {X : AX} {d : Nat} (hd : 1 ≤ d) {x1 : Int32} {x2 : Int32} {x3 : Int32} {M : IM} {v : Option Value} {M' : IM} : ∀ (s : Int32 × Int32) (o : (Int32 × Int32) ⊕ (Int32 × Int32)), B_205_17 x1 x2 x3 M s = some o → (∀ s', o = .inl s' → (fun (x4, x5) => (x4 = 0 ∨ x4 = 1) → Rc X d 205 17 [some (.ref (77)), some (.int (x1)), some (.int (x2)), some (.int (x3)), some (.int (x4)), some (.int (x5))] [] M v M') s') → (∀ r, o = .inr r → (fun (x4, x5) => (x4 = 0 ∨ x4 = 1) → Rc X d 205 81 [none, none, none, none, some (.int (x4)), none] [] M v M') r) → (fun (x4, x5) => (x4 = 0 ∨ x4 = 1) → Rc X d 205 17 [some (.ref (77)), some (.int (x1)), some (.int (x2)), some (.int (x3)), some (.int (x4)), some (.int (x5))] [] M v M') s := by
  rintro ⟨x4, x5⟩ o h hP hE
  intro hx4
  show Rc X d 205 17 [some (.ref (77)), some (.int (x1)), some (.int (x2)), some (.int (x3)), some (.int (x4)), some (.int (x5))] [] M v M'
  obtain ⟨d, rfl⟩ : ∃ e, d = e + 1 := ⟨d - 1, by omega⟩
  unfold B_205_17 at h
  dsimp only at h hP hE
  refine Rc.run tb_205 2 (pc' := 20) (ls' := [some (.ref (77)), some (.int (x1)), some (.int (x2)), some (.int (x3)), some (.int (x4)), some (.int (x5))]) (st' := [.int (x1), .int (x5)]) rfl rfl ?_
  refine Rc.icmp_ge (pc1 := 81) tb_205 rfl rfl (by decide) (by decide) (fun hb9 => ?_) (fun hb9 => ?_)
  · rw [if_pos hb9] at h
    refine Rc.mask (b := 16) ((tb_205.2 81).trans rfl) (ls' := [none, none, none, none, some (.int (x4)), none]) rfl ?_
    obtain rfl := Option.some.inj h
    exact hE _ rfl hx4
  · rw [if_neg hb9] at h
    refine Rc.run tb_205 1 (pc' := 25) (ls' := [some (.ref (77)), some (.int (x1)), some (.int (x2)), some (.int (x3)), some (.int (x4)), some (.int (x5))]) (st' := [.int (x4)]) rfl rfl ?_
    refine Rc.if_eq (pc1 := 81) tb_205 rfl rfl (by decide) (by decide) (fun hb8 => ?_) (fun hb8 => ?_)
    · rw [if_pos hb8] at h
      refine Rc.mask (b := 16) ((tb_205.2 81).trans rfl) (ls' := [none, none, none, none, some (.int (x4)), none]) rfl ?_
      obtain rfl := Option.some.inj h
      exact hE _ rfl hx4
    · rw [if_neg hb8] at h
      refine Rc.run tb_205 2 (pc' := 31) (ls' := [some (.ref (77)), some (.int (x1)), some (.int (x2)), some (.int (x3)), some (.int (x4)), some (.int (x5))]) (st' := [.int (x5), .int (x3)]) rfl rfl ?_
      have hq2 := T_162 (X := X) (d := d) (by omega) x3 x5 M
      have hz2 := Rc.bool mR_162 hq2
      refine Rc.callS tb_205 rfl rfl rfl mS_162 mP_162 mL_162 rfl rfl rfl hq2 ?_
      refine Rc.if_eq (pc1 := 68) tb_205 rfl rfl (by decide) (by decide) (fun hb7 => ?_) (fun hb7 => ?_)
      · rw [if_pos hb7] at h
        refine Rc.mask (b := 47) ((tb_205.2 68).trans rfl) (ls' := [some (.ref (77)), some (.int (x1)), some (.int (x2)), some (.int (x3)), none, some (.int (x5))]) rfl ?_
        exact TJ_205_68_17 (X := X) (d := d + 1) (by omega) h hP hE
      · rw [if_neg hb7] at h
        refine Rc.run tb_205 1 (pc' := 38) (ls' := [some (.ref (77)), some (.int (x1)), some (.int (x2)), some (.int (x3)), some (.int (x4)), some (.int (x5))]) (st' := [.ref (77)]) rfl rfl ?_
        refine Rc.getR tb_205 rfl rfl ob_77 (by decide +kernel) tg_77_20 (by decide) ?_
        refine Rc.run tb_205 5 (pc' := 48) (ls' := [some (.ref (77)), some (.int (x1)), some (.int (x2)), some (.int (x3)), some (.int (x4)), some (.int (x5))]) (st' := [.int ((12 * x5) + x1), .ref (88)]) rfl rfl ?_
        by_cases hb6 : inb ((12 * x5) + x1) 144 = true
        · rw [if_pos hb6] at h
          refine Rc.iald tb_205 rfl rfl ia_88 hb6 ?_
          refine Rc.run tb_205 2 (pc' := 51) (ls' := [some (.ref (77)), some (.int (x1)), some (.int (x2)), some (.int (x3)), some (.int (x4)), some (.int (x5))]) (st' := [.ref (77), .int (3), .int (M 88 ((12 * x5) + x1).toNatClampNeg)]) rfl rfl ?_
          refine Rc.getR tb_205 rfl rfl ob_77 (by decide +kernel) tg_77_21 (by decide) ?_
          refine Rc.run tb_205 1 (pc' := 56) (ls' := [some (.ref (77)), some (.int (x1)), some (.int (x2)), some (.int (x3)), some (.int (x4)), some (.int (x5))]) (st' := [.int (x5), .ref (89), .int (3), .int (M 88 ((12 * x5) + x1).toNatClampNeg)]) rfl rfl ?_
          by_cases hb5 : inb x5 12 = true
          · rw [if_pos hb5] at h
            refine Rc.iald tb_205 rfl rfl ia_89 hb5 ?_
            refine Rc.run tb_205 5 (pc' := 62) (ls' := [some (.ref (77)), some (.int (x1)), some (.int (x2)), some (.int (x3)), some (.int (x4)), some (.int (x5))]) (st' := [.int (((3 * (M 89 x5.toNatClampNeg)) + x2) - 4), .int (M 88 ((12 * x5) + x1).toNatClampNeg)]) rfl rfl ?_
            have hq3 := T_162 (X := X) (d := d) (by omega) (M 88 ((12 * x5) + x1).toNatClampNeg) (((3 * (M 89 x5.toNatClampNeg)) + x2) - 4) M
            have hz3 := Rc.bool mR_162 hq3
            refine Rc.callS tb_205 rfl rfl rfl mS_162 mP_162 mL_162 rfl rfl rfl hq3 ?_
            refine Rc.if_eq (pc1 := 72) tb_205 rfl rfl (by decide) (by decide) (fun hb4 => ?_) (fun hb4 => ?_)
            · rw [if_pos hb4] at h
              refine Rc.run tb_205 1 (pc' := 73) (ls' := [some (.ref (77)), some (.int (x1)), some (.int (x2)), some (.int (x3)), some (.int (x4)), some (.int (x5))]) (st' := [.int (0)]) rfl rfl ?_
              refine Rc.mask (b := 47) ((tb_205.2 73).trans rfl) (ls' := [some (.ref (77)), some (.int (x1)), some (.int (x2)), some (.int (x3)), none, some (.int (x5))]) rfl ?_
              exact TJ_205_73_17 (X := X) (d := d + 1) (by omega) (Or.inl rfl) h hP hE
            · rw [if_neg hb4] at h
              refine Rc.mask (b := 47) ((tb_205.2 68).trans rfl) (ls' := [some (.ref (77)), some (.int (x1)), some (.int (x2)), some (.int (x3)), none, some (.int (x5))]) rfl ?_
              exact TJ_205_68_17 (X := X) (d := d + 1) (by omega) h hP hE
          · rw [if_neg hb5] at h
            cases h
        · rw [if_neg hb6] at h
          cases h
theorem TL_205_17 {X : AX} {d : Nat} (hd : 1 ≤ d) {x1 : Int32} {x2 : Int32} {x3 : Int32} {M : IM} {x4 : Int32} {x5 : Int32} (hx4 : x4 = 0 ∨ x4 = 1) {v : Option Value} {M' : IM} {r : Int32 × Int32} (h : L_205_17 x1 x2 x3 M x4 x5 = some r) (hE : (fun (x4, x5) => (x4 = 0 ∨ x4 = 1) → Rc X d 205 81 [none, none, none, none, some (.int (x4)), none] [] M v M') r) : Rc X d 205 17 [some (.ref (77)), some (.int (x1)), some (.int (x2)), some (.int (x3)), some (.int (x4)), some (.int (x5))] [] M v M' := by
  exact loopN_rc (P := fun (x4, x5) => (x4 = 0 ∨ x4 = 1) → Rc X d 205 17 [some (.ref (77)), some (.int (x1)), some (.int (x2)), some (.int (x3)), some (.int (x4)), some (.int (x5))] [] M v M') (E := fun (x4, x5) => (x4 = 0 ∨ x4 = 1) → Rc X d 205 81 [none, none, none, none, some (.int (x4)), none] [] M v M') (TB_205_17 (X := X) hd) FU _ r h hE hx4
theorem TF_205 {X : AX} {d : Nat} (hd : 1 ≤ d) {a1 : Int32} {a2 : Int32} {a3 : Int32} {M : IM} {v : Option Value} {M' : IM} {o : Int32} (h : F_205 a1 a2 a3 M = some o) (hC : v = some (.int o) ∧ M' = M) : Rc X d 205 0 [some (.ref (77)), some (.int (a1)), some (.int (a2)), some (.int (a3)), none, none] [] M v M' := by
  obtain ⟨d, rfl⟩ : ∃ e, d = e + 1 := ⟨d - 1, by omega⟩
  unfold F_205 at h
  refine Rc.run tb_205 1 (pc' := 1) (ls' := [some (.ref (77)), some (.int (a1)), some (.int (a2)), some (.int (a3)), none, none]) (st' := [.ref (77)]) rfl rfl ?_
  refine Rc.getR tb_205 rfl rfl ob_77 (by decide +kernel) tg_77_19 (by decide) ?_
  refine Rc.run tb_205 1 (pc' := 5) (ls' := [some (.ref (77)), some (.int (a1)), some (.int (a2)), some (.int (a3)), none, none]) (st' := [.int (a1), .ref (87)]) rfl rfl ?_
  by_cases hb11 : inb a1 12 = true
  · rw [if_pos hb11] at h
    refine Rc.iald tb_205 rfl rfl ia_87 hb11 ?_
    refine Rc.run tb_205 3 (pc' := 9) (ls' := [some (.ref (77)), some (.int (a1)), some (.int (a2)), some (.int (a3)), none, none]) (st' := [.int (a2 - 1), .int (M 87 a1.toNatClampNeg)]) rfl rfl ?_
    have hq1 := T_162 (X := X) (d := d) (by omega) (M 87 a1.toNatClampNeg) (a2 - 1) M
    have hz1 := Rc.bool mR_162 hq1
    refine Rc.callS tb_205 rfl rfl rfl mS_162 mP_162 mL_162 rfl rfl rfl hq1 ?_
    refine Rc.run tb_205 3 (pc' := 17) (ls' := [some (.ref (77)), some (.int (a1)), some (.int (a2)), some (.int (a3)), some (.int (F_162 (M 87 a1.toNatClampNeg) (a2 - 1))), some (.int (0))]) (st' := []) rfl rfl ?_
    refine Rc.mask (b := 63) ((tb_205.2 17).trans rfl) (ls' := [some (.ref (77)), some (.int (a1)), some (.int (a2)), some (.int (a3)), some (.int (F_162 (M 87 a1.toNatClampNeg) (a2 - 1))), some (.int (0))]) rfl ?_
    cases hl10 : L_205_17 a1 a2 a3 M (F_162 (M 87 a1.toNatClampNeg) (a2 - 1)) 0 with
    | none => rw [hl10] at h; cases h
    | some r10 =>
      obtain ⟨x4_10, x5_10⟩ := r10
      rw [hl10] at h
      dsimp only at h
      refine TL_205_17 (X := X) (d := d + 1) (by omega) hz1 hl10 ?_
      intro hz_x4_10
      refine Rc.run tb_205 1 (pc' := 83) (ls' := [none, none, none, none, some (.int (x4_10)), none]) (st' := [.int (x4_10)]) rfl rfl ?_
      obtain rfl := Option.some.inj h
      obtain ⟨rfl, rfl⟩ := hC
      exact Rc.zret tb_205 rfl mR_205 hz_x4_10
  · rw [if_neg hb11] at h
    cases h
theorem T_205 {X : AX} {d : Nat} (hd : 1 ≤ d) {a1 : Int32} {a2 : Int32} {a3 : Int32} {M : IM} {x : Int32} (h : F_205 a1 a2 a3 M = some x) : Rc X d 205 0 [some (.ref (77)), some (.int (a1)), some (.int (a2)), some (.int (a3)), none, none] [] M (some (.int x)) M := TF_205 hd h ⟨rfl, rfl⟩
/-! 210: NineDemandsModel.waysBy -/
def J_210_136 (x1 : Int32) (M : IM) : Option (Int32 × IM) := if inb x1 4096 = true then (some ((M 90 x1.toNatClampNeg, M))) else none
def J_210_102_28 (x1 : Int32) (x2 : Int32) (x3 : Int32) (x5 : Int32) (x6 : Int32) (s0 : Int32) (M : IM) : Option ((Int32 × Int32 × Int32 × IM) ⊕ (Int32 × Int32 × Int32 × IM)) := some (Sum.inl (s0, x5, x6 + 1, M))
def J_210_101_28 (x1 : Int32) (x2 : Int32) (x3 : Int32) (x5 : Int32) (x6 : Int32) (M : IM) : Option ((Int32 × Int32 × Int32 × IM) ⊕ (Int32 × Int32 × Int32 × IM)) := J_210_102_28 x1 x2 x3 x5 x6 (0 : Int32) M
def B_210_28 (x1 : Int32) (x2 : Int32) (x3 : Int32) : (Int32 × Int32 × Int32 × IM) → Option ((Int32 × Int32 × Int32 × IM) ⊕ (Int32 × Int32 × Int32 × IM)) := fun (x4, x5, x6, M) => if (4 : Int32) ≤ x6 then (some (Sum.inr (x4, x5, x6, M))) else (if inb x6 12 = true then (if x4 = 0 then (J_210_101_28 x1 x2 x3 (x5 / 3) x6 (iset M 89 x6.toNatClampNeg ((x5 - x5 / 3 * 3) + 1))) else (if inb x6 12 = true then (if F_162 x1 (((3 * x6) + ((iset M 89 x6.toNatClampNeg ((x5 - x5 / 3 * 3) + 1)) 89 x6.toNatClampNeg)) - 1) = 0 then (J_210_101_28 x1 x2 x3 (x5 / 3) x6 (iset M 89 x6.toNatClampNeg ((x5 - x5 / 3 * 3) + 1))) else (if inb x6 12 = true then (match F_205 x6 ((iset M 89 x6.toNatClampNeg ((x5 - x5 / 3 * 3) + 1)) 89 x6.toNatClampNeg) (15 : Int32) (iset M 89 x6.toNatClampNeg ((x5 - x5 / 3 * 3) + 1)) with | none => none | some c3 => (if c3 = 0 then (J_210_101_28 x1 x2 x3 (x5 / 3) x6 (iset M 89 x6.toNatClampNeg ((x5 - x5 / 3 * 3) + 1))) else (J_210_102_28 x1 x2 x3 (x5 / 3) x6 (1 : Int32) (iset M 89 x6.toNatClampNeg ((x5 - x5 / 3 * 3) + 1))))) else none)) else none)) else none)
def L_210_28 (x1 : Int32) (x2 : Int32) (x3 : Int32) (x4 : Int32) (x5 : Int32) (x6 : Int32) (M : IM) : Option (Int32 × Int32 × Int32 × IM) := loopN (B_210_28 x1 x2 x3) FU (x4, x5, x6, M)
def J_210_121_13 (x1 : Int32) (x3 : Int32) (s0 : Int32) (s1 : Int32) (M : IM) : Option ((Int32 × Int32 × IM) ⊕ (Int32 × Int32 × IM)) := some (Sum.inl (s1 + s0, x3 + 1, M))
def J_210_110_13 (x1 : Int32) (x2 : Int32) (x3 : Int32) (x4 : Int32) (M : IM) : Option ((Int32 × Int32 × IM) ⊕ (Int32 × Int32 × IM)) := if x4 = 0 then (J_210_121_13 x1 x3 (0 : Int32) x2 M) else (J_210_121_13 x1 x3 (1 : Int32) x2 M)
def B_210_13 (x1 : Int32) : (Int32 × Int32 × IM) → Option ((Int32 × Int32 × IM) ⊕ (Int32 × Int32 × IM)) := fun (x2, x3, M) => if (81 : Int32) ≤ x3 then (some (Sum.inr (x2, x3, M))) else (match L_210_28 x1 x2 x3 1 x3 0 M with | none => none | some (x4_11, x5_11, x6_11, M11) => (J_210_110_13 x1 x2 x3 x4_11 M11))
def L_210_13 (x1 : Int32) (x2 : Int32) (x3 : Int32) (M : IM) : Option (Int32 × Int32 × IM) := loopN (B_210_13 x1) FU (x2, x3, M)
def J_210_129 (x1 : Int32) (x2 : Int32) (M : IM) : Option (Int32 × IM) := if inb x1 4096 = true then (J_210_136 x1 (iset M 90 x1.toNatClampNeg x2)) else none
def F_210 (a1 : Int32) (M : IM) : Option (Int32 × IM) := if inb a1 4096 = true then (if (0 : Int32) ≤ M 90 a1.toNatClampNeg then (J_210_136 a1 M) else (match L_210_13 a1 0 0 M with | none => none | some (x2_14, x3_14, M14) => (J_210_129 a1 x2_14 M14))) else none
theorem TJ_210_136 {X : AX} {d : Nat} (hd : 2 ≤ d) {x1 : Int32} {M : IM} {v : Option Value} {M' : IM} {o : Int32 × IM} (h : J_210_136 x1 M = some o) (hC : v = some (.int o.1) ∧ M' = o.2) : Rc X d 210 136 [some (.ref (77)), some (.int (x1)), none, none, none, none, none] [] M v M' := by
  obtain ⟨d, rfl⟩ : ∃ e, d = e + 1 := ⟨d - 1, by omega⟩
  unfold J_210_136 at h
  refine Rc.run tb_210 1 (pc' := 137) (ls' := [some (.ref (77)), some (.int (x1)), none, none, none, none, none]) (st' := [.ref (77)]) rfl rfl ?_
  refine Rc.getR tb_210 rfl rfl ob_77 (by decide +kernel) tg_77_22 (by decide) ?_
  refine Rc.run tb_210 1 (pc' := 141) (ls' := [some (.ref (77)), some (.int (x1)), none, none, none, none, none]) (st' := [.int (x1), .ref (90)]) rfl rfl ?_
  by_cases hb1 : inb x1 4096 = true
  · rw [if_pos hb1] at h
    refine Rc.iald tb_210 rfl rfl ia_90 hb1 ?_
    obtain rfl := Option.some.inj h
    obtain ⟨rfl, rfl⟩ := hC
    exact Rc.iret (ins := .ireturn) tb_210 rfl mR_210
  · rw [if_neg hb1] at h
    cases h
theorem TJ_210_102_28 {X : AX} {d : Nat} (hd : 2 ≤ d) {x1 : Int32} {x2 : Int32} {x3 : Int32} {x5 : Int32} {x6 : Int32} {s0 : Int32} {M : IM} (hs0 : s0 = 0 ∨ s0 = 1) {v : Option Value} {M' : IM} {o : (Int32 × Int32 × Int32 × IM) ⊕ (Int32 × Int32 × Int32 × IM)} (h : J_210_102_28 x1 x2 x3 x5 x6 s0 M = some o) (hP : ∀ s', o = .inl s' → (fun (x4, x5, x6, M) => (x4 = 0 ∨ x4 = 1) → Rc X d 210 28 [some (.ref (77)), some (.int (x1)), some (.int (x2)), some (.int (x3)), some (.int (x4)), some (.int (x5)), some (.int (x6))] [] M v M') s') (hE : ∀ r, o = .inr r → (fun (x4, x5, x6, M) => (x4 = 0 ∨ x4 = 1) → Rc X d 210 110 [some (.ref (77)), some (.int (x1)), some (.int (x2)), some (.int (x3)), some (.int (x4)), none, none] [] M v M') r) : Rc X d 210 102 [some (.ref (77)), some (.int (x1)), some (.int (x2)), some (.int (x3)), none, some (.int (x5)), some (.int (x6))] [.int (s0)] M v M' := by
  obtain ⟨d, rfl⟩ : ∃ e, d = e + 1 := ⟨d - 1, by omega⟩
  unfold J_210_102_28 at h
  dsimp only at hP hE
  refine Rc.run tb_210 3 (pc' := 28) (ls' := [some (.ref (77)), some (.int (x1)), some (.int (x2)), some (.int (x3)), some (.int (s0)), some (.int (x5)), some (.int (x6 + 1))]) (st' := []) rfl rfl ?_
  refine Rc.mask (b := 127) ((tb_210.2 28).trans rfl) (ls' := [some (.ref (77)), some (.int (x1)), some (.int (x2)), some (.int (x3)), some (.int (s0)), some (.int (x5)), some (.int (x6 + 1))]) rfl ?_
  obtain rfl := Option.some.inj h
  exact hP _ rfl hs0
theorem TJ_210_101_28 {X : AX} {d : Nat} (hd : 2 ≤ d) {x1 : Int32} {x2 : Int32} {x3 : Int32} {x5 : Int32} {x6 : Int32} {M : IM} {v : Option Value} {M' : IM} {o : (Int32 × Int32 × Int32 × IM) ⊕ (Int32 × Int32 × Int32 × IM)} (h : J_210_101_28 x1 x2 x3 x5 x6 M = some o) (hP : ∀ s', o = .inl s' → (fun (x4, x5, x6, M) => (x4 = 0 ∨ x4 = 1) → Rc X d 210 28 [some (.ref (77)), some (.int (x1)), some (.int (x2)), some (.int (x3)), some (.int (x4)), some (.int (x5)), some (.int (x6))] [] M v M') s') (hE : ∀ r, o = .inr r → (fun (x4, x5, x6, M) => (x4 = 0 ∨ x4 = 1) → Rc X d 210 110 [some (.ref (77)), some (.int (x1)), some (.int (x2)), some (.int (x3)), some (.int (x4)), none, none] [] M v M') r) : Rc X d 210 101 [some (.ref (77)), some (.int (x1)), some (.int (x2)), some (.int (x3)), none, some (.int (x5)), some (.int (x6))] [] M v M' := by
  obtain ⟨d, rfl⟩ : ∃ e, d = e + 1 := ⟨d - 1, by omega⟩
  unfold J_210_101_28 at h
  dsimp only at hP hE
  refine Rc.run tb_210 1 (pc' := 102) (ls' := [some (.ref (77)), some (.int (x1)), some (.int (x2)), some (.int (x3)), none, some (.int (x5)), some (.int (x6))]) (st' := [.int (0)]) rfl rfl ?_
  refine Rc.mask (b := 111) ((tb_210.2 102).trans rfl) (ls' := [some (.ref (77)), some (.int (x1)), some (.int (x2)), some (.int (x3)), none, some (.int (x5)), some (.int (x6))]) rfl ?_
  exact TJ_210_102_28 (X := X) (d := d + 1) (by omega) (Or.inl rfl) h hP hE
theorem TB_210_28 {X : AX} {d : Nat} (hd : 2 ≤ d) {x1 : Int32} {x2 : Int32} {x3 : Int32} {v : Option Value} {M' : IM} : ∀ (s : Int32 × Int32 × Int32 × IM) (o : (Int32 × Int32 × Int32 × IM) ⊕ (Int32 × Int32 × Int32 × IM)), B_210_28 x1 x2 x3 s = some o → (∀ s', o = .inl s' → (fun (x4, x5, x6, M) => (x4 = 0 ∨ x4 = 1) → Rc X d 210 28 [some (.ref (77)), some (.int (x1)), some (.int (x2)), some (.int (x3)), some (.int (x4)), some (.int (x5)), some (.int (x6))] [] M v M') s') → (∀ r, o = .inr r → (fun (x4, x5, x6, M) => (x4 = 0 ∨ x4 = 1) → Rc X d 210 110 [some (.ref (77)), some (.int (x1)), some (.int (x2)), some (.int (x3)), some (.int (x4)), none, none] [] M v M') r) → (fun (x4, x5, x6, M) => (x4 = 0 ∨ x4 = 1) → Rc X d 210 28 [some (.ref (77)), some (.int (x1)), some (.int (x2)), some (.int (x3)), some (.int (x4)), some (.int (x5)), some (.int (x6))] [] M v M') s := by
  rintro ⟨x4, x5, x6, M⟩ o h hP hE
  intro hx4
  show Rc X d 210 28 [some (.ref (77)), some (.int (x1)), some (.int (x2)), some (.int (x3)), some (.int (x4)), some (.int (x5)), some (.int (x6))] [] M v M'
  obtain ⟨d, rfl⟩ : ∃ e, d = e + 1 := ⟨d - 1, by omega⟩
  unfold B_210_28 at h
  dsimp only at h hP hE
  refine Rc.run tb_210 2 (pc' := 31) (ls' := [some (.ref (77)), some (.int (x1)), some (.int (x2)), some (.int (x3)), some (.int (x4)), some (.int (x5)), some (.int (x6))]) (st' := [.int (4), .int (x6)]) rfl rfl ?_
  refine Rc.icmp_ge (pc1 := 110) tb_210 rfl rfl (by decide) (by decide) (fun hb10 => ?_) (fun hb10 => ?_)
  · rw [if_pos hb10] at h
    refine Rc.mask (b := 31) ((tb_210.2 110).trans rfl) (ls' := [some (.ref (77)), some (.int (x1)), some (.int (x2)), some (.int (x3)), some (.int (x4)), none, none]) rfl ?_
    obtain rfl := Option.some.inj h
    exact hE _ rfl hx4
  · rw [if_neg hb10] at h
    refine Rc.run tb_210 1 (pc' := 35) (ls' := [some (.ref (77)), some (.int (x1)), some (.int (x2)), some (.int (x3)), some (.int (x4)), some (.int (x5)), some (.int (x6))]) (st' := [.ref (77)]) rfl rfl ?_
    refine Rc.getR tb_210 rfl rfl ob_77 (by decide +kernel) tg_77_21 (by decide) ?_
    refine Rc.run tb_210 3 (pc' := 43) (ls' := [some (.ref (77)), some (.int (x1)), some (.int (x2)), some (.int (x3)), some (.int (x4)), some (.int (x5)), some (.int (x6))]) (st' := [.int (3), .int (x5), .int (x6), .ref (89)]) rfl rfl ?_
    refine Rc.irem tb_210 rfl rfl (by decide) ?_
    refine Rc.run tb_210 2 (pc' := 46) (ls' := [some (.ref (77)), some (.int (x1)), some (.int (x2)), some (.int (x3)), some (.int (x4)), some (.int (x5)), some (.int (x6))]) (st' := [.int ((x5 - x5 / 3 * 3) + 1), .int (x6), .ref (89)]) rfl rfl ?_
    by_cases hb9 : inb x6 12 = true
    · rw [if_pos hb9] at h
      refine Rc.iast tb_210 rfl rfl ia_89 hb9 ?_
      refine Rc.run tb_210 2 (pc' := 50) (ls' := [some (.ref (77)), some (.int (x1)), some (.int (x2)), some (.int (x3)), some (.int (x4)), some (.int (x5)), some (.int (x6))]) (st' := [.int (3), .int (x5)]) rfl rfl ?_
      refine Rc.idiv tb_210 rfl rfl (by decide) ?_
      refine Rc.run tb_210 2 (pc' := 55) (ls' := [some (.ref (77)), some (.int (x1)), some (.int (x2)), some (.int (x3)), some (.int (x4)), some (.int (x5 / 3)), some (.int (x6))]) (st' := [.int (x4)]) rfl rfl ?_
      refine Rc.if_eq (pc1 := 101) tb_210 rfl rfl (by decide) (by decide) (fun hb8 => ?_) (fun hb8 => ?_)
      · rw [if_pos hb8] at h
        refine Rc.mask (b := 111) ((tb_210.2 101).trans rfl) (ls' := [some (.ref (77)), some (.int (x1)), some (.int (x2)), some (.int (x3)), none, some (.int (x5 / 3)), some (.int (x6))]) rfl ?_
        exact TJ_210_101_28 (X := X) (d := d + 1) (by omega) h hP hE
      · rw [if_neg hb8] at h
        refine Rc.run tb_210 5 (pc' := 64) (ls' := [some (.ref (77)), some (.int (x1)), some (.int (x2)), some (.int (x3)), some (.int (x4)), some (.int (x5 / 3)), some (.int (x6))]) (st' := [.ref (77), .int (3 * x6), .int (x1)]) rfl rfl ?_
        refine Rc.getR tb_210 rfl rfl ob_77 (by decide +kernel) tg_77_21 (by decide) ?_
        refine Rc.run tb_210 1 (pc' := 69) (ls' := [some (.ref (77)), some (.int (x1)), some (.int (x2)), some (.int (x3)), some (.int (x4)), some (.int (x5 / 3)), some (.int (x6))]) (st' := [.int (x6), .ref (89), .int (3 * x6), .int (x1)]) rfl rfl ?_
        by_cases hb7 : inb x6 12 = true
        · rw [if_pos hb7] at h
          refine Rc.iald tb_210 rfl rfl ia_89 hb7 ?_
          refine Rc.run tb_210 3 (pc' := 73) (ls' := [some (.ref (77)), some (.int (x1)), some (.int (x2)), some (.int (x3)), some (.int (x4)), some (.int (x5 / 3)), some (.int (x6))]) (st' := [.int (((3 * x6) + ((iset M 89 x6.toNatClampNeg ((x5 - x5 / 3 * 3) + 1)) 89 x6.toNatClampNeg)) - 1), .int (x1)]) rfl rfl ?_
          have hq2 := T_162 (X := X) (d := d) (by omega) x1 (((3 * x6) + ((iset M 89 x6.toNatClampNeg ((x5 - x5 / 3 * 3) + 1)) 89 x6.toNatClampNeg)) - 1) (iset M 89 x6.toNatClampNeg ((x5 - x5 / 3 * 3) + 1))
          have hz2 := Rc.bool mR_162 hq2
          refine Rc.callS tb_210 rfl rfl rfl mS_162 mP_162 mL_162 rfl rfl rfl hq2 ?_
          refine Rc.if_eq (pc1 := 101) tb_210 rfl rfl (by decide) (by decide) (fun hb6 => ?_) (fun hb6 => ?_)
          · rw [if_pos hb6] at h
            refine Rc.mask (b := 111) ((tb_210.2 101).trans rfl) (ls' := [some (.ref (77)), some (.int (x1)), some (.int (x2)), some (.int (x3)), none, some (.int (x5 / 3)), some (.int (x6))]) rfl ?_
            exact TJ_210_101_28 (X := X) (d := d + 1) (by omega) h hP hE
          · rw [if_neg hb6] at h
            refine Rc.run tb_210 3 (pc' := 83) (ls' := [some (.ref (77)), some (.int (x1)), some (.int (x2)), some (.int (x3)), some (.int (x4)), some (.int (x5 / 3)), some (.int (x6))]) (st' := [.ref (77), .int (x6), .ref (77)]) rfl rfl ?_
            refine Rc.getR tb_210 rfl rfl ob_77 (by decide +kernel) tg_77_21 (by decide) ?_
            refine Rc.run tb_210 1 (pc' := 88) (ls' := [some (.ref (77)), some (.int (x1)), some (.int (x2)), some (.int (x3)), some (.int (x4)), some (.int (x5 / 3)), some (.int (x6))]) (st' := [.int (x6), .ref (89), .int (x6), .ref (77)]) rfl rfl ?_
            by_cases hb5 : inb x6 12 = true
            · rw [if_pos hb5] at h
              refine Rc.iald tb_210 rfl rfl ia_89 hb5 ?_
              refine Rc.run tb_210 1 (pc' := 91) (ls' := [some (.ref (77)), some (.int (x1)), some (.int (x2)), some (.int (x3)), some (.int (x4)), some (.int (x5 / 3)), some (.int (x6))]) (st' := [.int (15), .int ((iset M 89 x6.toNatClampNeg ((x5 - x5 / 3 * 3) + 1)) 89 x6.toNatClampNeg), .int (x6), .ref (77)]) rfl rfl ?_
              cases hc3 : F_205 x6 ((iset M 89 x6.toNatClampNeg ((x5 - x5 / 3 * 3) + 1)) 89 x6.toNatClampNeg) (15 : Int32) (iset M 89 x6.toNatClampNeg ((x5 - x5 / 3 * 3) + 1)) with
              | none => rw [hc3] at h; cases h
              | some c3 =>
                rw [hc3] at h
                dsimp only at h
                have hq3 := T_205 (X := X) (d := d) (by omega) (M := iset M 89 x6.toNatClampNeg ((x5 - x5 / 3 * 3) + 1)) hc3
                have hz3 := Rc.bool mR_205 hq3
                refine Rc.callV tb_210 rfl rfl rfl mS_205 mP_205 mL_205 mO_205 rfl rfl ob_77 rfl rfl hq3 ?_
                refine Rc.if_eq (pc1 := 101) tb_210 rfl rfl (by decide) (by decide) (fun hb4 => ?_) (fun hb4 => ?_)
                · rw [if_pos hb4] at h
                  refine Rc.mask (b := 111) ((tb_210.2 101).trans rfl) (ls' := [some (.ref (77)), some (.int (x1)), some (.int (x2)), some (.int (x3)), none, some (.int (x5 / 3)), some (.int (x6))]) rfl ?_
                  exact TJ_210_101_28 (X := X) (d := d + 1) (by omega) h hP hE
                · rw [if_neg hb4] at h
                  refine Rc.run tb_210 2 (pc' := 102) (ls' := [some (.ref (77)), some (.int (x1)), some (.int (x2)), some (.int (x3)), some (.int (x4)), some (.int (x5 / 3)), some (.int (x6))]) (st' := [.int (1)]) rfl rfl ?_
                  refine Rc.mask (b := 111) ((tb_210.2 102).trans rfl) (ls' := [some (.ref (77)), some (.int (x1)), some (.int (x2)), some (.int (x3)), none, some (.int (x5 / 3)), some (.int (x6))]) rfl ?_
                  exact TJ_210_102_28 (X := X) (d := d + 1) (by omega) (Or.inr rfl) h hP hE
            · rw [if_neg hb5] at h
              cases h
        · rw [if_neg hb7] at h
          cases h
    · rw [if_neg hb9] at h
      cases h
theorem TL_210_28 {X : AX} {d : Nat} (hd : 2 ≤ d) {x1 : Int32} {x2 : Int32} {x3 : Int32} {x4 : Int32} {x5 : Int32} {x6 : Int32} {M : IM} (hx4 : x4 = 0 ∨ x4 = 1) {v : Option Value} {M' : IM} {r : Int32 × Int32 × Int32 × IM} (h : L_210_28 x1 x2 x3 x4 x5 x6 M = some r) (hE : (fun (x4, x5, x6, M) => (x4 = 0 ∨ x4 = 1) → Rc X d 210 110 [some (.ref (77)), some (.int (x1)), some (.int (x2)), some (.int (x3)), some (.int (x4)), none, none] [] M v M') r) : Rc X d 210 28 [some (.ref (77)), some (.int (x1)), some (.int (x2)), some (.int (x3)), some (.int (x4)), some (.int (x5)), some (.int (x6))] [] M v M' := by
  exact loopN_rc (P := fun (x4, x5, x6, M) => (x4 = 0 ∨ x4 = 1) → Rc X d 210 28 [some (.ref (77)), some (.int (x1)), some (.int (x2)), some (.int (x3)), some (.int (x4)), some (.int (x5)), some (.int (x6))] [] M v M') (E := fun (x4, x5, x6, M) => (x4 = 0 ∨ x4 = 1) → Rc X d 210 110 [some (.ref (77)), some (.int (x1)), some (.int (x2)), some (.int (x3)), some (.int (x4)), none, none] [] M v M') (TB_210_28 (X := X) hd) FU _ r h hE hx4
theorem TJ_210_121_13 {X : AX} {d : Nat} (hd : 2 ≤ d) {x1 : Int32} {x3 : Int32} {s0 : Int32} {s1 : Int32} {M : IM} (hs0 : s0 = 0 ∨ s0 = 1) {v : Option Value} {M' : IM} {o : (Int32 × Int32 × IM) ⊕ (Int32 × Int32 × IM)} (h : J_210_121_13 x1 x3 s0 s1 M = some o) (hP : ∀ s', o = .inl s' → (fun (x2, x3, M) => Rc X d 210 13 [some (.ref (77)), some (.int (x1)), some (.int (x2)), some (.int (x3)), none, none, none] [] M v M') s') (hE : ∀ r, o = .inr r → (fun (x2, x3, M) => Rc X d 210 129 [some (.ref (77)), some (.int (x1)), some (.int (x2)), none, none, none, none] [] M v M') r) : Rc X d 210 121 [some (.ref (77)), some (.int (x1)), none, some (.int (x3)), none, none, none] [.int (s0), .int (s1)] M v M' := by
  obtain ⟨d, rfl⟩ : ∃ e, d = e + 1 := ⟨d - 1, by omega⟩
  unfold J_210_121_13 at h
  dsimp only at hP hE
  refine Rc.run tb_210 4 (pc' := 13) (ls' := [some (.ref (77)), some (.int (x1)), some (.int (s1 + s0)), some (.int (x3 + 1)), none, none, none]) (st' := []) rfl rfl ?_
  refine Rc.mask (b := 15) ((tb_210.2 13).trans rfl) (ls' := [some (.ref (77)), some (.int (x1)), some (.int (s1 + s0)), some (.int (x3 + 1)), none, none, none]) rfl ?_
  obtain rfl := Option.some.inj h
  exact hP _ rfl
theorem TJ_210_110_13 {X : AX} {d : Nat} (hd : 2 ≤ d) {x1 : Int32} {x2 : Int32} {x3 : Int32} {x4 : Int32} {M : IM} (hx4 : x4 = 0 ∨ x4 = 1) {v : Option Value} {M' : IM} {o : (Int32 × Int32 × IM) ⊕ (Int32 × Int32 × IM)} (h : J_210_110_13 x1 x2 x3 x4 M = some o) (hP : ∀ s', o = .inl s' → (fun (x2, x3, M) => Rc X d 210 13 [some (.ref (77)), some (.int (x1)), some (.int (x2)), some (.int (x3)), none, none, none] [] M v M') s') (hE : ∀ r, o = .inr r → (fun (x2, x3, M) => Rc X d 210 129 [some (.ref (77)), some (.int (x1)), some (.int (x2)), none, none, none, none] [] M v M') r) : Rc X d 210 110 [some (.ref (77)), some (.int (x1)), some (.int (x2)), some (.int (x3)), some (.int (x4)), none, none] [] M v M' := by
  obtain ⟨d, rfl⟩ : ∃ e, d = e + 1 := ⟨d - 1, by omega⟩
  unfold J_210_110_13 at h
  dsimp only at hP hE
  refine Rc.run tb_210 2 (pc' := 113) (ls' := [some (.ref (77)), some (.int (x1)), some (.int (x2)), some (.int (x3)), some (.int (x4)), none, none]) (st' := [.int (x4), .int (x2)]) rfl rfl ?_
  refine Rc.if_eq (pc1 := 120) tb_210 rfl rfl (by decide) (by decide) (fun hb12 => ?_) (fun hb12 => ?_)
  · rw [if_pos hb12] at h
    refine Rc.run tb_210 1 (pc' := 121) (ls' := [some (.ref (77)), some (.int (x1)), some (.int (x2)), some (.int (x3)), some (.int (x4)), none, none]) (st' := [.int (0), .int (x2)]) rfl rfl ?_
    refine Rc.mask (b := 11) ((tb_210.2 121).trans rfl) (ls' := [some (.ref (77)), some (.int (x1)), none, some (.int (x3)), none, none, none]) rfl ?_
    exact TJ_210_121_13 (X := X) (d := d + 1) (by omega) (Or.inl rfl) h hP hE
  · rw [if_neg hb12] at h
    refine Rc.run tb_210 2 (pc' := 121) (ls' := [some (.ref (77)), some (.int (x1)), some (.int (x2)), some (.int (x3)), some (.int (x4)), none, none]) (st' := [.int (1), .int (x2)]) rfl rfl ?_
    refine Rc.mask (b := 11) ((tb_210.2 121).trans rfl) (ls' := [some (.ref (77)), some (.int (x1)), none, some (.int (x3)), none, none, none]) rfl ?_
    exact TJ_210_121_13 (X := X) (d := d + 1) (by omega) (Or.inr rfl) h hP hE
theorem TB_210_13 {X : AX} {d : Nat} (hd : 2 ≤ d) {x1 : Int32} {v : Option Value} {M' : IM} : ∀ (s : Int32 × Int32 × IM) (o : (Int32 × Int32 × IM) ⊕ (Int32 × Int32 × IM)), B_210_13 x1 s = some o → (∀ s', o = .inl s' → (fun (x2, x3, M) => Rc X d 210 13 [some (.ref (77)), some (.int (x1)), some (.int (x2)), some (.int (x3)), none, none, none] [] M v M') s') → (∀ r, o = .inr r → (fun (x2, x3, M) => Rc X d 210 129 [some (.ref (77)), some (.int (x1)), some (.int (x2)), none, none, none, none] [] M v M') r) → (fun (x2, x3, M) => Rc X d 210 13 [some (.ref (77)), some (.int (x1)), some (.int (x2)), some (.int (x3)), none, none, none] [] M v M') s := by
  rintro ⟨x2, x3, M⟩ o h hP hE
  show Rc X d 210 13 [some (.ref (77)), some (.int (x1)), some (.int (x2)), some (.int (x3)), none, none, none] [] M v M'
  obtain ⟨d, rfl⟩ : ∃ e, d = e + 1 := ⟨d - 1, by omega⟩
  unfold B_210_13 at h
  dsimp only at h hP hE
  refine Rc.run tb_210 2 (pc' := 16) (ls' := [some (.ref (77)), some (.int (x1)), some (.int (x2)), some (.int (x3)), none, none, none]) (st' := [.int (81), .int (x3)]) rfl rfl ?_
  refine Rc.icmp_ge (pc1 := 129) tb_210 rfl rfl (by decide) (by decide) (fun hb13 => ?_) (fun hb13 => ?_)
  · rw [if_pos hb13] at h
    refine Rc.mask (b := 7) ((tb_210.2 129).trans rfl) (ls' := [some (.ref (77)), some (.int (x1)), some (.int (x2)), none, none, none, none]) rfl ?_
    obtain rfl := Option.some.inj h
    exact hE _ rfl
  · rw [if_neg hb13] at h
    refine Rc.run tb_210 6 (pc' := 28) (ls' := [some (.ref (77)), some (.int (x1)), some (.int (x2)), some (.int (x3)), some (.int (1)), some (.int (x3)), some (.int (0))]) (st' := []) rfl rfl ?_
    refine Rc.mask (b := 127) ((tb_210.2 28).trans rfl) (ls' := [some (.ref (77)), some (.int (x1)), some (.int (x2)), some (.int (x3)), some (.int (1)), some (.int (x3)), some (.int (0))]) rfl ?_
    cases hl11 : L_210_28 x1 x2 x3 1 x3 0 M with
    | none => rw [hl11] at h; cases h
    | some r11 =>
      obtain ⟨x4_11, x5_11, x6_11, M11⟩ := r11
      rw [hl11] at h
      dsimp only at h
      refine TL_210_28 (X := X) (d := d + 1) (by omega) (Or.inr rfl) hl11 ?_
      intro hz_x4_11
      refine Rc.mask (b := 31) ((tb_210.2 110).trans rfl) (ls' := [some (.ref (77)), some (.int (x1)), some (.int (x2)), some (.int (x3)), some (.int (x4_11)), none, none]) rfl ?_
      exact TJ_210_110_13 (X := X) (d := d + 1) (by omega) hz_x4_11 h hP hE
theorem TL_210_13 {X : AX} {d : Nat} (hd : 2 ≤ d) {x1 : Int32} {x2 : Int32} {x3 : Int32} {M : IM} {v : Option Value} {M' : IM} {r : Int32 × Int32 × IM} (h : L_210_13 x1 x2 x3 M = some r) (hE : (fun (x2, x3, M) => Rc X d 210 129 [some (.ref (77)), some (.int (x1)), some (.int (x2)), none, none, none, none] [] M v M') r) : Rc X d 210 13 [some (.ref (77)), some (.int (x1)), some (.int (x2)), some (.int (x3)), none, none, none] [] M v M' := by
  exact loopN_rc (P := fun (x2, x3, M) => Rc X d 210 13 [some (.ref (77)), some (.int (x1)), some (.int (x2)), some (.int (x3)), none, none, none] [] M v M') (E := fun (x2, x3, M) => Rc X d 210 129 [some (.ref (77)), some (.int (x1)), some (.int (x2)), none, none, none, none] [] M v M') (TB_210_13 (X := X) hd) FU _ r h hE
theorem TJ_210_129 {X : AX} {d : Nat} (hd : 2 ≤ d) {x1 : Int32} {x2 : Int32} {M : IM} {v : Option Value} {M' : IM} {o : Int32 × IM} (h : J_210_129 x1 x2 M = some o) (hC : v = some (.int o.1) ∧ M' = o.2) : Rc X d 210 129 [some (.ref (77)), some (.int (x1)), some (.int (x2)), none, none, none, none] [] M v M' := by
  obtain ⟨d, rfl⟩ : ∃ e, d = e + 1 := ⟨d - 1, by omega⟩
  unfold J_210_129 at h
  refine Rc.run tb_210 1 (pc' := 130) (ls' := [some (.ref (77)), some (.int (x1)), some (.int (x2)), none, none, none, none]) (st' := [.ref (77)]) rfl rfl ?_
  refine Rc.getR tb_210 rfl rfl ob_77 (by decide +kernel) tg_77_22 (by decide) ?_
  refine Rc.run tb_210 2 (pc' := 135) (ls' := [some (.ref (77)), some (.int (x1)), some (.int (x2)), none, none, none, none]) (st' := [.int (x2), .int (x1), .ref (90)]) rfl rfl ?_
  by_cases hb15 : inb x1 4096 = true
  · rw [if_pos hb15] at h
    refine Rc.iast tb_210 rfl rfl ia_90 hb15 ?_
    refine Rc.mask (b := 3) ((tb_210.2 136).trans rfl) (ls' := [some (.ref (77)), some (.int (x1)), none, none, none, none, none]) rfl ?_
    exact TJ_210_136 (X := X) (d := d + 1) (by omega) h hC
  · rw [if_neg hb15] at h
    cases h
theorem TF_210 {X : AX} {d : Nat} (hd : 2 ≤ d) {a1 : Int32} {M : IM} {v : Option Value} {M' : IM} {o : Int32 × IM} (h : F_210 a1 M = some o) (hC : v = some (.int o.1) ∧ M' = o.2) : Rc X d 210 0 [some (.ref (77)), some (.int (a1)), none, none, none, none, none] [] M v M' := by
  obtain ⟨d, rfl⟩ : ∃ e, d = e + 1 := ⟨d - 1, by omega⟩
  unfold F_210 at h
  refine Rc.run tb_210 1 (pc' := 1) (ls' := [some (.ref (77)), some (.int (a1)), none, none, none, none, none]) (st' := [.ref (77)]) rfl rfl ?_
  refine Rc.getR tb_210 rfl rfl ob_77 (by decide +kernel) tg_77_22 (by decide) ?_
  refine Rc.run tb_210 1 (pc' := 5) (ls' := [some (.ref (77)), some (.int (a1)), none, none, none, none, none]) (st' := [.int (a1), .ref (90)]) rfl rfl ?_
  by_cases hb17 : inb a1 4096 = true
  · rw [if_pos hb17] at h
    refine Rc.iald tb_210 rfl rfl ia_90 hb17 ?_
    refine Rc.if_ge (pc1 := 136) tb_210 rfl rfl (by decide) (by decide) (fun hb16 => ?_) (fun hb16 => ?_)
    · rw [if_pos hb16] at h
      refine Rc.mask (b := 3) ((tb_210.2 136).trans rfl) (ls' := [some (.ref (77)), some (.int (a1)), none, none, none, none, none]) rfl ?_
      exact TJ_210_136 (X := X) (d := d + 1) (by omega) h hC
    · rw [if_neg hb16] at h
      refine Rc.run tb_210 4 (pc' := 13) (ls' := [some (.ref (77)), some (.int (a1)), some (.int (0)), some (.int (0)), none, none, none]) (st' := []) rfl rfl ?_
      refine Rc.mask (b := 15) ((tb_210.2 13).trans rfl) (ls' := [some (.ref (77)), some (.int (a1)), some (.int (0)), some (.int (0)), none, none, none]) rfl ?_
      cases hl14 : L_210_13 a1 0 0 M with
      | none => rw [hl14] at h; cases h
      | some r14 =>
        obtain ⟨x2_14, x3_14, M14⟩ := r14
        rw [hl14] at h
        dsimp only at h
        refine TL_210_13 (X := X) (d := d + 1) (by omega) hl14 ?_
        refine Rc.mask (b := 7) ((tb_210.2 129).trans rfl) (ls' := [some (.ref (77)), some (.int (a1)), some (.int (x2_14)), none, none, none, none]) rfl ?_
        exact TJ_210_129 (X := X) (d := d + 1) (by omega) h hC
  · rw [if_neg hb17] at h
    cases h
theorem T_210 {X : AX} {d : Nat} (hd : 2 ≤ d) {a1 : Int32} {M : IM} {x : Int32} {M1 : IM} (h : F_210 a1 M = some (x, M1)) : Rc X d 210 0 [some (.ref (77)), some (.int (a1)), none, none, none, none, none] [] M (some (.int x)) M1 := TF_210 hd h ⟨rfl, rfl⟩
/-! 216: NineDemandsModel.word -/
def B_216_28 (x1 : Int32) (x2 : Int32) (x3 : Int32) : (Int32 × IM) → Option ((Int32 × IM) ⊕ (Int32 × IM)) := fun (x4, M) => if (12 : Int32) ≤ x4 then (some (Sum.inr (x4, M))) else (match F_172 x2 x4 with | none => none | some c3 => (if inb x4 12 = true then (some (Sum.inl (x4 + 1, iset M 89 x4.toNatClampNeg c3))) else none))
def L_216_28 (x1 : Int32) (x2 : Int32) (x3 : Int32) (x4 : Int32) (M : IM) : Option (Int32 × IM) := loopN (B_216_28 x1 x2 x3) FU (x4, M)
def J_216_100_57 (x1 : Int32) (x2 : Int32) (x4 : Int32) (s0 : Int32) (M : IM) : Option ((Int32 × Int32) ⊕ (Int32 × Int32)) := some (Sum.inl (s0, x4 + 1))
def J_216_95_57 (x1 : Int32) (x2 : Int32) (x4 : Int32) (M : IM) : Option ((Int32 × Int32) ⊕ (Int32 × Int32)) := J_216_100_57 x1 x2 x4 (1 : Int32) M
def B_216_57 (x1 : Int32) (x2 : Int32) (M : IM) : (Int32 × Int32) → Option ((Int32 × Int32) ⊕ (Int32 × Int32)) := fun (x3, x4) => if M 78 (0 : Int32).toNatClampNeg ≤ x4 then (some (Sum.inr (x3, x4))) else (if x3 = 0 then (some (Sum.inr (x3, x4))) else (if F_162 x1 x4 = 0 then (J_216_95_57 x1 x2 x4 M) else (match F_200 x4 89 (0 : Int32) M with | none => none | some c8 => (if (0 : Int32) ≤ c8 then (J_216_100_57 x1 x2 x4 (0 : Int32) M) else (J_216_95_57 x1 x2 x4 M)))))
def L_216_57 (x1 : Int32) (x2 : Int32) (M : IM) (x3 : Int32) (x4 : Int32) : Option (Int32 × Int32) := loopN (B_216_57 x1 x2 M) FU (x3, x4)
def J_216_107_17 (x1 : Int32) (x2 : Int32) (x3 : Int32) (M : IM) : Option ((Int32 × IM) ⊕ ((Int32 × IM) ⊕ (Int32 × IM))) := if x3 = 0 then (some (Sum.inl (x2 + 1, M))) else (some (Sum.inr (Sum.inr (x2, M))))
def J_216_54_17 (x1 : Int32) (x2 : Int32) (x3 : Int32) (M : IM) : Option ((Int32 × IM) ⊕ ((Int32 × IM) ⊕ (Int32 × IM))) := (match L_216_57 x1 x2 M x3 0 with | none => none | some (x3_14, x4_14) => (J_216_107_17 x1 x2 x3_14 M))
def B_216_17 (x1 : Int32) : (Int32 × IM) → Option ((Int32 × IM) ⊕ ((Int32 × IM) ⊕ (Int32 × IM))) := fun (x2, M) => if (12 : Int32) ≤ x2 then (some (Sum.inr (Sum.inl (x2, M)))) else (match L_216_28 x1 x2 1 0 M with | none => none | some (x4_6, M6) => (J_216_54_17 x1 x2 (1 : Int32) M6))
def L_216_17 (x1 : Int32) (x2 : Int32) (M : IM) : Option ((Int32 × IM) ⊕ (Int32 × IM)) := loopN (B_216_17 x1) FU (x2, M)
def J_216_119 (M : IM) : Option (Int32 × IM) := (match F_156 ((-1000002) : Int32) M with | none => none | some (c18, M18) => (some ((c18, M18))))
def F_216 (a1 : Int32) (M : IM) : Option (Int32 × IM) := if F_161 a1 M = 0 then (match F_156 ((-1000001) : Int32) M with | none => none | some (c2, M2) => (some ((c2, M2)))) else (match L_216_17 a1 0 M with | none => none | some (.inl (x2_17, M17)) => (J_216_119 M17) | some (.inr q) => some (q))
theorem TB_216_28 {X : AX} {d : Nat} (hd : 4 ≤ d) {x1 : Int32} {x2 : Int32} {x3 : Int32} (hx3 : x3 = 0 ∨ x3 = 1) {v : Option Value} {M' : IM} : ∀ (s : Int32 × IM) (o : (Int32 × IM) ⊕ (Int32 × IM)), B_216_28 x1 x2 x3 s = some o → (∀ s', o = .inl s' → (fun (x4, M) => Rc X d 216 28 [some (.ref (77)), some (.int (x1)), some (.int (x2)), some (.int (x3)), some (.int (x4))] [] M v M') s') → (∀ r, o = .inr r → (fun (x4, M) => Rc X d 216 54 [some (.ref (77)), some (.int (x1)), some (.int (x2)), some (.int (x3)), none] [] M v M') r) → (fun (x4, M) => Rc X d 216 28 [some (.ref (77)), some (.int (x1)), some (.int (x2)), some (.int (x3)), some (.int (x4))] [] M v M') s := by
  rintro ⟨x4, M⟩ o h hP hE
  show Rc X d 216 28 [some (.ref (77)), some (.int (x1)), some (.int (x2)), some (.int (x3)), some (.int (x4))] [] M v M'
  obtain ⟨d, rfl⟩ : ∃ e, d = e + 1 := ⟨d - 1, by omega⟩
  unfold B_216_28 at h
  dsimp only at h hP hE
  refine Rc.run tb_216 2 (pc' := 32) (ls' := [some (.ref (77)), some (.int (x1)), some (.int (x2)), some (.int (x3)), some (.int (x4))]) (st' := [.int (12), .int (x4)]) rfl rfl ?_
  refine Rc.icmp_ge (pc1 := 54) tb_216 rfl rfl (by decide) (by decide) (fun hb5 => ?_) (fun hb5 => ?_)
  · rw [if_pos hb5] at h
    refine Rc.mask (b := 15) ((tb_216.2 54).trans rfl) (ls' := [some (.ref (77)), some (.int (x1)), some (.int (x2)), some (.int (x3)), none]) rfl ?_
    obtain rfl := Option.some.inj h
    exact hE _ rfl
  · rw [if_neg hb5] at h
    refine Rc.run tb_216 1 (pc' := 36) (ls' := [some (.ref (77)), some (.int (x1)), some (.int (x2)), some (.int (x3)), some (.int (x4))]) (st' := [.ref (77)]) rfl rfl ?_
    refine Rc.getR tb_216 rfl rfl ob_77 (by decide +kernel) tg_77_21 (by decide) ?_
    refine Rc.run tb_216 3 (pc' := 44) (ls' := [some (.ref (77)), some (.int (x1)), some (.int (x2)), some (.int (x3)), some (.int (x4))]) (st' := [.int (x4), .int (x2), .int (x4), .ref (89)]) rfl rfl ?_
    cases hc3 : F_172 x2 x4 with
    | none => rw [hc3] at h; cases h
    | some c3 =>
      rw [hc3] at h
      dsimp only at h
      have hq3 := T_172 (X := X) (d := d) (by omega) (M := M) hc3
      refine Rc.callS tb_216 rfl rfl rfl mS_172 mP_172 mL_172 rfl rfl rfl hq3 ?_
      by_cases hb4 : inb x4 12 = true
      · rw [if_pos hb4] at h
        refine Rc.iast tb_216 rfl rfl ia_89 hb4 ?_
        refine Rc.run tb_216 2 (pc' := 28) (ls' := [some (.ref (77)), some (.int (x1)), some (.int (x2)), some (.int (x3)), some (.int (x4 + 1))]) (st' := []) rfl rfl ?_
        refine Rc.mask (b := 31) ((tb_216.2 28).trans rfl) (ls' := [some (.ref (77)), some (.int (x1)), some (.int (x2)), some (.int (x3)), some (.int (x4 + 1))]) rfl ?_
        obtain rfl := Option.some.inj h
        exact hP _ rfl
      · rw [if_neg hb4] at h
        cases h
theorem TL_216_28 {X : AX} {d : Nat} (hd : 4 ≤ d) {x1 : Int32} {x2 : Int32} {x3 : Int32} {x4 : Int32} {M : IM} (hx3 : x3 = 0 ∨ x3 = 1) {v : Option Value} {M' : IM} {r : Int32 × IM} (h : L_216_28 x1 x2 x3 x4 M = some r) (hE : (fun (x4, M) => Rc X d 216 54 [some (.ref (77)), some (.int (x1)), some (.int (x2)), some (.int (x3)), none] [] M v M') r) : Rc X d 216 28 [some (.ref (77)), some (.int (x1)), some (.int (x2)), some (.int (x3)), some (.int (x4))] [] M v M' := by
  exact loopN_rc (P := fun (x4, M) => Rc X d 216 28 [some (.ref (77)), some (.int (x1)), some (.int (x2)), some (.int (x3)), some (.int (x4))] [] M v M') (E := fun (x4, M) => Rc X d 216 54 [some (.ref (77)), some (.int (x1)), some (.int (x2)), some (.int (x3)), none] [] M v M') (TB_216_28 (X := X) hd hx3) FU _ r h hE
theorem TJ_216_100_57 {X : AX} {d : Nat} (hd : 4 ≤ d) {x1 : Int32} {x2 : Int32} {x4 : Int32} {s0 : Int32} {M : IM} (hs0 : s0 = 0 ∨ s0 = 1) {v : Option Value} {M' : IM} {o : (Int32 × Int32) ⊕ (Int32 × Int32)} (h : J_216_100_57 x1 x2 x4 s0 M = some o) (hP : ∀ s', o = .inl s' → (fun (x3, x4) => (x3 = 0 ∨ x3 = 1) → Rc X d 216 57 [some (.ref (77)), some (.int (x1)), some (.int (x2)), some (.int (x3)), some (.int (x4))] [] M v M') s') (hE : ∀ r, o = .inr r → (fun (x3, x4) => (x3 = 0 ∨ x3 = 1) → Rc X d 216 107 [some (.ref (77)), some (.int (x1)), some (.int (x2)), some (.int (x3)), none] [] M v M') r) : Rc X d 216 100 [some (.ref (77)), some (.int (x1)), some (.int (x2)), none, some (.int (x4))] [.int (s0)] M v M' := by
  obtain ⟨d, rfl⟩ : ∃ e, d = e + 1 := ⟨d - 1, by omega⟩
  unfold J_216_100_57 at h
  dsimp only at hP hE
  refine Rc.run tb_216 3 (pc' := 57) (ls' := [some (.ref (77)), some (.int (x1)), some (.int (x2)), some (.int (s0)), some (.int (x4 + 1))]) (st' := []) rfl rfl ?_
  refine Rc.mask (b := 31) ((tb_216.2 57).trans rfl) (ls' := [some (.ref (77)), some (.int (x1)), some (.int (x2)), some (.int (s0)), some (.int (x4 + 1))]) rfl ?_
  obtain rfl := Option.some.inj h
  exact hP _ rfl hs0
theorem TJ_216_95_57 {X : AX} {d : Nat} (hd : 4 ≤ d) {x1 : Int32} {x2 : Int32} {x4 : Int32} {M : IM} {v : Option Value} {M' : IM} {o : (Int32 × Int32) ⊕ (Int32 × Int32)} (h : J_216_95_57 x1 x2 x4 M = some o) (hP : ∀ s', o = .inl s' → (fun (x3, x4) => (x3 = 0 ∨ x3 = 1) → Rc X d 216 57 [some (.ref (77)), some (.int (x1)), some (.int (x2)), some (.int (x3)), some (.int (x4))] [] M v M') s') (hE : ∀ r, o = .inr r → (fun (x3, x4) => (x3 = 0 ∨ x3 = 1) → Rc X d 216 107 [some (.ref (77)), some (.int (x1)), some (.int (x2)), some (.int (x3)), none] [] M v M') r) : Rc X d 216 95 [some (.ref (77)), some (.int (x1)), some (.int (x2)), none, some (.int (x4))] [] M v M' := by
  obtain ⟨d, rfl⟩ : ∃ e, d = e + 1 := ⟨d - 1, by omega⟩
  unfold J_216_95_57 at h
  dsimp only at hP hE
  refine Rc.run tb_216 2 (pc' := 100) (ls' := [some (.ref (77)), some (.int (x1)), some (.int (x2)), none, some (.int (x4))]) (st' := [.int (1)]) rfl rfl ?_
  refine Rc.mask (b := 23) ((tb_216.2 100).trans rfl) (ls' := [some (.ref (77)), some (.int (x1)), some (.int (x2)), none, some (.int (x4))]) rfl ?_
  exact TJ_216_100_57 (X := X) (d := d + 1) (by omega) (Or.inr rfl) h hP hE
theorem TB_216_57 {X : AX} {d : Nat} (hd : 4 ≤ d) {x1 : Int32} {x2 : Int32} {M : IM} {v : Option Value} {M' : IM} : ∀ (s : Int32 × Int32) (o : (Int32 × Int32) ⊕ (Int32 × Int32)), B_216_57 x1 x2 M s = some o → (∀ s', o = .inl s' → (fun (x3, x4) => (x3 = 0 ∨ x3 = 1) → Rc X d 216 57 [some (.ref (77)), some (.int (x1)), some (.int (x2)), some (.int (x3)), some (.int (x4))] [] M v M') s') → (∀ r, o = .inr r → (fun (x3, x4) => (x3 = 0 ∨ x3 = 1) → Rc X d 216 107 [some (.ref (77)), some (.int (x1)), some (.int (x2)), some (.int (x3)), none] [] M v M') r) → (fun (x3, x4) => (x3 = 0 ∨ x3 = 1) → Rc X d 216 57 [some (.ref (77)), some (.int (x1)), some (.int (x2)), some (.int (x3)), some (.int (x4))] [] M v M') s := by
  rintro ⟨x3, x4⟩ o h hP hE
  intro hx3
  show Rc X d 216 57 [some (.ref (77)), some (.int (x1)), some (.int (x2)), some (.int (x3)), some (.int (x4))] [] M v M'
  obtain ⟨d, rfl⟩ : ∃ e, d = e + 1 := ⟨d - 1, by omega⟩
  unfold B_216_57 at h
  dsimp only at h hP hE
  refine Rc.run tb_216 2 (pc' := 60) (ls' := [some (.ref (77)), some (.int (x1)), some (.int (x2)), some (.int (x3)), some (.int (x4))]) (st' := [.ref (77), .int (x4)]) rfl rfl ?_
  refine Rc.getR tb_216 rfl rfl ob_77 (by decide +kernel) tg_77_0 (by decide) ?_
  refine Rc.run tb_216 1 (pc' := 64) (ls' := [some (.ref (77)), some (.int (x1)), some (.int (x2)), some (.int (x3)), some (.int (x4))]) (st' := [.int (0), .ref (78), .int (x4)]) rfl rfl ?_
  refine Rc.iald tb_216 rfl rfl ia_78 (by decide) ?_
  refine Rc.icmp_ge (pc1 := 107) tb_216 rfl rfl (by decide) (by decide) (fun hb12 => ?_) (fun hb12 => ?_)
  · rw [if_pos hb12] at h
    refine Rc.mask (b := 15) ((tb_216.2 107).trans rfl) (ls' := [some (.ref (77)), some (.int (x1)), some (.int (x2)), some (.int (x3)), none]) rfl ?_
    obtain rfl := Option.some.inj h
    exact hE _ rfl hx3
  · rw [if_neg hb12] at h
    refine Rc.run tb_216 1 (pc' := 69) (ls' := [some (.ref (77)), some (.int (x1)), some (.int (x2)), some (.int (x3)), some (.int (x4))]) (st' := [.int (x3)]) rfl rfl ?_
    refine Rc.if_eq (pc1 := 107) tb_216 rfl rfl (by decide) (by decide) (fun hb11 => ?_) (fun hb11 => ?_)
    · rw [if_pos hb11] at h
      refine Rc.mask (b := 15) ((tb_216.2 107).trans rfl) (ls' := [some (.ref (77)), some (.int (x1)), some (.int (x2)), some (.int (x3)), none]) rfl ?_
      obtain rfl := Option.some.inj h
      exact hE _ rfl hx3
    · rw [if_neg hb11] at h
      refine Rc.run tb_216 2 (pc' := 75) (ls' := [some (.ref (77)), some (.int (x1)), some (.int (x2)), some (.int (x3)), some (.int (x4))]) (st' := [.int (x4), .int (x1)]) rfl rfl ?_
      have hq7 := T_162 (X := X) (d := d) (by omega) x1 x4 M
      have hz7 := Rc.bool mR_162 hq7
      refine Rc.callS tb_216 rfl rfl rfl mS_162 mP_162 mL_162 rfl rfl rfl hq7 ?_
      refine Rc.if_eq (pc1 := 95) tb_216 rfl rfl (by decide) (by decide) (fun hb10 => ?_) (fun hb10 => ?_)
      · rw [if_pos hb10] at h
        refine Rc.mask (b := 23) ((tb_216.2 95).trans rfl) (ls' := [some (.ref (77)), some (.int (x1)), some (.int (x2)), none, some (.int (x4))]) rfl ?_
        exact TJ_216_95_57 (X := X) (d := d + 1) (by omega) h hP hE
      · rw [if_neg hb10] at h
        refine Rc.run tb_216 3 (pc' := 85) (ls' := [some (.ref (77)), some (.int (x1)), some (.int (x2)), some (.int (x3)), some (.int (x4))]) (st' := [.ref (77), .int (x4), .ref (77)]) rfl rfl ?_
        refine Rc.getR tb_216 rfl rfl ob_77 (by decide +kernel) tg_77_21 (by decide) ?_
        refine Rc.run tb_216 1 (pc' := 89) (ls' := [some (.ref (77)), some (.int (x1)), some (.int (x2)), some (.int (x3)), some (.int (x4))]) (st' := [.int (0), .ref (89), .int (x4), .ref (77)]) rfl rfl ?_
        cases hc8 : F_200 x4 89 (0 : Int32) M with
        | none => rw [hc8] at h; cases h
        | some c8 =>
          rw [hc8] at h
          dsimp only at h
          have hq8 := T_200 (X := X) (d := d) (by omega) (M := M) (ia_89).1 hc8
          refine Rc.callV tb_216 rfl rfl rfl mS_200 mP_200 mL_200 mO_200 rfl rfl ob_77 rfl rfl hq8 ?_
          refine Rc.if_ge (pc1 := 99) tb_216 rfl rfl (by decide) (by decide) (fun hb9 => ?_) (fun hb9 => ?_)
          · rw [if_pos hb9] at h
            refine Rc.run tb_216 1 (pc' := 100) (ls' := [some (.ref (77)), some (.int (x1)), some (.int (x2)), some (.int (x3)), some (.int (x4))]) (st' := [.int (0)]) rfl rfl ?_
            refine Rc.mask (b := 23) ((tb_216.2 100).trans rfl) (ls' := [some (.ref (77)), some (.int (x1)), some (.int (x2)), none, some (.int (x4))]) rfl ?_
            exact TJ_216_100_57 (X := X) (d := d + 1) (by omega) (Or.inl rfl) h hP hE
          · rw [if_neg hb9] at h
            refine Rc.mask (b := 23) ((tb_216.2 95).trans rfl) (ls' := [some (.ref (77)), some (.int (x1)), some (.int (x2)), none, some (.int (x4))]) rfl ?_
            exact TJ_216_95_57 (X := X) (d := d + 1) (by omega) h hP hE
theorem TL_216_57 {X : AX} {d : Nat} (hd : 4 ≤ d) {x1 : Int32} {x2 : Int32} {M : IM} {x3 : Int32} {x4 : Int32} (hx3 : x3 = 0 ∨ x3 = 1) {v : Option Value} {M' : IM} {r : Int32 × Int32} (h : L_216_57 x1 x2 M x3 x4 = some r) (hE : (fun (x3, x4) => (x3 = 0 ∨ x3 = 1) → Rc X d 216 107 [some (.ref (77)), some (.int (x1)), some (.int (x2)), some (.int (x3)), none] [] M v M') r) : Rc X d 216 57 [some (.ref (77)), some (.int (x1)), some (.int (x2)), some (.int (x3)), some (.int (x4))] [] M v M' := by
  exact loopN_rc (P := fun (x3, x4) => (x3 = 0 ∨ x3 = 1) → Rc X d 216 57 [some (.ref (77)), some (.int (x1)), some (.int (x2)), some (.int (x3)), some (.int (x4))] [] M v M') (E := fun (x3, x4) => (x3 = 0 ∨ x3 = 1) → Rc X d 216 107 [some (.ref (77)), some (.int (x1)), some (.int (x2)), some (.int (x3)), none] [] M v M') (TB_216_57 (X := X) hd) FU _ r h hE hx3
theorem TJ_216_107_17 {X : AX} {d : Nat} (hd : 4 ≤ d) {x1 : Int32} {x2 : Int32} {x3 : Int32} {M : IM} (hx3 : x3 = 0 ∨ x3 = 1) {v : Option Value} {M' : IM} {o : (Int32 × IM) ⊕ ((Int32 × IM) ⊕ (Int32 × IM))} (h : J_216_107_17 x1 x2 x3 M = some o) (hP : ∀ s', o = .inl s' → (fun (x2, M) => Rc X d 216 17 [some (.ref (77)), some (.int (x1)), some (.int (x2)), none, none] [] M v M') s') (hE : ∀ r, o = .inr r → (fun r => match r with | .inl (x2, M) => Rc X d 216 119 [some (.ref (77)), none, none, none, none] [] M v M' | .inr q => v = some (.int q.1) ∧ M' = q.2) r) : Rc X d 216 107 [some (.ref (77)), some (.int (x1)), some (.int (x2)), some (.int (x3)), none] [] M v M' := by
  obtain ⟨d, rfl⟩ : ∃ e, d = e + 1 := ⟨d - 1, by omega⟩
  unfold J_216_107_17 at h
  dsimp only at hP hE
  refine Rc.run tb_216 1 (pc' := 108) (ls' := [some (.ref (77)), some (.int (x1)), some (.int (x2)), some (.int (x3)), none]) (st' := [.int (x3)]) rfl rfl ?_
  refine Rc.if_eq (pc1 := 113) tb_216 rfl rfl (by decide) (by decide) (fun hb15 => ?_) (fun hb15 => ?_)
  · rw [if_pos hb15] at h
    refine Rc.run tb_216 2 (pc' := 17) (ls' := [some (.ref (77)), some (.int (x1)), some (.int (x2 + 1)), some (.int (x3)), none]) (st' := []) rfl rfl ?_
    refine Rc.mask (b := 7) ((tb_216.2 17).trans rfl) (ls' := [some (.ref (77)), some (.int (x1)), some (.int (x2 + 1)), none, none]) rfl ?_
    obtain rfl := Option.some.inj h
    exact hP _ rfl
  · rw [if_neg hb15] at h
    refine Rc.run tb_216 1 (pc' := 112) (ls' := [some (.ref (77)), some (.int (x1)), some (.int (x2)), some (.int (x3)), none]) (st' := [.int (x2)]) rfl rfl ?_
    obtain rfl := Option.some.inj h
    obtain ⟨rfl, rfl⟩ := hE _ rfl
    exact Rc.iret (ins := .ireturn) tb_216 rfl mR_216
theorem TJ_216_54_17 {X : AX} {d : Nat} (hd : 4 ≤ d) {x1 : Int32} {x2 : Int32} {x3 : Int32} {M : IM} (hx3 : x3 = 0 ∨ x3 = 1) {v : Option Value} {M' : IM} {o : (Int32 × IM) ⊕ ((Int32 × IM) ⊕ (Int32 × IM))} (h : J_216_54_17 x1 x2 x3 M = some o) (hP : ∀ s', o = .inl s' → (fun (x2, M) => Rc X d 216 17 [some (.ref (77)), some (.int (x1)), some (.int (x2)), none, none] [] M v M') s') (hE : ∀ r, o = .inr r → (fun r => match r with | .inl (x2, M) => Rc X d 216 119 [some (.ref (77)), none, none, none, none] [] M v M' | .inr q => v = some (.int q.1) ∧ M' = q.2) r) : Rc X d 216 54 [some (.ref (77)), some (.int (x1)), some (.int (x2)), some (.int (x3)), none] [] M v M' := by
  obtain ⟨d, rfl⟩ : ∃ e, d = e + 1 := ⟨d - 1, by omega⟩
  unfold J_216_54_17 at h
  dsimp only at hP hE
  refine Rc.run tb_216 2 (pc' := 57) (ls' := [some (.ref (77)), some (.int (x1)), some (.int (x2)), some (.int (x3)), some (.int (0))]) (st' := []) rfl rfl ?_
  refine Rc.mask (b := 31) ((tb_216.2 57).trans rfl) (ls' := [some (.ref (77)), some (.int (x1)), some (.int (x2)), some (.int (x3)), some (.int (0))]) rfl ?_
  cases hl14 : L_216_57 x1 x2 M x3 0 with
  | none => rw [hl14] at h; cases h
  | some r14 =>
    obtain ⟨x3_14, x4_14⟩ := r14
    rw [hl14] at h
    dsimp only at h
    refine TL_216_57 (X := X) (d := d + 1) (by omega) hx3 hl14 ?_
    intro hz_x3_14
    refine Rc.mask (b := 15) ((tb_216.2 107).trans rfl) (ls' := [some (.ref (77)), some (.int (x1)), some (.int (x2)), some (.int (x3_14)), none]) rfl ?_
    exact TJ_216_107_17 (X := X) (d := d + 1) (by omega) hz_x3_14 h hP hE
theorem TB_216_17 {X : AX} {d : Nat} (hd : 4 ≤ d) {x1 : Int32} {v : Option Value} {M' : IM} : ∀ (s : Int32 × IM) (o : (Int32 × IM) ⊕ ((Int32 × IM) ⊕ (Int32 × IM))), B_216_17 x1 s = some o → (∀ s', o = .inl s' → (fun (x2, M) => Rc X d 216 17 [some (.ref (77)), some (.int (x1)), some (.int (x2)), none, none] [] M v M') s') → (∀ r, o = .inr r → (fun r => match r with | .inl (x2, M) => Rc X d 216 119 [some (.ref (77)), none, none, none, none] [] M v M' | .inr q => v = some (.int q.1) ∧ M' = q.2) r) → (fun (x2, M) => Rc X d 216 17 [some (.ref (77)), some (.int (x1)), some (.int (x2)), none, none] [] M v M') s := by
  rintro ⟨x2, M⟩ o h hP hE
  show Rc X d 216 17 [some (.ref (77)), some (.int (x1)), some (.int (x2)), none, none] [] M v M'
  obtain ⟨d, rfl⟩ : ∃ e, d = e + 1 := ⟨d - 1, by omega⟩
  unfold B_216_17 at h
  dsimp only at h hP hE
  refine Rc.run tb_216 2 (pc' := 20) (ls' := [some (.ref (77)), some (.int (x1)), some (.int (x2)), none, none]) (st' := [.int (12), .int (x2)]) rfl rfl ?_
  refine Rc.icmp_ge (pc1 := 119) tb_216 rfl rfl (by decide) (by decide) (fun hb16 => ?_) (fun hb16 => ?_)
  · rw [if_pos hb16] at h
    refine Rc.mask (b := 1) ((tb_216.2 119).trans rfl) (ls' := [some (.ref (77)), none, none, none, none]) rfl ?_
    obtain rfl := Option.some.inj h
    exact hE _ rfl
  · rw [if_neg hb16] at h
    refine Rc.run tb_216 4 (pc' := 28) (ls' := [some (.ref (77)), some (.int (x1)), some (.int (x2)), some (.int (1)), some (.int (0))]) (st' := []) rfl rfl ?_
    refine Rc.mask (b := 31) ((tb_216.2 28).trans rfl) (ls' := [some (.ref (77)), some (.int (x1)), some (.int (x2)), some (.int (1)), some (.int (0))]) rfl ?_
    cases hl6 : L_216_28 x1 x2 1 0 M with
    | none => rw [hl6] at h; cases h
    | some r6 =>
      obtain ⟨x4_6, M6⟩ := r6
      rw [hl6] at h
      dsimp only at h
      refine TL_216_28 (X := X) (d := d + 1) (by omega) (Or.inr rfl) hl6 ?_
      refine Rc.mask (b := 15) ((tb_216.2 54).trans rfl) (ls' := [some (.ref (77)), some (.int (x1)), some (.int (x2)), some (.int (1)), none]) rfl ?_
      exact TJ_216_54_17 (X := X) (d := d + 1) (by omega) (Or.inr rfl) h hP hE
theorem TL_216_17 {X : AX} {d : Nat} (hd : 4 ≤ d) {x1 : Int32} {x2 : Int32} {M : IM} {v : Option Value} {M' : IM} {r : (Int32 × IM) ⊕ (Int32 × IM)} (h : L_216_17 x1 x2 M = some r) (hE : (fun r => match r with | .inl (x2, M) => Rc X d 216 119 [some (.ref (77)), none, none, none, none] [] M v M' | .inr q => v = some (.int q.1) ∧ M' = q.2) r) : Rc X d 216 17 [some (.ref (77)), some (.int (x1)), some (.int (x2)), none, none] [] M v M' := by
  exact loopN_rc (P := fun (x2, M) => Rc X d 216 17 [some (.ref (77)), some (.int (x1)), some (.int (x2)), none, none] [] M v M') (E := fun r => match r with | .inl (x2, M) => Rc X d 216 119 [some (.ref (77)), none, none, none, none] [] M v M' | .inr q => v = some (.int q.1) ∧ M' = q.2) (TB_216_17 (X := X) hd) FU _ r h hE
theorem TJ_216_119 {X : AX} {d : Nat} (hd : 4 ≤ d) {M : IM} {v : Option Value} {M' : IM} {o : Int32 × IM} (h : J_216_119 M = some o) (hC : v = some (.int o.1) ∧ M' = o.2) : Rc X d 216 119 [some (.ref (77)), none, none, none, none] [] M v M' := by
  obtain ⟨d, rfl⟩ : ∃ e, d = e + 1 := ⟨d - 1, by omega⟩
  unfold J_216_119 at h
  refine Rc.run tb_216 2 (pc' := 122) (ls' := [some (.ref (77)), none, none, none, none]) (st' := [.int ((-1000002)), .ref (77)]) rfl rfl ?_
  cases hc18 : F_156 ((-1000002) : Int32) M with
  | none => rw [hc18] at h; cases h
  | some r18 =>
    obtain ⟨c18, M18⟩ := r18
    rw [hc18] at h
    dsimp only at h
    have hq18 := T_156 (X := X) (d := d) (by omega) (M := M) hc18
    refine Rc.callV tb_216 rfl rfl rfl mS_156 mP_156 mL_156 mO_156 rfl rfl ob_77 rfl rfl hq18 ?_
    obtain rfl := Option.some.inj h
    obtain ⟨rfl, rfl⟩ := hC
    exact Rc.iret (ins := .ireturn) tb_216 rfl mR_216
theorem TF_216 {X : AX} {d : Nat} (hd : 4 ≤ d) {a1 : Int32} {M : IM} {v : Option Value} {M' : IM} {o : Int32 × IM} (h : F_216 a1 M = some o) (hC : v = some (.int o.1) ∧ M' = o.2) : Rc X d 216 0 [some (.ref (77)), some (.int (a1)), none, none, none] [] M v M' := by
  obtain ⟨d, rfl⟩ : ∃ e, d = e + 1 := ⟨d - 1, by omega⟩
  unfold F_216 at h
  refine Rc.run tb_216 2 (pc' := 2) (ls' := [some (.ref (77)), some (.int (a1)), none, none, none]) (st' := [.int (a1), .ref (77)]) rfl rfl ?_
  have hq1 := T_161 (X := X) (d := d) (by omega) a1 M
  have hz1 := Rc.bool mR_161 hq1
  refine Rc.callV tb_216 rfl rfl rfl mS_161 mP_161 mL_161 mO_161 rfl rfl ob_77 rfl rfl hq1 ?_
  refine Rc.if_ne (pc1 := 15) tb_216 rfl rfl (by decide) (by decide) (fun hb19 => ?_) (fun hb19 => ?_)
  · rw [if_pos hb19] at h
    refine Rc.run tb_216 2 (pc' := 11) (ls' := [some (.ref (77)), some (.int (a1)), none, none, none]) (st' := [.int ((-1000001)), .ref (77)]) rfl rfl ?_
    cases hc2 : F_156 ((-1000001) : Int32) M with
    | none => rw [hc2] at h; cases h
    | some r2 =>
      obtain ⟨c2, M2⟩ := r2
      rw [hc2] at h
      dsimp only at h
      have hq2 := T_156 (X := X) (d := d) (by omega) (M := M) hc2
      refine Rc.callV tb_216 rfl rfl rfl mS_156 mP_156 mL_156 mO_156 rfl rfl ob_77 rfl rfl hq2 ?_
      obtain rfl := Option.some.inj h
      obtain ⟨rfl, rfl⟩ := hC
      exact Rc.iret (ins := .ireturn) tb_216 rfl mR_216
  · rw [if_neg hb19] at h
    refine Rc.run tb_216 2 (pc' := 17) (ls' := [some (.ref (77)), some (.int (a1)), some (.int (0)), none, none]) (st' := []) rfl rfl ?_
    refine Rc.mask (b := 7) ((tb_216.2 17).trans rfl) (ls' := [some (.ref (77)), some (.int (a1)), some (.int (0)), none, none]) rfl ?_
    cases hl17 : L_216_17 a1 0 M with
    | none => rw [hl17] at h; cases h
    | some rr17 =>
      rw [hl17] at h
      cases rr17 with
      | inl r17 =>
        obtain ⟨x2_17, M17⟩ := r17
        dsimp only at h
        refine TL_216_17 (X := X) (d := d + 1) (by omega) hl17 ?_
        refine Rc.mask (b := 1) ((tb_216.2 119).trans rfl) (ls' := [some (.ref (77)), none, none, none, none]) rfl ?_
        exact TJ_216_119 (X := X) (d := d + 1) (by omega) h hC
      | inr q =>
        dsimp only at h
        refine TL_216_17 (X := X) (d := d + 1) (by omega) hl17 ?_
        obtain rfl := Option.some.inj h
        obtain ⟨rfl, rfl⟩ := hC
        exact ⟨rfl, rfl⟩
theorem T_216 {X : AX} {d : Nat} (hd : 4 ≤ d) {a1 : Int32} {M : IM} {x : Int32} {M1 : IM} (h : F_216 a1 M = some (x, M1)) : Rc X d 216 0 [some (.ref (77)), some (.int (a1)), none, none, none] [] M (some (.int x)) M1 := TF_216 hd h ⟨rfl, rfl⟩
/-! 217: NineDemandsModel.goesOn -/
def J_217_109_50 (x1 : Int32) (x2 : Int32) (x3 : Int32) (x4 : Int32) (x6 : Int32) (x7 : Int32) (s0 : Int32) (M : IM) : Option ((Int32 × Int32) ⊕ (Int32 × Int32)) := some (Sum.inl (s0, x7 + 1))
def J_217_108_50 (x1 : Int32) (x2 : Int32) (x3 : Int32) (x4 : Int32) (x6 : Int32) (x7 : Int32) (M : IM) : Option ((Int32 × Int32) ⊕ (Int32 × Int32)) := J_217_109_50 x1 x2 x3 x4 x6 x7 (0 : Int32) M
def J_217_104_50 (x1 : Int32) (x2 : Int32) (x3 : Int32) (x4 : Int32) (x6 : Int32) (x7 : Int32) (M : IM) : Option ((Int32 × Int32) ⊕ (Int32 × Int32)) := J_217_109_50 x1 x2 x3 x4 x6 x7 (1 : Int32) M
def B_217_50 (x1 : Int32) (x2 : Int32) (x3 : Int32) (x4 : Int32) (x6 : Int32) (M : IM) : (Int32 × Int32) → Option ((Int32 × Int32) ⊕ (Int32 × Int32)) := fun (x5, x7) => if (3 : Int32) < x7 then (some (Sum.inr (x5, x7))) else (if x5 = 0 then (if F_162 x6 x7 = 0 then (J_217_108_50 x1 x2 x3 x4 x6 x7 M) else (if x3 = 0 then (match F_198 x1 x2 x4 x7 M with | none => none | some c5 => (if c5 = 0 then (J_217_108_50 x1 x2 x3 x4 x6 x7 M) else (J_217_104_50 x1 x2 x3 x4 x6 x7 M))) else (match F_198 x1 x2 x7 x4 M with | none => none | some c7 => (if c7 = 0 then (J_217_108_50 x1 x2 x3 x4 x6 x7 M) else (J_217_104_50 x1 x2 x3 x4 x6 x7 M))))) else (J_217_104_50 x1 x2 x3 x4 x6 x7 M))
def L_217_50 (x1 : Int32) (x2 : Int32) (x3 : Int32) (x4 : Int32) (x6 : Int32) (M : IM) (x5 : Int32) (x7 : Int32) : Option (Int32 × Int32) := loopN (B_217_50 x1 x2 x3 x4 x6 M) FU (x5, x7)
def J_217_44 (x1 : Int32) (x2 : Int32) (x3 : Int32) (x4 : Int32) (x5 : Int32) (s0 : Int32) (M : IM) : Option (Int32) := if inb s0 12 = true then (match L_217_50 x1 x2 x3 x4 (M 91 s0.toNatClampNeg) M x5 1 with | none => none | some (x5_13, x7_13) => (some (x5_13))) else none
def F_217 (a1 : Int32) (a2 : Int32) (a3 : Int32) (a4 : Int32) (M : IM) : Option (Int32) := (match F_165 a1 M with | none => none | some c1 => (if c1 = 0 then (match F_198 a1 a2 a4 (0 : Int32) M with | none => none | some c2 => (some (c2))) else (if a3 = 0 then (match F_196 a1 a2 M with | none => none | some c3 => (J_217_44 a1 a2 a3 a4 (0 : Int32) c3 M)) else (match F_195 a1 a2 M with | none => none | some c15 => (J_217_44 a1 a2 a3 a4 (0 : Int32) c15 M)))))
theorem TJ_217_109_50 {X : AX} {d : Nat} (hd : 3 ≤ d) {x1 : Int32} {x2 : Int32} {x3 : Int32} {x4 : Int32} {x6 : Int32} {x7 : Int32} {s0 : Int32} {M : IM} (hs0 : s0 = 0 ∨ s0 = 1) {v : Option Value} {M' : IM} {o : (Int32 × Int32) ⊕ (Int32 × Int32)} (h : J_217_109_50 x1 x2 x3 x4 x6 x7 s0 M = some o) (hP : ∀ s', o = .inl s' → (fun (x5, x7) => (x5 = 0 ∨ x5 = 1) → Rc X d 217 50 [some (.ref (77)), some (.int (x1)), some (.int (x2)), some (.int (x3)), some (.int (x4)), some (.int (x5)), some (.int (x6)), some (.int (x7))] [] M v M') s') (hE : ∀ r, o = .inr r → (fun (x5, x7) => (x5 = 0 ∨ x5 = 1) → Rc X d 217 117 [none, none, none, none, none, some (.int (x5)), none, none] [] M v M') r) : Rc X d 217 109 [some (.ref (77)), some (.int (x1)), some (.int (x2)), some (.int (x3)), some (.int (x4)), none, some (.int (x6)), some (.int (x7))] [.int (s0)] M v M' := by
  obtain ⟨d, rfl⟩ : ∃ e, d = e + 1 := ⟨d - 1, by omega⟩
  unfold J_217_109_50 at h
  dsimp only at hP hE
  refine Rc.run tb_217 3 (pc' := 50) (ls' := [some (.ref (77)), some (.int (x1)), some (.int (x2)), some (.int (x3)), some (.int (x4)), some (.int (s0)), some (.int (x6)), some (.int (x7 + 1))]) (st' := []) rfl rfl ?_
  refine Rc.mask (b := 255) ((tb_217.2 50).trans rfl) (ls' := [some (.ref (77)), some (.int (x1)), some (.int (x2)), some (.int (x3)), some (.int (x4)), some (.int (s0)), some (.int (x6)), some (.int (x7 + 1))]) rfl ?_
  obtain rfl := Option.some.inj h
  exact hP _ rfl hs0
theorem TJ_217_108_50 {X : AX} {d : Nat} (hd : 3 ≤ d) {x1 : Int32} {x2 : Int32} {x3 : Int32} {x4 : Int32} {x6 : Int32} {x7 : Int32} {M : IM} {v : Option Value} {M' : IM} {o : (Int32 × Int32) ⊕ (Int32 × Int32)} (h : J_217_108_50 x1 x2 x3 x4 x6 x7 M = some o) (hP : ∀ s', o = .inl s' → (fun (x5, x7) => (x5 = 0 ∨ x5 = 1) → Rc X d 217 50 [some (.ref (77)), some (.int (x1)), some (.int (x2)), some (.int (x3)), some (.int (x4)), some (.int (x5)), some (.int (x6)), some (.int (x7))] [] M v M') s') (hE : ∀ r, o = .inr r → (fun (x5, x7) => (x5 = 0 ∨ x5 = 1) → Rc X d 217 117 [none, none, none, none, none, some (.int (x5)), none, none] [] M v M') r) : Rc X d 217 108 [some (.ref (77)), some (.int (x1)), some (.int (x2)), some (.int (x3)), some (.int (x4)), none, some (.int (x6)), some (.int (x7))] [] M v M' := by
  obtain ⟨d, rfl⟩ : ∃ e, d = e + 1 := ⟨d - 1, by omega⟩
  unfold J_217_108_50 at h
  dsimp only at hP hE
  refine Rc.run tb_217 1 (pc' := 109) (ls' := [some (.ref (77)), some (.int (x1)), some (.int (x2)), some (.int (x3)), some (.int (x4)), none, some (.int (x6)), some (.int (x7))]) (st' := [.int (0)]) rfl rfl ?_
  refine Rc.mask (b := 223) ((tb_217.2 109).trans rfl) (ls' := [some (.ref (77)), some (.int (x1)), some (.int (x2)), some (.int (x3)), some (.int (x4)), none, some (.int (x6)), some (.int (x7))]) rfl ?_
  exact TJ_217_109_50 (X := X) (d := d + 1) (by omega) (Or.inl rfl) h hP hE
theorem TJ_217_104_50 {X : AX} {d : Nat} (hd : 3 ≤ d) {x1 : Int32} {x2 : Int32} {x3 : Int32} {x4 : Int32} {x6 : Int32} {x7 : Int32} {M : IM} {v : Option Value} {M' : IM} {o : (Int32 × Int32) ⊕ (Int32 × Int32)} (h : J_217_104_50 x1 x2 x3 x4 x6 x7 M = some o) (hP : ∀ s', o = .inl s' → (fun (x5, x7) => (x5 = 0 ∨ x5 = 1) → Rc X d 217 50 [some (.ref (77)), some (.int (x1)), some (.int (x2)), some (.int (x3)), some (.int (x4)), some (.int (x5)), some (.int (x6)), some (.int (x7))] [] M v M') s') (hE : ∀ r, o = .inr r → (fun (x5, x7) => (x5 = 0 ∨ x5 = 1) → Rc X d 217 117 [none, none, none, none, none, some (.int (x5)), none, none] [] M v M') r) : Rc X d 217 104 [some (.ref (77)), some (.int (x1)), some (.int (x2)), some (.int (x3)), some (.int (x4)), none, some (.int (x6)), some (.int (x7))] [] M v M' := by
  obtain ⟨d, rfl⟩ : ∃ e, d = e + 1 := ⟨d - 1, by omega⟩
  unfold J_217_104_50 at h
  dsimp only at hP hE
  refine Rc.run tb_217 2 (pc' := 109) (ls' := [some (.ref (77)), some (.int (x1)), some (.int (x2)), some (.int (x3)), some (.int (x4)), none, some (.int (x6)), some (.int (x7))]) (st' := [.int (1)]) rfl rfl ?_
  refine Rc.mask (b := 223) ((tb_217.2 109).trans rfl) (ls' := [some (.ref (77)), some (.int (x1)), some (.int (x2)), some (.int (x3)), some (.int (x4)), none, some (.int (x6)), some (.int (x7))]) rfl ?_
  exact TJ_217_109_50 (X := X) (d := d + 1) (by omega) (Or.inr rfl) h hP hE
theorem TB_217_50 {X : AX} {d : Nat} (hd : 3 ≤ d) {x1 : Int32} {x2 : Int32} {x3 : Int32} {x4 : Int32} {x6 : Int32} {M : IM} {v : Option Value} {M' : IM} : ∀ (s : Int32 × Int32) (o : (Int32 × Int32) ⊕ (Int32 × Int32)), B_217_50 x1 x2 x3 x4 x6 M s = some o → (∀ s', o = .inl s' → (fun (x5, x7) => (x5 = 0 ∨ x5 = 1) → Rc X d 217 50 [some (.ref (77)), some (.int (x1)), some (.int (x2)), some (.int (x3)), some (.int (x4)), some (.int (x5)), some (.int (x6)), some (.int (x7))] [] M v M') s') → (∀ r, o = .inr r → (fun (x5, x7) => (x5 = 0 ∨ x5 = 1) → Rc X d 217 117 [none, none, none, none, none, some (.int (x5)), none, none] [] M v M') r) → (fun (x5, x7) => (x5 = 0 ∨ x5 = 1) → Rc X d 217 50 [some (.ref (77)), some (.int (x1)), some (.int (x2)), some (.int (x3)), some (.int (x4)), some (.int (x5)), some (.int (x6)), some (.int (x7))] [] M v M') s := by
  rintro ⟨x5, x7⟩ o h hP hE
  intro hx5
  show Rc X d 217 50 [some (.ref (77)), some (.int (x1)), some (.int (x2)), some (.int (x3)), some (.int (x4)), some (.int (x5)), some (.int (x6)), some (.int (x7))] [] M v M'
  obtain ⟨d, rfl⟩ : ∃ e, d = e + 1 := ⟨d - 1, by omega⟩
  unfold B_217_50 at h
  dsimp only at h hP hE
  refine Rc.run tb_217 2 (pc' := 53) (ls' := [some (.ref (77)), some (.int (x1)), some (.int (x2)), some (.int (x3)), some (.int (x4)), some (.int (x5)), some (.int (x6)), some (.int (x7))]) (st' := [.int (3), .int (x7)]) rfl rfl ?_
  refine Rc.icmp_gt (pc1 := 117) tb_217 rfl rfl (by decide) (by decide) (fun hb12 => ?_) (fun hb12 => ?_)
  · rw [if_pos hb12] at h
    refine Rc.mask (b := 32) ((tb_217.2 117).trans rfl) (ls' := [none, none, none, none, none, some (.int (x5)), none, none]) rfl ?_
    obtain rfl := Option.some.inj h
    exact hE _ rfl hx5
  · rw [if_neg hb12] at h
    refine Rc.run tb_217 1 (pc' := 58) (ls' := [some (.ref (77)), some (.int (x1)), some (.int (x2)), some (.int (x3)), some (.int (x4)), some (.int (x5)), some (.int (x6)), some (.int (x7))]) (st' := [.int (x5)]) rfl rfl ?_
    refine Rc.if_ne (pc1 := 104) tb_217 rfl rfl (by decide) (by decide) (fun hb11 => ?_) (fun hb11 => ?_)
    · rw [if_pos hb11] at h
      refine Rc.run tb_217 2 (pc' := 65) (ls' := [some (.ref (77)), some (.int (x1)), some (.int (x2)), some (.int (x3)), some (.int (x4)), some (.int (x5)), some (.int (x6)), some (.int (x7))]) (st' := [.int (x7), .int (x6)]) rfl rfl ?_
      have hq4 := T_162 (X := X) (d := d) (by omega) x6 x7 M
      have hz4 := Rc.bool mR_162 hq4
      refine Rc.callS tb_217 rfl rfl rfl mS_162 mP_162 mL_162 rfl rfl rfl hq4 ?_
      refine Rc.if_eq (pc1 := 108) tb_217 rfl rfl (by decide) (by decide) (fun hb10 => ?_) (fun hb10 => ?_)
      · rw [if_pos hb10] at h
        refine Rc.mask (b := 223) ((tb_217.2 108).trans rfl) (ls' := [some (.ref (77)), some (.int (x1)), some (.int (x2)), some (.int (x3)), some (.int (x4)), none, some (.int (x6)), some (.int (x7))]) rfl ?_
        exact TJ_217_108_50 (X := X) (d := d + 1) (by omega) h hP hE
      · rw [if_neg hb10] at h
        refine Rc.run tb_217 1 (pc' := 72) (ls' := [some (.ref (77)), some (.int (x1)), some (.int (x2)), some (.int (x3)), some (.int (x4)), some (.int (x5)), some (.int (x6)), some (.int (x7))]) (st' := [.int (x3)]) rfl rfl ?_
        refine Rc.if_eq (pc1 := 91) tb_217 rfl rfl (by decide) (by decide) (fun hb9 => ?_) (fun hb9 => ?_)
        · rw [if_pos hb9] at h
          refine Rc.run tb_217 5 (pc' := 98) (ls' := [some (.ref (77)), some (.int (x1)), some (.int (x2)), some (.int (x3)), some (.int (x4)), some (.int (x5)), some (.int (x6)), some (.int (x7))]) (st' := [.int (x7), .int (x4), .int (x2), .int (x1), .ref (77)]) rfl rfl ?_
          cases hc5 : F_198 x1 x2 x4 x7 M with
          | none => rw [hc5] at h; cases h
          | some c5 =>
            rw [hc5] at h
            dsimp only at h
            have hq5 := T_198 (X := X) (d := d) (by omega) (M := M) hc5
            have hz5 := Rc.bool mR_198 hq5
            refine Rc.callV tb_217 rfl rfl rfl mS_198 mP_198 mL_198 mO_198 rfl rfl ob_77 rfl rfl hq5 ?_
            refine Rc.if_eq (pc1 := 108) tb_217 rfl rfl (by decide) (by decide) (fun hb6 => ?_) (fun hb6 => ?_)
            · rw [if_pos hb6] at h
              refine Rc.mask (b := 223) ((tb_217.2 108).trans rfl) (ls' := [some (.ref (77)), some (.int (x1)), some (.int (x2)), some (.int (x3)), some (.int (x4)), none, some (.int (x6)), some (.int (x7))]) rfl ?_
              exact TJ_217_108_50 (X := X) (d := d + 1) (by omega) h hP hE
            · rw [if_neg hb6] at h
              refine Rc.mask (b := 223) ((tb_217.2 104).trans rfl) (ls' := [some (.ref (77)), some (.int (x1)), some (.int (x2)), some (.int (x3)), some (.int (x4)), none, some (.int (x6)), some (.int (x7))]) rfl ?_
              exact TJ_217_104_50 (X := X) (d := d + 1) (by omega) h hP hE
        · rw [if_neg hb9] at h
          refine Rc.run tb_217 5 (pc' := 82) (ls' := [some (.ref (77)), some (.int (x1)), some (.int (x2)), some (.int (x3)), some (.int (x4)), some (.int (x5)), some (.int (x6)), some (.int (x7))]) (st' := [.int (x4), .int (x7), .int (x2), .int (x1), .ref (77)]) rfl rfl ?_
          cases hc7 : F_198 x1 x2 x7 x4 M with
          | none => rw [hc7] at h; cases h
          | some c7 =>
            rw [hc7] at h
            dsimp only at h
            have hq7 := T_198 (X := X) (d := d) (by omega) (M := M) hc7
            have hz7 := Rc.bool mR_198 hq7
            refine Rc.callV tb_217 rfl rfl rfl mS_198 mP_198 mL_198 mO_198 rfl rfl ob_77 rfl rfl hq7 ?_
            refine Rc.if_eq (pc1 := 108) tb_217 rfl rfl (by decide) (by decide) (fun hb8 => ?_) (fun hb8 => ?_)
            · rw [if_pos hb8] at h
              refine Rc.mask (b := 223) ((tb_217.2 108).trans rfl) (ls' := [some (.ref (77)), some (.int (x1)), some (.int (x2)), some (.int (x3)), some (.int (x4)), none, some (.int (x6)), some (.int (x7))]) rfl ?_
              exact TJ_217_108_50 (X := X) (d := d + 1) (by omega) h hP hE
            · rw [if_neg hb8] at h
              refine Rc.run tb_217 1 (pc' := 104) (ls' := [some (.ref (77)), some (.int (x1)), some (.int (x2)), some (.int (x3)), some (.int (x4)), some (.int (x5)), some (.int (x6)), some (.int (x7))]) (st' := []) rfl rfl ?_
              refine Rc.mask (b := 223) ((tb_217.2 104).trans rfl) (ls' := [some (.ref (77)), some (.int (x1)), some (.int (x2)), some (.int (x3)), some (.int (x4)), none, some (.int (x6)), some (.int (x7))]) rfl ?_
              exact TJ_217_104_50 (X := X) (d := d + 1) (by omega) h hP hE
    · rw [if_neg hb11] at h
      refine Rc.mask (b := 223) ((tb_217.2 104).trans rfl) (ls' := [some (.ref (77)), some (.int (x1)), some (.int (x2)), some (.int (x3)), some (.int (x4)), none, some (.int (x6)), some (.int (x7))]) rfl ?_
      exact TJ_217_104_50 (X := X) (d := d + 1) (by omega) h hP hE
theorem TL_217_50 {X : AX} {d : Nat} (hd : 3 ≤ d) {x1 : Int32} {x2 : Int32} {x3 : Int32} {x4 : Int32} {x6 : Int32} {M : IM} {x5 : Int32} {x7 : Int32} (hx5 : x5 = 0 ∨ x5 = 1) {v : Option Value} {M' : IM} {r : Int32 × Int32} (h : L_217_50 x1 x2 x3 x4 x6 M x5 x7 = some r) (hE : (fun (x5, x7) => (x5 = 0 ∨ x5 = 1) → Rc X d 217 117 [none, none, none, none, none, some (.int (x5)), none, none] [] M v M') r) : Rc X d 217 50 [some (.ref (77)), some (.int (x1)), some (.int (x2)), some (.int (x3)), some (.int (x4)), some (.int (x5)), some (.int (x6)), some (.int (x7))] [] M v M' := by
  exact loopN_rc (P := fun (x5, x7) => (x5 = 0 ∨ x5 = 1) → Rc X d 217 50 [some (.ref (77)), some (.int (x1)), some (.int (x2)), some (.int (x3)), some (.int (x4)), some (.int (x5)), some (.int (x6)), some (.int (x7))] [] M v M') (E := fun (x5, x7) => (x5 = 0 ∨ x5 = 1) → Rc X d 217 117 [none, none, none, none, none, some (.int (x5)), none, none] [] M v M') (TB_217_50 (X := X) hd) FU _ r h hE hx5
theorem TJ_217_44 {X : AX} {d : Nat} (hd : 3 ≤ d) {x1 : Int32} {x2 : Int32} {x3 : Int32} {x4 : Int32} {x5 : Int32} {s0 : Int32} {M : IM} (hx5 : x5 = 0 ∨ x5 = 1) {v : Option Value} {M' : IM} {o : Int32} (h : J_217_44 x1 x2 x3 x4 x5 s0 M = some o) (hC : v = some (.int o) ∧ M' = M) : Rc X d 217 44 [some (.ref (77)), some (.int (x1)), some (.int (x2)), some (.int (x3)), some (.int (x4)), some (.int (x5)), none, none] [.int (s0), .ref (91)] M v M' := by
  obtain ⟨d, rfl⟩ : ∃ e, d = e + 1 := ⟨d - 1, by omega⟩
  unfold J_217_44 at h
  by_cases hb14 : inb s0 12 = true
  · rw [if_pos hb14] at h
    refine Rc.iald tb_217 rfl rfl ia_91 hb14 ?_
    refine Rc.run tb_217 3 (pc' := 50) (ls' := [some (.ref (77)), some (.int (x1)), some (.int (x2)), some (.int (x3)), some (.int (x4)), some (.int (x5)), some (.int (M 91 s0.toNatClampNeg)), some (.int (1))]) (st' := []) rfl rfl ?_
    refine Rc.mask (b := 255) ((tb_217.2 50).trans rfl) (ls' := [some (.ref (77)), some (.int (x1)), some (.int (x2)), some (.int (x3)), some (.int (x4)), some (.int (x5)), some (.int (M 91 s0.toNatClampNeg)), some (.int (1))]) rfl ?_
    cases hl13 : L_217_50 x1 x2 x3 x4 (M 91 s0.toNatClampNeg) M x5 1 with
    | none => rw [hl13] at h; cases h
    | some r13 =>
      obtain ⟨x5_13, x7_13⟩ := r13
      rw [hl13] at h
      dsimp only at h
      refine TL_217_50 (X := X) (d := d + 1) (by omega) hx5 hl13 ?_
      intro hz_x5_13
      refine Rc.run tb_217 1 (pc' := 119) (ls' := [none, none, none, none, none, some (.int (x5_13)), none, none]) (st' := [.int (x5_13)]) rfl rfl ?_
      obtain rfl := Option.some.inj h
      obtain ⟨rfl, rfl⟩ := hC
      exact Rc.zret tb_217 rfl mR_217 hz_x5_13
  · rw [if_neg hb14] at h
    cases h
theorem TF_217 {X : AX} {d : Nat} (hd : 3 ≤ d) {a1 : Int32} {a2 : Int32} {a3 : Int32} {a4 : Int32} {M : IM} {v : Option Value} {M' : IM} {o : Int32} (h : F_217 a1 a2 a3 a4 M = some o) (hC : v = some (.int o) ∧ M' = M) : Rc X d 217 0 [some (.ref (77)), some (.int (a1)), some (.int (a2)), some (.int (a3)), some (.int (a4)), none, none, none] [] M v M' := by
  obtain ⟨d, rfl⟩ : ∃ e, d = e + 1 := ⟨d - 1, by omega⟩
  unfold F_217 at h
  refine Rc.run tb_217 2 (pc' := 2) (ls' := [some (.ref (77)), some (.int (a1)), some (.int (a2)), some (.int (a3)), some (.int (a4)), none, none, none]) (st' := [.int (a1), .ref (77)]) rfl rfl ?_
  cases hc1 : F_165 a1 M with
  | none => rw [hc1] at h; cases h
  | some c1 =>
    rw [hc1] at h
    dsimp only at h
    have hq1 := T_165 (X := X) (d := d) (by omega) (M := M) hc1
    have hz1 := Rc.bool mR_165 hq1
    refine Rc.callV tb_217 rfl rfl rfl mS_165 mP_165 mL_165 mO_165 rfl rfl ob_77 rfl rfl hq1 ?_
    refine Rc.if_ne (pc1 := 18) tb_217 rfl rfl (by decide) (by decide) (fun hb17 => ?_) (fun hb17 => ?_)
    · rw [if_pos hb17] at h
      refine Rc.run tb_217 5 (pc' := 14) (ls' := [some (.ref (77)), some (.int (a1)), some (.int (a2)), some (.int (a3)), some (.int (a4)), none, none, none]) (st' := [.int (0), .int (a4), .int (a2), .int (a1), .ref (77)]) rfl rfl ?_
      cases hc2 : F_198 a1 a2 a4 (0 : Int32) M with
      | none => rw [hc2] at h; cases h
      | some c2 =>
        rw [hc2] at h
        dsimp only at h
        have hq2 := T_198 (X := X) (d := d) (by omega) (M := M) hc2
        have hz2 := Rc.bool mR_198 hq2
        refine Rc.callV tb_217 rfl rfl rfl mS_198 mP_198 mL_198 mO_198 rfl rfl ob_77 rfl rfl hq2 ?_
        obtain rfl := Option.some.inj h
        obtain ⟨rfl, rfl⟩ := hC
        exact Rc.zret tb_217 rfl mR_217 hz2
    · rw [if_neg hb17] at h
      refine Rc.run tb_217 3 (pc' := 22) (ls' := [some (.ref (77)), some (.int (a1)), some (.int (a2)), some (.int (a3)), some (.int (a4)), some (.int (0)), none, none]) (st' := [.ref (77)]) rfl rfl ?_
      refine Rc.getR tb_217 rfl rfl ob_77 (by decide +kernel) tg_77_23 (by decide) ?_
      refine Rc.run tb_217 1 (pc' := 26) (ls' := [some (.ref (77)), some (.int (a1)), some (.int (a2)), some (.int (a3)), some (.int (a4)), some (.int (0)), none, none]) (st' := [.int (a3), .ref (91)]) rfl rfl ?_
      refine Rc.if_eq (pc1 := 38) tb_217 rfl rfl (by decide) (by decide) (fun hb16 => ?_) (fun hb16 => ?_)
      · rw [if_pos hb16] at h
        refine Rc.run tb_217 3 (pc' := 41) (ls' := [some (.ref (77)), some (.int (a1)), some (.int (a2)), some (.int (a3)), some (.int (a4)), some (.int (0)), none, none]) (st' := [.int (a2), .int (a1), .ref (77), .ref (91)]) rfl rfl ?_
        cases hc3 : F_196 a1 a2 M with
        | none => rw [hc3] at h; cases h
        | some c3 =>
          rw [hc3] at h
          dsimp only at h
          have hq3 := T_196 (X := X) (d := d) (by omega) (M := M) hc3
          refine Rc.callV tb_217 rfl rfl rfl mS_196 mP_196 mL_196 mO_196 rfl rfl ob_77 rfl rfl hq3 ?_
          refine Rc.mask (b := 63) ((tb_217.2 44).trans rfl) (ls' := [some (.ref (77)), some (.int (a1)), some (.int (a2)), some (.int (a3)), some (.int (a4)), some (.int (0)), none, none]) rfl ?_
          exact TJ_217_44 (X := X) (d := d + 1) (by omega) (Or.inl rfl) h hC
      · rw [if_neg hb16] at h
        refine Rc.run tb_217 3 (pc' := 32) (ls' := [some (.ref (77)), some (.int (a1)), some (.int (a2)), some (.int (a3)), some (.int (a4)), some (.int (0)), none, none]) (st' := [.int (a2), .int (a1), .ref (77), .ref (91)]) rfl rfl ?_
        cases hc15 : F_195 a1 a2 M with
        | none => rw [hc15] at h; cases h
        | some c15 =>
          rw [hc15] at h
          dsimp only at h
          have hq15 := T_195 (X := X) (d := d) (by omega) (M := M) hc15
          refine Rc.callV tb_217 rfl rfl rfl mS_195 mP_195 mL_195 mO_195 rfl rfl ob_77 rfl rfl hq15 ?_
          refine Rc.run tb_217 1 (pc' := 44) (ls' := [some (.ref (77)), some (.int (a1)), some (.int (a2)), some (.int (a3)), some (.int (a4)), some (.int (0)), none, none]) (st' := [.int (c15), .ref (91)]) rfl rfl ?_
          refine Rc.mask (b := 63) ((tb_217.2 44).trans rfl) (ls' := [some (.ref (77)), some (.int (a1)), some (.int (a2)), some (.int (a3)), some (.int (a4)), some (.int (0)), none, none]) rfl ?_
          exact TJ_217_44 (X := X) (d := d + 1) (by omega) (Or.inl rfl) h hC
theorem T_217 {X : AX} {d : Nat} (hd : 3 ≤ d) {a1 : Int32} {a2 : Int32} {a3 : Int32} {a4 : Int32} {M : IM} {x : Int32} (h : F_217 a1 a2 a3 a4 M = some x) : Rc X d 217 0 [some (.ref (77)), some (.int (a1)), some (.int (a2)), some (.int (a3)), some (.int (a4)), none, none, none] [] M (some (.int x)) M := TF_217 hd h ⟨rfl, rfl⟩
/-! 218: NineDemandsModel.isEmpty -/
def J_218_28_4 (x2 : Int32) (s0 : Int32) (M : IM) : Option ((Int32 × Int32) ⊕ (Int32 × Int32)) := some (Sum.inl (s0, x2 + 1))
def J_218_23_4 (x2 : Int32) (M : IM) : Option ((Int32 × Int32) ⊕ (Int32 × Int32)) := J_218_28_4 x2 (1 : Int32) M
def B_218_4 (M : IM) : (Int32 × Int32) → Option ((Int32 × Int32) ⊕ (Int32 × Int32)) := fun (x1, x2) => if (12 : Int32) ≤ x2 then (some (Sum.inr (x1, x2))) else (if x1 = 0 then (if inb x2 12 = true then (if M 91 x2.toNatClampNeg = 0 then (J_218_23_4 x2 M) else (J_218_28_4 x2 (0 : Int32) M)) else none) else (J_218_23_4 x2 M))
def L_218_4 (M : IM) (x1 : Int32) (x2 : Int32) : Option (Int32 × Int32) := loopN (B_218_4 M) FU (x1, x2)
def F_218 (M : IM) : Option (Int32) := (match L_218_4 M 0 0 with | none => none | some (x1_5, x2_5) => (some (x1_5)))
theorem TJ_218_28_4 {X : AX} {d : Nat} (hd : 0 ≤ d) {x2 : Int32} {s0 : Int32} {M : IM} (hs0 : s0 = 0 ∨ s0 = 1) {v : Option Value} {M' : IM} {o : (Int32 × Int32) ⊕ (Int32 × Int32)} (h : J_218_28_4 x2 s0 M = some o) (hP : ∀ s', o = .inl s' → (fun (x1, x2) => (x1 = 0 ∨ x1 = 1) → Rc X d 218 4 [some (.ref (77)), some (.int (x1)), some (.int (x2))] [] M v M') s') (hE : ∀ r, o = .inr r → (fun (x1, x2) => (x1 = 0 ∨ x1 = 1) → Rc X d 218 35 [none, some (.int (x1)), none] [] M v M') r) : Rc X d 218 28 [some (.ref (77)), none, some (.int (x2))] [.int (s0)] M v M' := by
  unfold J_218_28_4 at h
  dsimp only at hP hE
  refine Rc.run tb_218 3 (pc' := 4) (ls' := [some (.ref (77)), some (.int (s0)), some (.int (x2 + 1))]) (st' := []) rfl rfl ?_
  refine Rc.mask (b := 7) ((tb_218.2 4).trans rfl) (ls' := [some (.ref (77)), some (.int (s0)), some (.int (x2 + 1))]) rfl ?_
  obtain rfl := Option.some.inj h
  exact hP _ rfl hs0
theorem TJ_218_23_4 {X : AX} {d : Nat} (hd : 0 ≤ d) {x2 : Int32} {M : IM} {v : Option Value} {M' : IM} {o : (Int32 × Int32) ⊕ (Int32 × Int32)} (h : J_218_23_4 x2 M = some o) (hP : ∀ s', o = .inl s' → (fun (x1, x2) => (x1 = 0 ∨ x1 = 1) → Rc X d 218 4 [some (.ref (77)), some (.int (x1)), some (.int (x2))] [] M v M') s') (hE : ∀ r, o = .inr r → (fun (x1, x2) => (x1 = 0 ∨ x1 = 1) → Rc X d 218 35 [none, some (.int (x1)), none] [] M v M') r) : Rc X d 218 23 [some (.ref (77)), none, some (.int (x2))] [] M v M' := by
  unfold J_218_23_4 at h
  dsimp only at hP hE
  refine Rc.run tb_218 2 (pc' := 28) (ls' := [some (.ref (77)), none, some (.int (x2))]) (st' := [.int (1)]) rfl rfl ?_
  refine Rc.mask (b := 5) ((tb_218.2 28).trans rfl) (ls' := [some (.ref (77)), none, some (.int (x2))]) rfl ?_
  exact TJ_218_28_4 (X := X) (d := d) (by omega) (Or.inr rfl) h hP hE
theorem TB_218_4 {X : AX} {d : Nat} (hd : 0 ≤ d) {M : IM} {v : Option Value} {M' : IM} : ∀ (s : Int32 × Int32) (o : (Int32 × Int32) ⊕ (Int32 × Int32)), B_218_4 M s = some o → (∀ s', o = .inl s' → (fun (x1, x2) => (x1 = 0 ∨ x1 = 1) → Rc X d 218 4 [some (.ref (77)), some (.int (x1)), some (.int (x2))] [] M v M') s') → (∀ r, o = .inr r → (fun (x1, x2) => (x1 = 0 ∨ x1 = 1) → Rc X d 218 35 [none, some (.int (x1)), none] [] M v M') r) → (fun (x1, x2) => (x1 = 0 ∨ x1 = 1) → Rc X d 218 4 [some (.ref (77)), some (.int (x1)), some (.int (x2))] [] M v M') s := by
  rintro ⟨x1, x2⟩ o h hP hE
  intro hx1
  show Rc X d 218 4 [some (.ref (77)), some (.int (x1)), some (.int (x2))] [] M v M'
  unfold B_218_4 at h
  dsimp only at h hP hE
  refine Rc.run tb_218 2 (pc' := 7) (ls' := [some (.ref (77)), some (.int (x1)), some (.int (x2))]) (st' := [.int (12), .int (x2)]) rfl rfl ?_
  refine Rc.icmp_ge (pc1 := 35) tb_218 rfl rfl (by decide) (by decide) (fun hb4 => ?_) (fun hb4 => ?_)
  · rw [if_pos hb4] at h
    refine Rc.mask (b := 2) ((tb_218.2 35).trans rfl) (ls' := [none, some (.int (x1)), none]) rfl ?_
    obtain rfl := Option.some.inj h
    exact hE _ rfl hx1
  · rw [if_neg hb4] at h
    refine Rc.run tb_218 1 (pc' := 11) (ls' := [some (.ref (77)), some (.int (x1)), some (.int (x2))]) (st' := [.int (x1)]) rfl rfl ?_
    refine Rc.if_ne (pc1 := 23) tb_218 rfl rfl (by decide) (by decide) (fun hb3 => ?_) (fun hb3 => ?_)
    · rw [if_pos hb3] at h
      refine Rc.run tb_218 1 (pc' := 15) (ls' := [some (.ref (77)), some (.int (x1)), some (.int (x2))]) (st' := [.ref (77)]) rfl rfl ?_
      refine Rc.getR tb_218 rfl rfl ob_77 (by decide +kernel) tg_77_23 (by decide) ?_
      refine Rc.run tb_218 1 (pc' := 19) (ls' := [some (.ref (77)), some (.int (x1)), some (.int (x2))]) (st' := [.int (x2), .ref (91)]) rfl rfl ?_
      by_cases hb2 : inb x2 12 = true
      · rw [if_pos hb2] at h
        refine Rc.iald tb_218 rfl rfl ia_91 hb2 ?_
        refine Rc.if_ne (pc1 := 27) tb_218 rfl rfl (by decide) (by decide) (fun hb1 => ?_) (fun hb1 => ?_)
        · rw [if_pos hb1] at h
          refine Rc.mask (b := 5) ((tb_218.2 23).trans rfl) (ls' := [some (.ref (77)), none, some (.int (x2))]) rfl ?_
          exact TJ_218_23_4 (X := X) (d := d) (by omega) h hP hE
        · rw [if_neg hb1] at h
          refine Rc.run tb_218 1 (pc' := 28) (ls' := [some (.ref (77)), some (.int (x1)), some (.int (x2))]) (st' := [.int (0)]) rfl rfl ?_
          refine Rc.mask (b := 5) ((tb_218.2 28).trans rfl) (ls' := [some (.ref (77)), none, some (.int (x2))]) rfl ?_
          exact TJ_218_28_4 (X := X) (d := d) (by omega) (Or.inl rfl) h hP hE
      · rw [if_neg hb2] at h
        cases h
    · rw [if_neg hb3] at h
      refine Rc.mask (b := 5) ((tb_218.2 23).trans rfl) (ls' := [some (.ref (77)), none, some (.int (x2))]) rfl ?_
      exact TJ_218_23_4 (X := X) (d := d) (by omega) h hP hE
theorem TL_218_4 {X : AX} {d : Nat} (hd : 0 ≤ d) {M : IM} {x1 : Int32} {x2 : Int32} (hx1 : x1 = 0 ∨ x1 = 1) {v : Option Value} {M' : IM} {r : Int32 × Int32} (h : L_218_4 M x1 x2 = some r) (hE : (fun (x1, x2) => (x1 = 0 ∨ x1 = 1) → Rc X d 218 35 [none, some (.int (x1)), none] [] M v M') r) : Rc X d 218 4 [some (.ref (77)), some (.int (x1)), some (.int (x2))] [] M v M' := by
  exact loopN_rc (P := fun (x1, x2) => (x1 = 0 ∨ x1 = 1) → Rc X d 218 4 [some (.ref (77)), some (.int (x1)), some (.int (x2))] [] M v M') (E := fun (x1, x2) => (x1 = 0 ∨ x1 = 1) → Rc X d 218 35 [none, some (.int (x1)), none] [] M v M') (TB_218_4 (X := X) hd) FU _ r h hE hx1
theorem TF_218 {X : AX} {d : Nat} (hd : 0 ≤ d) {M : IM} {v : Option Value} {M' : IM} {o : Int32} (h : F_218 M = some o) (hC : v = some (.int o) ∧ M' = M) : Rc X d 218 0 [some (.ref (77)), none, none] [] M v M' := by
  unfold F_218 at h
  refine Rc.run tb_218 4 (pc' := 4) (ls' := [some (.ref (77)), some (.int (0)), some (.int (0))]) (st' := []) rfl rfl ?_
  refine Rc.mask (b := 7) ((tb_218.2 4).trans rfl) (ls' := [some (.ref (77)), some (.int (0)), some (.int (0))]) rfl ?_
  cases hl5 : L_218_4 M 0 0 with
  | none => rw [hl5] at h; cases h
  | some r5 =>
    obtain ⟨x1_5, x2_5⟩ := r5
    rw [hl5] at h
    dsimp only at h
    refine TL_218_4 (X := X) (d := d) (by omega) (Or.inl rfl) hl5 ?_
    intro hz_x1_5
    refine Rc.run tb_218 1 (pc' := 36) (ls' := [none, some (.int (x1_5)), none]) (st' := [.int (x1_5)]) rfl rfl ?_
    obtain rfl := Option.some.inj h
    obtain ⟨rfl, rfl⟩ := hC
    exact Rc.zret tb_218 rfl mR_218 hz_x1_5
theorem T_218 {X : AX} {d : Nat} (hd : 0 ≤ d) {M : IM} {x : Int32} (h : F_218 M = some x) : Rc X d 218 0 [some (.ref (77)), none, none] [] M (some (.int x)) M := TF_218 hd h ⟨rfl, rfl⟩
/-! 219: NineDemandsModel.begin -/
def B_219_2 : (Int32 × IM) → Option ((Int32 × IM) ⊕ (Int32 × IM)) := fun (x1, M) => if (12 : Int32) ≤ x1 then (some (Sum.inr (x1, M))) else (if inb x1 12 = true then (some (Sum.inl (x1 + 1, iset M 91 x1.toNatClampNeg 14))) else none)
def L_219_2 (x1 : Int32) (M : IM) : Option (Int32 × IM) := loopN (B_219_2) FU (x1, M)
def J_219_22 (M : IM) : Option (IM) := some (iset M 77 25 0)
def F_219 (M : IM) : Option (IM) := (match L_219_2 0 M with | none => none | some (x1_3, M3) => (J_219_22 M3))
theorem TB_219_2 {X : AX} {d : Nat} (hd : 0 ≤ d) {v : Option Value} {M' : IM} : ∀ (s : Int32 × IM) (o : (Int32 × IM) ⊕ (Int32 × IM)), B_219_2 s = some o → (∀ s', o = .inl s' → (fun (x1, M) => Rc X d 219 2 [some (.ref (77)), some (.int (x1))] [] M v M') s') → (∀ r, o = .inr r → (fun (x1, M) => Rc X d 219 22 [some (.ref (77)), none] [] M v M') r) → (fun (x1, M) => Rc X d 219 2 [some (.ref (77)), some (.int (x1))] [] M v M') s := by
  rintro ⟨x1, M⟩ o h hP hE
  show Rc X d 219 2 [some (.ref (77)), some (.int (x1))] [] M v M'
  unfold B_219_2 at h
  dsimp only at h hP hE
  refine Rc.run tb_219 2 (pc' := 5) (ls' := [some (.ref (77)), some (.int (x1))]) (st' := [.int (12), .int (x1)]) rfl rfl ?_
  refine Rc.icmp_ge (pc1 := 22) tb_219 rfl rfl (by decide) (by decide) (fun hb2 => ?_) (fun hb2 => ?_)
  · rw [if_pos hb2] at h
    refine Rc.mask (b := 1) ((tb_219.2 22).trans rfl) (ls' := [some (.ref (77)), none]) rfl ?_
    obtain rfl := Option.some.inj h
    exact hE _ rfl
  · rw [if_neg hb2] at h
    refine Rc.run tb_219 1 (pc' := 9) (ls' := [some (.ref (77)), some (.int (x1))]) (st' := [.ref (77)]) rfl rfl ?_
    refine Rc.getR tb_219 rfl rfl ob_77 (by decide +kernel) tg_77_23 (by decide) ?_
    refine Rc.run tb_219 2 (pc' := 15) (ls' := [some (.ref (77)), some (.int (x1))]) (st' := [.int (14), .int (x1), .ref (91)]) rfl rfl ?_
    by_cases hb1 : inb x1 12 = true
    · rw [if_pos hb1] at h
      refine Rc.iast tb_219 rfl rfl ia_91 hb1 ?_
      refine Rc.run tb_219 2 (pc' := 2) (ls' := [some (.ref (77)), some (.int (x1 + 1))]) (st' := []) rfl rfl ?_
      refine Rc.mask (b := 3) ((tb_219.2 2).trans rfl) (ls' := [some (.ref (77)), some (.int (x1 + 1))]) rfl ?_
      obtain rfl := Option.some.inj h
      exact hP _ rfl
    · rw [if_neg hb1] at h
      cases h
theorem TL_219_2 {X : AX} {d : Nat} (hd : 0 ≤ d) {x1 : Int32} {M : IM} {v : Option Value} {M' : IM} {r : Int32 × IM} (h : L_219_2 x1 M = some r) (hE : (fun (x1, M) => Rc X d 219 22 [some (.ref (77)), none] [] M v M') r) : Rc X d 219 2 [some (.ref (77)), some (.int (x1))] [] M v M' := by
  exact loopN_rc (P := fun (x1, M) => Rc X d 219 2 [some (.ref (77)), some (.int (x1))] [] M v M') (E := fun (x1, M) => Rc X d 219 22 [some (.ref (77)), none] [] M v M') (TB_219_2 (X := X) hd) FU _ r h hE
theorem TJ_219_22 {X : AX} {d : Nat} (hd : 0 ≤ d) {M : IM} {v : Option Value} {M' : IM} {o : IM} (h : J_219_22 M = some o) (hC : v = none ∧ M' = o) : Rc X d 219 22 [some (.ref (77)), none] [] M v M' := by
  unfold J_219_22 at h
  refine Rc.run tb_219 2 (pc' := 24) (ls' := [some (.ref (77)), none]) (st' := [.int (0), .ref (77)]) rfl rfl ?_
  refine Rc.putI tb_219 rfl rfl ob_77 (by decide +kernel) tg_77_25 rfl ?_
  obtain rfl := Option.some.inj h
  obtain ⟨rfl, rfl⟩ := hC
  exact Rc.vret tb_219 rfl mR_219
theorem TF_219 {X : AX} {d : Nat} (hd : 0 ≤ d) {M : IM} {v : Option Value} {M' : IM} {o : IM} (h : F_219 M = some o) (hC : v = none ∧ M' = o) : Rc X d 219 0 [some (.ref (77)), none] [] M v M' := by
  unfold F_219 at h
  refine Rc.run tb_219 2 (pc' := 2) (ls' := [some (.ref (77)), some (.int (0))]) (st' := []) rfl rfl ?_
  refine Rc.mask (b := 3) ((tb_219.2 2).trans rfl) (ls' := [some (.ref (77)), some (.int (0))]) rfl ?_
  cases hl3 : L_219_2 0 M with
  | none => rw [hl3] at h; cases h
  | some r3 =>
    obtain ⟨x1_3, M3⟩ := r3
    rw [hl3] at h
    dsimp only at h
    refine TL_219_2 (X := X) (d := d) (by omega) hl3 ?_
    refine Rc.mask (b := 1) ((tb_219.2 22).trans rfl) (ls' := [some (.ref (77)), none]) rfl ?_
    exact TJ_219_22 (X := X) (d := d) (by omega) h hC
theorem T_219 {X : AX} {d : Nat} (hd : 0 ≤ d) {M : IM} {M1 : IM} (h : F_219 M = some M1) : Rc X d 219 0 [some (.ref (77)), none] [] M none M1 := TF_219 hd h ⟨rfl, rfl⟩
/-! 220: NineDemandsModel.strike -/
def J_220_111_24 (x1 : Int32) (x2 : Int32) (x3 : Int32) (x4 : Int32) (x5 : Int32) (M : IM) : Option ((Int32 × IM) ⊕ (Int32 × IM)) := some (Sum.inl (x5 + 1, M))
def B_220_24 (x1 : Int32) (x2 : Int32) (x3 : Int32) (x4 : Int32) : (Int32 × IM) → Option ((Int32 × IM) ⊕ (Int32 × IM)) := fun (x5, M) => if (3 : Int32) < x5 then (some (Sum.inr (x5, M))) else (match F_218 M with | none => none | some c2 => (if c2 = 0 then (if inb x4 12 = true then (if F_162 (M 91 x4.toNatClampNeg) x5 = 0 then (J_220_111_24 x1 x2 x3 x4 x5 M) else (match F_217 x1 x2 x3 x5 M with | none => none | some c4 => (if c4 = 0 then (if inb x4 12 = true then (if inb x4 12 = true then (if inb ((iset M 91 x4.toNatClampNeg ((M 91 x4.toNatClampNeg) &&& (((1 : Int32) <<< (x5 &&& 31)) ^^^ (-1)))) 77 25) 36 = true then (J_220_111_24 x1 x2 x3 x4 x5 (iset (iset (iset M 91 x4.toNatClampNeg ((M 91 x4.toNatClampNeg) &&& (((1 : Int32) <<< (x5 &&& 31)) ^^^ (-1)))) 92 ((iset M 91 x4.toNatClampNeg ((M 91 x4.toNatClampNeg) &&& (((1 : Int32) <<< (x5 &&& 31)) ^^^ (-1)))) 77 25).toNatClampNeg (((48 * x1) + (4 * x4)) + x5)) 77 25 (((iset (iset M 91 x4.toNatClampNeg ((M 91 x4.toNatClampNeg) &&& (((1 : Int32) <<< (x5 &&& 31)) ^^^ (-1)))) 92 ((iset M 91 x4.toNatClampNeg ((M 91 x4.toNatClampNeg) &&& (((1 : Int32) <<< (x5 &&& 31)) ^^^ (-1)))) 77 25).toNatClampNeg (((48 * x1) + (4 * x4)) + x5)) 77 25) + 1))) else none) else none) else none) else (J_220_111_24 x1 x2 x3 x4 x5 M)))) else none) else (some (Sum.inr (x5, M)))))
def L_220_24 (x1 : Int32) (x2 : Int32) (x3 : Int32) (x4 : Int32) (x5 : Int32) (M : IM) : Option (Int32 × IM) := loopN (B_220_24 x1 x2 x3 x4) FU (x5, M)
def J_220_19 (x1 : Int32) (x2 : Int32) (x3 : Int32) (s0 : Int32) (M : IM) : Option (IM) := (match L_220_24 x1 x2 x3 s0 1 M with | none => none | some (x5_13, M13) => (some (M13)))
def F_220 (a1 : Int32) (a2 : Int32) (a3 : Int32) (M : IM) : Option (IM) := if a3 = 0 then (match F_195 a1 a2 M with | none => none | some c1 => (J_220_19 a1 a2 a3 c1 M)) else (match F_196 a1 a2 M with | none => none | some c14 => (J_220_19 a1 a2 a3 c14 M))
theorem TJ_220_111_24 {X : AX} {d : Nat} (hd : 4 ≤ d) {x1 : Int32} {x2 : Int32} {x3 : Int32} {x4 : Int32} {x5 : Int32} {M : IM} {v : Option Value} {M' : IM} {o : (Int32 × IM) ⊕ (Int32 × IM)} (h : J_220_111_24 x1 x2 x3 x4 x5 M = some o) (hP : ∀ s', o = .inl s' → (fun (x5, M) => Rc X d 220 24 [some (.ref (77)), some (.int (x1)), some (.int (x2)), some (.int (x3)), some (.int (x4)), some (.int (x5))] [] M v M') s') (hE : ∀ r, o = .inr r → (fun (x5, M) => Rc X d 220 117 [none, none, none, none, none, none] [] M v M') r) : Rc X d 220 111 [some (.ref (77)), some (.int (x1)), some (.int (x2)), some (.int (x3)), some (.int (x4)), some (.int (x5))] [] M v M' := by
  obtain ⟨d, rfl⟩ : ∃ e, d = e + 1 := ⟨d - 1, by omega⟩
  unfold J_220_111_24 at h
  dsimp only at hP hE
  refine Rc.run tb_220 2 (pc' := 24) (ls' := [some (.ref (77)), some (.int (x1)), some (.int (x2)), some (.int (x3)), some (.int (x4)), some (.int (x5 + 1))]) (st' := []) rfl rfl ?_
  refine Rc.mask (b := 63) ((tb_220.2 24).trans rfl) (ls' := [some (.ref (77)), some (.int (x1)), some (.int (x2)), some (.int (x3)), some (.int (x4)), some (.int (x5 + 1))]) rfl ?_
  obtain rfl := Option.some.inj h
  exact hP _ rfl
theorem TB_220_24 {X : AX} {d : Nat} (hd : 4 ≤ d) {x1 : Int32} {x2 : Int32} {x3 : Int32} {x4 : Int32} {v : Option Value} {M' : IM} : ∀ (s : Int32 × IM) (o : (Int32 × IM) ⊕ (Int32 × IM)), B_220_24 x1 x2 x3 x4 s = some o → (∀ s', o = .inl s' → (fun (x5, M) => Rc X d 220 24 [some (.ref (77)), some (.int (x1)), some (.int (x2)), some (.int (x3)), some (.int (x4)), some (.int (x5))] [] M v M') s') → (∀ r, o = .inr r → (fun (x5, M) => Rc X d 220 117 [none, none, none, none, none, none] [] M v M') r) → (fun (x5, M) => Rc X d 220 24 [some (.ref (77)), some (.int (x1)), some (.int (x2)), some (.int (x3)), some (.int (x4)), some (.int (x5))] [] M v M') s := by
  rintro ⟨x5, M⟩ o h hP hE
  show Rc X d 220 24 [some (.ref (77)), some (.int (x1)), some (.int (x2)), some (.int (x3)), some (.int (x4)), some (.int (x5))] [] M v M'
  obtain ⟨d, rfl⟩ : ∃ e, d = e + 1 := ⟨d - 1, by omega⟩
  unfold B_220_24 at h
  dsimp only at h hP hE
  refine Rc.run tb_220 2 (pc' := 27) (ls' := [some (.ref (77)), some (.int (x1)), some (.int (x2)), some (.int (x3)), some (.int (x4)), some (.int (x5))]) (st' := [.int (3), .int (x5)]) rfl rfl ?_
  refine Rc.icmp_gt (pc1 := 117) tb_220 rfl rfl (by decide) (by decide) (fun hb12 => ?_) (fun hb12 => ?_)
  · rw [if_pos hb12] at h
    refine Rc.mask (b := 0) ((tb_220.2 117).trans rfl) (ls' := [none, none, none, none, none, none]) rfl ?_
    obtain rfl := Option.some.inj h
    exact hE _ rfl
  · rw [if_neg hb12] at h
    refine Rc.run tb_220 1 (pc' := 31) (ls' := [some (.ref (77)), some (.int (x1)), some (.int (x2)), some (.int (x3)), some (.int (x4)), some (.int (x5))]) (st' := [.ref (77)]) rfl rfl ?_
    cases hc2 : F_218 M with
    | none => rw [hc2] at h; cases h
    | some c2 =>
      rw [hc2] at h
      dsimp only at h
      have hq2 := T_218 (X := X) (d := d) (by omega) (M := M) hc2
      have hz2 := Rc.bool mR_218 hq2
      refine Rc.callV tb_220 rfl rfl rfl mS_218 mP_218 mL_218 mO_218 rfl rfl ob_77 rfl rfl hq2 ?_
      refine Rc.if_ne (pc1 := 117) tb_220 rfl rfl (by decide) (by decide) (fun hb11 => ?_) (fun hb11 => ?_)
      · rw [if_pos hb11] at h
        refine Rc.run tb_220 1 (pc' := 38) (ls' := [some (.ref (77)), some (.int (x1)), some (.int (x2)), some (.int (x3)), some (.int (x4)), some (.int (x5))]) (st' := [.ref (77)]) rfl rfl ?_
        refine Rc.getR tb_220 rfl rfl ob_77 (by decide +kernel) tg_77_23 (by decide) ?_
        refine Rc.run tb_220 1 (pc' := 43) (ls' := [some (.ref (77)), some (.int (x1)), some (.int (x2)), some (.int (x3)), some (.int (x4)), some (.int (x5))]) (st' := [.int (x4), .ref (91)]) rfl rfl ?_
        by_cases hb10 : inb x4 12 = true
        · rw [if_pos hb10] at h
          refine Rc.iald tb_220 rfl rfl ia_91 hb10 ?_
          refine Rc.run tb_220 1 (pc' := 46) (ls' := [some (.ref (77)), some (.int (x1)), some (.int (x2)), some (.int (x3)), some (.int (x4)), some (.int (x5))]) (st' := [.int (x5), .int (M 91 x4.toNatClampNeg)]) rfl rfl ?_
          have hq3 := T_162 (X := X) (d := d) (by omega) (M 91 x4.toNatClampNeg) x5 M
          have hz3 := Rc.bool mR_162 hq3
          refine Rc.callS tb_220 rfl rfl rfl mS_162 mP_162 mL_162 rfl rfl rfl hq3 ?_
          refine Rc.if_eq (pc1 := 111) tb_220 rfl rfl (by decide) (by decide) (fun hb9 => ?_) (fun hb9 => ?_)
          · rw [if_pos hb9] at h
            refine Rc.mask (b := 63) ((tb_220.2 111).trans rfl) (ls' := [some (.ref (77)), some (.int (x1)), some (.int (x2)), some (.int (x3)), some (.int (x4)), some (.int (x5))]) rfl ?_
            exact TJ_220_111_24 (X := X) (d := d + 1) (by omega) h hP hE
          · rw [if_neg hb9] at h
            refine Rc.run tb_220 5 (pc' := 58) (ls' := [some (.ref (77)), some (.int (x1)), some (.int (x2)), some (.int (x3)), some (.int (x4)), some (.int (x5))]) (st' := [.int (x5), .int (x3), .int (x2), .int (x1), .ref (77)]) rfl rfl ?_
            cases hc4 : F_217 x1 x2 x3 x5 M with
            | none => rw [hc4] at h; cases h
            | some c4 =>
              rw [hc4] at h
              dsimp only at h
              have hq4 := T_217 (X := X) (d := d) (by omega) (M := M) hc4
              have hz4 := Rc.bool mR_217 hq4
              refine Rc.callV tb_220 rfl rfl rfl mS_217 mP_217 mL_217 mO_217 rfl rfl ob_77 rfl rfl hq4 ?_
              refine Rc.if_ne (pc1 := 111) tb_220 rfl rfl (by decide) (by decide) (fun hb8 => ?_) (fun hb8 => ?_)
              · rw [if_pos hb8] at h
                refine Rc.run tb_220 1 (pc' := 65) (ls' := [some (.ref (77)), some (.int (x1)), some (.int (x2)), some (.int (x3)), some (.int (x4)), some (.int (x5))]) (st' := [.ref (77)]) rfl rfl ?_
                refine Rc.getR tb_220 rfl rfl ob_77 (by decide +kernel) tg_77_23 (by decide) ?_
                refine Rc.run tb_220 2 (pc' := 71) (ls' := [some (.ref (77)), some (.int (x1)), some (.int (x2)), some (.int (x3)), some (.int (x4)), some (.int (x5))]) (st' := [.int (x4), .ref (91), .int (x4), .ref (91)]) rfl rfl ?_
                by_cases hb7 : inb x4 12 = true
                · rw [if_pos hb7] at h
                  refine Rc.iald tb_220 rfl rfl ia_91 hb7 ?_
                  refine Rc.run tb_220 6 (pc' := 79) (ls' := [some (.ref (77)), some (.int (x1)), some (.int (x2)), some (.int (x3)), some (.int (x4)), some (.int (x5))]) (st' := [.int ((M 91 x4.toNatClampNeg) &&& (((1 : Int32) <<< (x5 &&& 31)) ^^^ (-1))), .int (x4), .ref (91)]) rfl rfl ?_
                  by_cases hb6 : inb x4 12 = true
                  · rw [if_pos hb6] at h
                    refine Rc.iast tb_220 rfl rfl ia_91 hb6 ?_
                    refine Rc.run tb_220 1 (pc' := 81) (ls' := [some (.ref (77)), some (.int (x1)), some (.int (x2)), some (.int (x3)), some (.int (x4)), some (.int (x5))]) (st' := [.ref (77)]) rfl rfl ?_
                    refine Rc.getR tb_220 rfl rfl ob_77 (by decide +kernel) tg_77_24 (by decide) ?_
                    refine Rc.run tb_220 1 (pc' := 85) (ls' := [some (.ref (77)), some (.int (x1)), some (.int (x2)), some (.int (x3)), some (.int (x4)), some (.int (x5))]) (st' := [.ref (77), .ref (92)]) rfl rfl ?_
                    refine Rc.getI tb_220 rfl rfl ob_77 (by decide +kernel) tg_77_25 ?_
                    refine Rc.run tb_220 9 (pc' := 100) (ls' := [some (.ref (77)), some (.int (x1)), some (.int (x2)), some (.int (x3)), some (.int (x4)), some (.int (x5))]) (st' := [.int (((48 * x1) + (4 * x4)) + x5), .int ((iset M 91 x4.toNatClampNeg ((M 91 x4.toNatClampNeg) &&& (((1 : Int32) <<< (x5 &&& 31)) ^^^ (-1)))) 77 25), .ref (92)]) rfl rfl ?_
                    by_cases hb5 : inb ((iset M 91 x4.toNatClampNeg ((M 91 x4.toNatClampNeg) &&& (((1 : Int32) <<< (x5 &&& 31)) ^^^ (-1)))) 77 25) 36 = true
                    · rw [if_pos hb5] at h
                      refine Rc.iast tb_220 rfl rfl ia_92 hb5 ?_
                      refine Rc.run tb_220 2 (pc' := 103) (ls' := [some (.ref (77)), some (.int (x1)), some (.int (x2)), some (.int (x3)), some (.int (x4)), some (.int (x5))]) (st' := [.ref (77), .ref (77)]) rfl rfl ?_
                      refine Rc.getI tb_220 rfl rfl ob_77 (by decide +kernel) tg_77_25 ?_
                      refine Rc.run tb_220 2 (pc' := 108) (ls' := [some (.ref (77)), some (.int (x1)), some (.int (x2)), some (.int (x3)), some (.int (x4)), some (.int (x5))]) (st' := [.int (((iset (iset M 91 x4.toNatClampNeg ((M 91 x4.toNatClampNeg) &&& (((1 : Int32) <<< (x5 &&& 31)) ^^^ (-1)))) 92 ((iset M 91 x4.toNatClampNeg ((M 91 x4.toNatClampNeg) &&& (((1 : Int32) <<< (x5 &&& 31)) ^^^ (-1)))) 77 25).toNatClampNeg (((48 * x1) + (4 * x4)) + x5)) 77 25) + 1), .ref (77)]) rfl rfl ?_
                      refine Rc.putI tb_220 rfl rfl ob_77 (by decide +kernel) tg_77_25 rfl ?_
                      refine Rc.mask (b := 63) ((tb_220.2 111).trans rfl) (ls' := [some (.ref (77)), some (.int (x1)), some (.int (x2)), some (.int (x3)), some (.int (x4)), some (.int (x5))]) rfl ?_
                      exact TJ_220_111_24 (X := X) (d := d + 1) (by omega) h hP hE
                    · rw [if_neg hb5] at h
                      cases h
                  · rw [if_neg hb6] at h
                    cases h
                · rw [if_neg hb7] at h
                  cases h
              · rw [if_neg hb8] at h
                refine Rc.mask (b := 63) ((tb_220.2 111).trans rfl) (ls' := [some (.ref (77)), some (.int (x1)), some (.int (x2)), some (.int (x3)), some (.int (x4)), some (.int (x5))]) rfl ?_
                exact TJ_220_111_24 (X := X) (d := d + 1) (by omega) h hP hE
        · rw [if_neg hb10] at h
          cases h
      · rw [if_neg hb11] at h
        refine Rc.mask (b := 0) ((tb_220.2 117).trans rfl) (ls' := [none, none, none, none, none, none]) rfl ?_
        obtain rfl := Option.some.inj h
        exact hE _ rfl
theorem TL_220_24 {X : AX} {d : Nat} (hd : 4 ≤ d) {x1 : Int32} {x2 : Int32} {x3 : Int32} {x4 : Int32} {x5 : Int32} {M : IM} {v : Option Value} {M' : IM} {r : Int32 × IM} (h : L_220_24 x1 x2 x3 x4 x5 M = some r) (hE : (fun (x5, M) => Rc X d 220 117 [none, none, none, none, none, none] [] M v M') r) : Rc X d 220 24 [some (.ref (77)), some (.int (x1)), some (.int (x2)), some (.int (x3)), some (.int (x4)), some (.int (x5))] [] M v M' := by
  exact loopN_rc (P := fun (x5, M) => Rc X d 220 24 [some (.ref (77)), some (.int (x1)), some (.int (x2)), some (.int (x3)), some (.int (x4)), some (.int (x5))] [] M v M') (E := fun (x5, M) => Rc X d 220 117 [none, none, none, none, none, none] [] M v M') (TB_220_24 (X := X) hd) FU _ r h hE
theorem TJ_220_19 {X : AX} {d : Nat} (hd : 4 ≤ d) {x1 : Int32} {x2 : Int32} {x3 : Int32} {s0 : Int32} {M : IM} {v : Option Value} {M' : IM} {o : IM} (h : J_220_19 x1 x2 x3 s0 M = some o) (hC : v = none ∧ M' = o) : Rc X d 220 19 [some (.ref (77)), some (.int (x1)), some (.int (x2)), some (.int (x3)), none, none] [.int (s0)] M v M' := by
  obtain ⟨d, rfl⟩ : ∃ e, d = e + 1 := ⟨d - 1, by omega⟩
  unfold J_220_19 at h
  refine Rc.run tb_220 3 (pc' := 24) (ls' := [some (.ref (77)), some (.int (x1)), some (.int (x2)), some (.int (x3)), some (.int (s0)), some (.int (1))]) (st' := []) rfl rfl ?_
  refine Rc.mask (b := 63) ((tb_220.2 24).trans rfl) (ls' := [some (.ref (77)), some (.int (x1)), some (.int (x2)), some (.int (x3)), some (.int (s0)), some (.int (1))]) rfl ?_
  cases hl13 : L_220_24 x1 x2 x3 s0 1 M with
  | none => rw [hl13] at h; cases h
  | some r13 =>
    obtain ⟨x5_13, M13⟩ := r13
    rw [hl13] at h
    dsimp only at h
    refine TL_220_24 (X := X) (d := d + 1) (by omega) hl13 ?_
    obtain rfl := Option.some.inj h
    obtain ⟨rfl, rfl⟩ := hC
    exact Rc.vret tb_220 rfl mR_220
theorem TF_220 {X : AX} {d : Nat} (hd : 4 ≤ d) {a1 : Int32} {a2 : Int32} {a3 : Int32} {M : IM} {v : Option Value} {M' : IM} {o : IM} (h : F_220 a1 a2 a3 M = some o) (hC : v = none ∧ M' = o) : Rc X d 220 0 [some (.ref (77)), some (.int (a1)), some (.int (a2)), some (.int (a3)), none, none] [] M v M' := by
  obtain ⟨d, rfl⟩ : ∃ e, d = e + 1 := ⟨d - 1, by omega⟩
  unfold F_220 at h
  refine Rc.run tb_220 1 (pc' := 1) (ls' := [some (.ref (77)), some (.int (a1)), some (.int (a2)), some (.int (a3)), none, none]) (st' := [.int (a3)]) rfl rfl ?_
  refine Rc.if_eq (pc1 := 13) tb_220 rfl rfl (by decide) (by decide) (fun hb15 => ?_) (fun hb15 => ?_)
  · rw [if_pos hb15] at h
    refine Rc.run tb_220 3 (pc' := 16) (ls' := [some (.ref (77)), some (.int (a1)), some (.int (a2)), some (.int (a3)), none, none]) (st' := [.int (a2), .int (a1), .ref (77)]) rfl rfl ?_
    cases hc1 : F_195 a1 a2 M with
    | none => rw [hc1] at h; cases h
    | some c1 =>
      rw [hc1] at h
      dsimp only at h
      have hq1 := T_195 (X := X) (d := d) (by omega) (M := M) hc1
      refine Rc.callV tb_220 rfl rfl rfl mS_195 mP_195 mL_195 mO_195 rfl rfl ob_77 rfl rfl hq1 ?_
      refine Rc.mask (b := 15) ((tb_220.2 19).trans rfl) (ls' := [some (.ref (77)), some (.int (a1)), some (.int (a2)), some (.int (a3)), none, none]) rfl ?_
      exact TJ_220_19 (X := X) (d := d + 1) (by omega) h hC
  · rw [if_neg hb15] at h
    refine Rc.run tb_220 3 (pc' := 7) (ls' := [some (.ref (77)), some (.int (a1)), some (.int (a2)), some (.int (a3)), none, none]) (st' := [.int (a2), .int (a1), .ref (77)]) rfl rfl ?_
    cases hc14 : F_196 a1 a2 M with
    | none => rw [hc14] at h; cases h
    | some c14 =>
      rw [hc14] at h
      dsimp only at h
      have hq14 := T_196 (X := X) (d := d) (by omega) (M := M) hc14
      refine Rc.callV tb_220 rfl rfl rfl mS_196 mP_196 mL_196 mO_196 rfl rfl ob_77 rfl rfl hq14 ?_
      refine Rc.run tb_220 1 (pc' := 19) (ls' := [some (.ref (77)), some (.int (a1)), some (.int (a2)), some (.int (a3)), none, none]) (st' := [.int (c14)]) rfl rfl ?_
      refine Rc.mask (b := 15) ((tb_220.2 19).trans rfl) (ls' := [some (.ref (77)), some (.int (a1)), some (.int (a2)), some (.int (a3)), none, none]) rfl ?_
      exact TJ_220_19 (X := X) (d := d + 1) (by omega) h hC
theorem T_220 {X : AX} {d : Nat} (hd : 4 ≤ d) {a1 : Int32} {a2 : Int32} {a3 : Int32} {M : IM} {M1 : IM} (h : F_220 a1 a2 a3 M = some M1) : Rc X d 220 0 [some (.ref (77)), some (.int (a1)), some (.int (a2)), some (.int (a3)), none, none] [] M none M1 := TF_220 hd h ⟨rfl, rfl⟩
/-! 221: NineDemandsModel.showing -/
def J_221_83_41 (x1 : Int32) (x2 : Int32) (x3 : Int32) (x4 : Int32) (M : IM) : Option ((Int32 × IM) ⊕ (Int32 × IM)) := some (Sum.inl (x4 + 1, M))
def B_221_41 (x1 : Int32) (x2 : Int32) (x3 : Int32) : (Int32 × IM) → Option ((Int32 × IM) ⊕ (Int32 × IM)) := fun (x4, M) => if F_162 x1 x3 = 0 then (some (Sum.inr (x4, M))) else (match F_164 x3 M with | none => none | some c4 => (if c4 ≤ x4 then (some (Sum.inr (x4, M))) else (match F_220 x3 x4 (0 : Int32) M with | none => none | some M5 => (match F_165 x3 M5 with | none => none | some c6 => (if c6 = 0 then (J_221_83_41 x1 x2 x3 x4 M5) else (match F_220 x3 x4 (1 : Int32) M5 with | none => none | some M7 => (J_221_83_41 x1 x2 x3 x4 M7)))))))
def L_221_41 (x1 : Int32) (x2 : Int32) (x3 : Int32) (x4 : Int32) (M : IM) : Option (Int32 × IM) := loopN (B_221_41 x1 x2 x3) FU (x4, M)
def J_221_89_28 (x1 : Int32) (x2 : Int32) (x3 : Int32) (M : IM) : Option ((Int32 × IM) ⊕ (Int32 × IM)) := some (Sum.inl (x3 + 1, M))
def B_221_28 (x1 : Int32) (x2 : Int32) : (Int32 × IM) → Option ((Int32 × IM) ⊕ (Int32 × IM)) := fun (x3, M) => if M 78 (0 : Int32).toNatClampNeg ≤ x3 then (some (Sum.inr (x3, M))) else (match L_221_41 x1 x2 x3 0 M with | none => none | some (x4_11, M11) => (J_221_89_28 x1 x2 x3 M11))
def L_221_28 (x1 : Int32) (x2 : Int32) (x3 : Int32) (M : IM) : Option (Int32 × IM) := loopN (B_221_28 x1 x2) FU (x3, M)
def J_221_95_6 (x1 : Int32) (x2 : Int32) (M : IM) : Option ((Int32 × IM) ⊕ (Int32 × IM)) := some (Sum.inl (x2, M))
def B_221_6 (x1 : Int32) : (Int32 × IM) → Option ((Int32 × IM) ⊕ (Int32 × IM)) := fun (x2, M) => if x2 = M 77 25 then (some (Sum.inr (x2, M))) else (match F_218 M with | none => none | some c2 => (if c2 = 0 then (match L_221_28 x1 (M 77 25) 0 M with | none => none | some (x3_14, M14) => (J_221_95_6 x1 (M 77 25) M14)) else (some (Sum.inr (x2, M)))))
def L_221_6 (x1 : Int32) (x2 : Int32) (M : IM) : Option (Int32 × IM) := loopN (B_221_6 x1) FU (x2, M)
def F_221 (a1 : Int32) (M : IM) : Option (IM) := (match F_219 M with | none => none | some M1 => (match L_221_6 a1 (-1) M1 with | none => none | some (x2_17, M17) => (some (M17))))
theorem TJ_221_83_41 {X : AX} {d : Nat} (hd : 5 ≤ d) {x1 : Int32} {x2 : Int32} {x3 : Int32} {x4 : Int32} {M : IM} {v : Option Value} {M' : IM} {o : (Int32 × IM) ⊕ (Int32 × IM)} (h : J_221_83_41 x1 x2 x3 x4 M = some o) (hP : ∀ s', o = .inl s' → (fun (x4, M) => Rc X d 221 41 [some (.ref (77)), some (.int (x1)), some (.int (x2)), some (.int (x3)), some (.int (x4))] [] M v M') s') (hE : ∀ r, o = .inr r → (fun (x4, M) => Rc X d 221 89 [some (.ref (77)), some (.int (x1)), some (.int (x2)), some (.int (x3)), none] [] M v M') r) : Rc X d 221 83 [some (.ref (77)), some (.int (x1)), some (.int (x2)), some (.int (x3)), some (.int (x4))] [] M v M' := by
  obtain ⟨d, rfl⟩ : ∃ e, d = e + 1 := ⟨d - 1, by omega⟩
  unfold J_221_83_41 at h
  dsimp only at hP hE
  refine Rc.run tb_221 2 (pc' := 41) (ls' := [some (.ref (77)), some (.int (x1)), some (.int (x2)), some (.int (x3)), some (.int (x4 + 1))]) (st' := []) rfl rfl ?_
  refine Rc.mask (b := 31) ((tb_221.2 41).trans rfl) (ls' := [some (.ref (77)), some (.int (x1)), some (.int (x2)), some (.int (x3)), some (.int (x4 + 1))]) rfl ?_
  obtain rfl := Option.some.inj h
  exact hP _ rfl
theorem TB_221_41 {X : AX} {d : Nat} (hd : 5 ≤ d) {x1 : Int32} {x2 : Int32} {x3 : Int32} {v : Option Value} {M' : IM} : ∀ (s : Int32 × IM) (o : (Int32 × IM) ⊕ (Int32 × IM)), B_221_41 x1 x2 x3 s = some o → (∀ s', o = .inl s' → (fun (x4, M) => Rc X d 221 41 [some (.ref (77)), some (.int (x1)), some (.int (x2)), some (.int (x3)), some (.int (x4))] [] M v M') s') → (∀ r, o = .inr r → (fun (x4, M) => Rc X d 221 89 [some (.ref (77)), some (.int (x1)), some (.int (x2)), some (.int (x3)), none] [] M v M') r) → (fun (x4, M) => Rc X d 221 41 [some (.ref (77)), some (.int (x1)), some (.int (x2)), some (.int (x3)), some (.int (x4))] [] M v M') s := by
  rintro ⟨x4, M⟩ o h hP hE
  show Rc X d 221 41 [some (.ref (77)), some (.int (x1)), some (.int (x2)), some (.int (x3)), some (.int (x4))] [] M v M'
  obtain ⟨d, rfl⟩ : ∃ e, d = e + 1 := ⟨d - 1, by omega⟩
  unfold B_221_41 at h
  dsimp only at h hP hE
  refine Rc.run tb_221 2 (pc' := 43) (ls' := [some (.ref (77)), some (.int (x1)), some (.int (x2)), some (.int (x3)), some (.int (x4))]) (st' := [.int (x3), .int (x1)]) rfl rfl ?_
  have hq3 := T_162 (X := X) (d := d) (by omega) x1 x3 M
  have hz3 := Rc.bool mR_162 hq3
  refine Rc.callS tb_221 rfl rfl rfl mS_162 mP_162 mL_162 rfl rfl rfl hq3 ?_
  refine Rc.if_eq (pc1 := 89) tb_221 rfl rfl (by decide) (by decide) (fun hb10 => ?_) (fun hb10 => ?_)
  · rw [if_pos hb10] at h
    refine Rc.mask (b := 15) ((tb_221.2 89).trans rfl) (ls' := [some (.ref (77)), some (.int (x1)), some (.int (x2)), some (.int (x3)), none]) rfl ?_
    obtain rfl := Option.some.inj h
    exact hE _ rfl
  · rw [if_neg hb10] at h
    refine Rc.run tb_221 3 (pc' := 53) (ls' := [some (.ref (77)), some (.int (x1)), some (.int (x2)), some (.int (x3)), some (.int (x4))]) (st' := [.int (x3), .ref (77), .int (x4)]) rfl rfl ?_
    cases hc4 : F_164 x3 M with
    | none => rw [hc4] at h; cases h
    | some c4 =>
      rw [hc4] at h
      dsimp only at h
      have hq4 := T_164 (X := X) (d := d) (by omega) (M := M) hc4
      refine Rc.callV tb_221 rfl rfl rfl mS_164 mP_164 mL_164 mO_164 rfl rfl ob_77 rfl rfl hq4 ?_
      refine Rc.icmp_ge (pc1 := 89) tb_221 rfl rfl (by decide) (by decide) (fun hb9 => ?_) (fun hb9 => ?_)
      · rw [if_pos hb9] at h
        refine Rc.mask (b := 15) ((tb_221.2 89).trans rfl) (ls' := [some (.ref (77)), some (.int (x1)), some (.int (x2)), some (.int (x3)), none]) rfl ?_
        obtain rfl := Option.some.inj h
        exact hE _ rfl
      · rw [if_neg hb9] at h
        refine Rc.run tb_221 4 (pc' := 64) (ls' := [some (.ref (77)), some (.int (x1)), some (.int (x2)), some (.int (x3)), some (.int (x4))]) (st' := [.int (0), .int (x4), .int (x3), .ref (77)]) rfl rfl ?_
        cases hc5 : F_220 x3 x4 (0 : Int32) M with
        | none => rw [hc5] at h; cases h
        | some M5 =>
          rw [hc5] at h
          dsimp only at h
          have hq5 := T_220 (X := X) (d := d) (by omega) (M := M) hc5
          refine Rc.callV tb_221 rfl rfl rfl mS_220 mP_220 mL_220 mO_220 rfl rfl ob_77 rfl rfl hq5 ?_
          refine Rc.run tb_221 2 (pc' := 69) (ls' := [some (.ref (77)), some (.int (x1)), some (.int (x2)), some (.int (x3)), some (.int (x4))]) (st' := [.int (x3), .ref (77)]) rfl rfl ?_
          cases hc6 : F_165 x3 M5 with
          | none => rw [hc6] at h; cases h
          | some c6 =>
            rw [hc6] at h
            dsimp only at h
            have hq6 := T_165 (X := X) (d := d) (by omega) (M := M5) hc6
            have hz6 := Rc.bool mR_165 hq6
            refine Rc.callV tb_221 rfl rfl rfl mS_165 mP_165 mL_165 mO_165 rfl rfl ob_77 rfl rfl hq6 ?_
            refine Rc.if_eq (pc1 := 83) tb_221 rfl rfl (by decide) (by decide) (fun hb8 => ?_) (fun hb8 => ?_)
            · rw [if_pos hb8] at h
              refine Rc.mask (b := 31) ((tb_221.2 83).trans rfl) (ls' := [some (.ref (77)), some (.int (x1)), some (.int (x2)), some (.int (x3)), some (.int (x4))]) rfl ?_
              exact TJ_221_83_41 (X := X) (d := d + 1) (by omega) h hP hE
            · rw [if_neg hb8] at h
              refine Rc.run tb_221 4 (pc' := 80) (ls' := [some (.ref (77)), some (.int (x1)), some (.int (x2)), some (.int (x3)), some (.int (x4))]) (st' := [.int (1), .int (x4), .int (x3), .ref (77)]) rfl rfl ?_
              cases hc7 : F_220 x3 x4 (1 : Int32) M5 with
              | none => rw [hc7] at h; cases h
              | some M7 =>
                rw [hc7] at h
                dsimp only at h
                have hq7 := T_220 (X := X) (d := d) (by omega) (M := M5) hc7
                refine Rc.callV tb_221 rfl rfl rfl mS_220 mP_220 mL_220 mO_220 rfl rfl ob_77 rfl rfl hq7 ?_
                refine Rc.mask (b := 31) ((tb_221.2 83).trans rfl) (ls' := [some (.ref (77)), some (.int (x1)), some (.int (x2)), some (.int (x3)), some (.int (x4))]) rfl ?_
                exact TJ_221_83_41 (X := X) (d := d + 1) (by omega) h hP hE
theorem TL_221_41 {X : AX} {d : Nat} (hd : 5 ≤ d) {x1 : Int32} {x2 : Int32} {x3 : Int32} {x4 : Int32} {M : IM} {v : Option Value} {M' : IM} {r : Int32 × IM} (h : L_221_41 x1 x2 x3 x4 M = some r) (hE : (fun (x4, M) => Rc X d 221 89 [some (.ref (77)), some (.int (x1)), some (.int (x2)), some (.int (x3)), none] [] M v M') r) : Rc X d 221 41 [some (.ref (77)), some (.int (x1)), some (.int (x2)), some (.int (x3)), some (.int (x4))] [] M v M' := by
  exact loopN_rc (P := fun (x4, M) => Rc X d 221 41 [some (.ref (77)), some (.int (x1)), some (.int (x2)), some (.int (x3)), some (.int (x4))] [] M v M') (E := fun (x4, M) => Rc X d 221 89 [some (.ref (77)), some (.int (x1)), some (.int (x2)), some (.int (x3)), none] [] M v M') (TB_221_41 (X := X) hd) FU _ r h hE
theorem TJ_221_89_28 {X : AX} {d : Nat} (hd : 5 ≤ d) {x1 : Int32} {x2 : Int32} {x3 : Int32} {M : IM} {v : Option Value} {M' : IM} {o : (Int32 × IM) ⊕ (Int32 × IM)} (h : J_221_89_28 x1 x2 x3 M = some o) (hP : ∀ s', o = .inl s' → (fun (x3, M) => Rc X d 221 28 [some (.ref (77)), some (.int (x1)), some (.int (x2)), some (.int (x3)), none] [] M v M') s') (hE : ∀ r, o = .inr r → (fun (x3, M) => Rc X d 221 95 [some (.ref (77)), some (.int (x1)), some (.int (x2)), none, none] [] M v M') r) : Rc X d 221 89 [some (.ref (77)), some (.int (x1)), some (.int (x2)), some (.int (x3)), none] [] M v M' := by
  obtain ⟨d, rfl⟩ : ∃ e, d = e + 1 := ⟨d - 1, by omega⟩
  unfold J_221_89_28 at h
  dsimp only at hP hE
  refine Rc.run tb_221 2 (pc' := 28) (ls' := [some (.ref (77)), some (.int (x1)), some (.int (x2)), some (.int (x3 + 1)), none]) (st' := []) rfl rfl ?_
  refine Rc.mask (b := 15) ((tb_221.2 28).trans rfl) (ls' := [some (.ref (77)), some (.int (x1)), some (.int (x2)), some (.int (x3 + 1)), none]) rfl ?_
  obtain rfl := Option.some.inj h
  exact hP _ rfl
theorem TB_221_28 {X : AX} {d : Nat} (hd : 5 ≤ d) {x1 : Int32} {x2 : Int32} {v : Option Value} {M' : IM} : ∀ (s : Int32 × IM) (o : (Int32 × IM) ⊕ (Int32 × IM)), B_221_28 x1 x2 s = some o → (∀ s', o = .inl s' → (fun (x3, M) => Rc X d 221 28 [some (.ref (77)), some (.int (x1)), some (.int (x2)), some (.int (x3)), none] [] M v M') s') → (∀ r, o = .inr r → (fun (x3, M) => Rc X d 221 95 [some (.ref (77)), some (.int (x1)), some (.int (x2)), none, none] [] M v M') r) → (fun (x3, M) => Rc X d 221 28 [some (.ref (77)), some (.int (x1)), some (.int (x2)), some (.int (x3)), none] [] M v M') s := by
  rintro ⟨x3, M⟩ o h hP hE
  show Rc X d 221 28 [some (.ref (77)), some (.int (x1)), some (.int (x2)), some (.int (x3)), none] [] M v M'
  obtain ⟨d, rfl⟩ : ∃ e, d = e + 1 := ⟨d - 1, by omega⟩
  unfold B_221_28 at h
  dsimp only at h hP hE
  refine Rc.run tb_221 2 (pc' := 30) (ls' := [some (.ref (77)), some (.int (x1)), some (.int (x2)), some (.int (x3)), none]) (st' := [.ref (77), .int (x3)]) rfl rfl ?_
  refine Rc.getR tb_221 rfl rfl ob_77 (by decide +kernel) tg_77_0 (by decide) ?_
  refine Rc.run tb_221 1 (pc' := 34) (ls' := [some (.ref (77)), some (.int (x1)), some (.int (x2)), some (.int (x3)), none]) (st' := [.int (0), .ref (78), .int (x3)]) rfl rfl ?_
  refine Rc.iald tb_221 rfl rfl ia_78 (by decide) ?_
  refine Rc.icmp_ge (pc1 := 95) tb_221 rfl rfl (by decide) (by decide) (fun hb12 => ?_) (fun hb12 => ?_)
  · rw [if_pos hb12] at h
    refine Rc.mask (b := 7) ((tb_221.2 95).trans rfl) (ls' := [some (.ref (77)), some (.int (x1)), some (.int (x2)), none, none]) rfl ?_
    obtain rfl := Option.some.inj h
    exact hE _ rfl
  · rw [if_neg hb12] at h
    refine Rc.run tb_221 2 (pc' := 41) (ls' := [some (.ref (77)), some (.int (x1)), some (.int (x2)), some (.int (x3)), some (.int (0))]) (st' := []) rfl rfl ?_
    refine Rc.mask (b := 31) ((tb_221.2 41).trans rfl) (ls' := [some (.ref (77)), some (.int (x1)), some (.int (x2)), some (.int (x3)), some (.int (0))]) rfl ?_
    cases hl11 : L_221_41 x1 x2 x3 0 M with
    | none => rw [hl11] at h; cases h
    | some r11 =>
      obtain ⟨x4_11, M11⟩ := r11
      rw [hl11] at h
      dsimp only at h
      refine TL_221_41 (X := X) (d := d + 1) (by omega) hl11 ?_
      refine Rc.mask (b := 15) ((tb_221.2 89).trans rfl) (ls' := [some (.ref (77)), some (.int (x1)), some (.int (x2)), some (.int (x3)), none]) rfl ?_
      exact TJ_221_89_28 (X := X) (d := d + 1) (by omega) h hP hE
theorem TL_221_28 {X : AX} {d : Nat} (hd : 5 ≤ d) {x1 : Int32} {x2 : Int32} {x3 : Int32} {M : IM} {v : Option Value} {M' : IM} {r : Int32 × IM} (h : L_221_28 x1 x2 x3 M = some r) (hE : (fun (x3, M) => Rc X d 221 95 [some (.ref (77)), some (.int (x1)), some (.int (x2)), none, none] [] M v M') r) : Rc X d 221 28 [some (.ref (77)), some (.int (x1)), some (.int (x2)), some (.int (x3)), none] [] M v M' := by
  exact loopN_rc (P := fun (x3, M) => Rc X d 221 28 [some (.ref (77)), some (.int (x1)), some (.int (x2)), some (.int (x3)), none] [] M v M') (E := fun (x3, M) => Rc X d 221 95 [some (.ref (77)), some (.int (x1)), some (.int (x2)), none, none] [] M v M') (TB_221_28 (X := X) hd) FU _ r h hE
theorem TJ_221_95_6 {X : AX} {d : Nat} (hd : 5 ≤ d) {x1 : Int32} {x2 : Int32} {M : IM} {v : Option Value} {M' : IM} {o : (Int32 × IM) ⊕ (Int32 × IM)} (h : J_221_95_6 x1 x2 M = some o) (hP : ∀ s', o = .inl s' → (fun (x2, M) => Rc X d 221 6 [some (.ref (77)), some (.int (x1)), some (.int (x2)), none, none] [] M v M') s') (hE : ∀ r, o = .inr r → (fun (x2, M) => Rc X d 221 98 [none, none, none, none, none] [] M v M') r) : Rc X d 221 95 [some (.ref (77)), some (.int (x1)), some (.int (x2)), none, none] [] M v M' := by
  obtain ⟨d, rfl⟩ : ∃ e, d = e + 1 := ⟨d - 1, by omega⟩
  unfold J_221_95_6 at h
  dsimp only at hP hE
  refine Rc.run tb_221 1 (pc' := 6) (ls' := [some (.ref (77)), some (.int (x1)), some (.int (x2)), none, none]) (st' := []) rfl rfl ?_
  refine Rc.mask (b := 7) ((tb_221.2 6).trans rfl) (ls' := [some (.ref (77)), some (.int (x1)), some (.int (x2)), none, none]) rfl ?_
  obtain rfl := Option.some.inj h
  exact hP _ rfl
theorem TB_221_6 {X : AX} {d : Nat} (hd : 5 ≤ d) {x1 : Int32} {v : Option Value} {M' : IM} : ∀ (s : Int32 × IM) (o : (Int32 × IM) ⊕ (Int32 × IM)), B_221_6 x1 s = some o → (∀ s', o = .inl s' → (fun (x2, M) => Rc X d 221 6 [some (.ref (77)), some (.int (x1)), some (.int (x2)), none, none] [] M v M') s') → (∀ r, o = .inr r → (fun (x2, M) => Rc X d 221 98 [none, none, none, none, none] [] M v M') r) → (fun (x2, M) => Rc X d 221 6 [some (.ref (77)), some (.int (x1)), some (.int (x2)), none, none] [] M v M') s := by
  rintro ⟨x2, M⟩ o h hP hE
  show Rc X d 221 6 [some (.ref (77)), some (.int (x1)), some (.int (x2)), none, none] [] M v M'
  obtain ⟨d, rfl⟩ : ∃ e, d = e + 1 := ⟨d - 1, by omega⟩
  unfold B_221_6 at h
  dsimp only at h hP hE
  refine Rc.run tb_221 2 (pc' := 8) (ls' := [some (.ref (77)), some (.int (x1)), some (.int (x2)), none, none]) (st' := [.ref (77), .int (x2)]) rfl rfl ?_
  refine Rc.getI tb_221 rfl rfl ob_77 (by decide +kernel) tg_77_25 ?_
  refine Rc.icmp_eq (pc1 := 98) tb_221 rfl rfl (by decide) (by decide) (fun hb16 => ?_) (fun hb16 => ?_)
  · rw [if_pos hb16] at h
    refine Rc.mask (b := 0) ((tb_221.2 98).trans rfl) (ls' := [none, none, none, none, none]) rfl ?_
    obtain rfl := Option.some.inj h
    exact hE _ rfl
  · rw [if_neg hb16] at h
    refine Rc.run tb_221 1 (pc' := 15) (ls' := [some (.ref (77)), some (.int (x1)), some (.int (x2)), none, none]) (st' := [.ref (77)]) rfl rfl ?_
    cases hc2 : F_218 M with
    | none => rw [hc2] at h; cases h
    | some c2 =>
      rw [hc2] at h
      dsimp only at h
      have hq2 := T_218 (X := X) (d := d) (by omega) (M := M) hc2
      have hz2 := Rc.bool mR_218 hq2
      refine Rc.callV tb_221 rfl rfl rfl mS_218 mP_218 mL_218 mO_218 rfl rfl ob_77 rfl rfl hq2 ?_
      refine Rc.if_ne (pc1 := 98) tb_221 rfl rfl (by decide) (by decide) (fun hb15 => ?_) (fun hb15 => ?_)
      · rw [if_pos hb15] at h
        refine Rc.run tb_221 1 (pc' := 22) (ls' := [some (.ref (77)), some (.int (x1)), some (.int (x2)), none, none]) (st' := [.ref (77)]) rfl rfl ?_
        refine Rc.getI tb_221 rfl rfl ob_77 (by decide +kernel) tg_77_25 ?_
        refine Rc.run tb_221 3 (pc' := 28) (ls' := [some (.ref (77)), some (.int (x1)), some (.int (M 77 25)), some (.int (0)), none]) (st' := []) rfl rfl ?_
        refine Rc.mask (b := 15) ((tb_221.2 28).trans rfl) (ls' := [some (.ref (77)), some (.int (x1)), some (.int (M 77 25)), some (.int (0)), none]) rfl ?_
        cases hl14 : L_221_28 x1 (M 77 25) 0 M with
        | none => rw [hl14] at h; cases h
        | some r14 =>
          obtain ⟨x3_14, M14⟩ := r14
          rw [hl14] at h
          dsimp only at h
          refine TL_221_28 (X := X) (d := d + 1) (by omega) hl14 ?_
          refine Rc.mask (b := 7) ((tb_221.2 95).trans rfl) (ls' := [some (.ref (77)), some (.int (x1)), some (.int (M 77 25)), none, none]) rfl ?_
          exact TJ_221_95_6 (X := X) (d := d + 1) (by omega) h hP hE
      · rw [if_neg hb15] at h
        refine Rc.mask (b := 0) ((tb_221.2 98).trans rfl) (ls' := [none, none, none, none, none]) rfl ?_
        obtain rfl := Option.some.inj h
        exact hE _ rfl
theorem TL_221_6 {X : AX} {d : Nat} (hd : 5 ≤ d) {x1 : Int32} {x2 : Int32} {M : IM} {v : Option Value} {M' : IM} {r : Int32 × IM} (h : L_221_6 x1 x2 M = some r) (hE : (fun (x2, M) => Rc X d 221 98 [none, none, none, none, none] [] M v M') r) : Rc X d 221 6 [some (.ref (77)), some (.int (x1)), some (.int (x2)), none, none] [] M v M' := by
  exact loopN_rc (P := fun (x2, M) => Rc X d 221 6 [some (.ref (77)), some (.int (x1)), some (.int (x2)), none, none] [] M v M') (E := fun (x2, M) => Rc X d 221 98 [none, none, none, none, none] [] M v M') (TB_221_6 (X := X) hd) FU _ r h hE
theorem TF_221 {X : AX} {d : Nat} (hd : 5 ≤ d) {a1 : Int32} {M : IM} {v : Option Value} {M' : IM} {o : IM} (h : F_221 a1 M = some o) (hC : v = none ∧ M' = o) : Rc X d 221 0 [some (.ref (77)), some (.int (a1)), none, none, none] [] M v M' := by
  obtain ⟨d, rfl⟩ : ∃ e, d = e + 1 := ⟨d - 1, by omega⟩
  unfold F_221 at h
  refine Rc.run tb_221 1 (pc' := 1) (ls' := [some (.ref (77)), some (.int (a1)), none, none, none]) (st' := [.ref (77)]) rfl rfl ?_
  cases hc1 : F_219 M with
  | none => rw [hc1] at h; cases h
  | some M1 =>
    rw [hc1] at h
    dsimp only at h
    have hq1 := T_219 (X := X) (d := d) (by omega) (M := M) hc1
    refine Rc.callV tb_221 rfl rfl rfl mS_219 mP_219 mL_219 mO_219 rfl rfl ob_77 rfl rfl hq1 ?_
    refine Rc.run tb_221 2 (pc' := 6) (ls' := [some (.ref (77)), some (.int (a1)), some (.int ((-1))), none, none]) (st' := []) rfl rfl ?_
    refine Rc.mask (b := 7) ((tb_221.2 6).trans rfl) (ls' := [some (.ref (77)), some (.int (a1)), some (.int ((-1))), none, none]) rfl ?_
    cases hl17 : L_221_6 a1 (-1) M1 with
    | none => rw [hl17] at h; cases h
    | some r17 =>
      obtain ⟨x2_17, M17⟩ := r17
      rw [hl17] at h
      dsimp only at h
      refine TL_221_6 (X := X) (d := d + 1) (by omega) hl17 ?_
      obtain rfl := Option.some.inj h
      obtain ⟨rfl, rfl⟩ := hC
      exact Rc.vret tb_221 rfl mR_221
theorem T_221 {X : AX} {d : Nat} (hd : 5 ≤ d) {a1 : Int32} {M : IM} {M1 : IM} (h : F_221 a1 M = some M1) : Rc X d 221 0 [some (.ref (77)), some (.int (a1)), none, none, none] [] M none M1 := TF_221 hd h ⟨rfl, rfl⟩
/-! 222: NineDemandsModel.show -/
def J_222_14 (M : IM) : Option (Int32 × IM) := (match F_156 ((-1000001) : Int32) M with | none => none | some (c2, M2) => (some ((c2, M2))))
def F_222 (a1 : Int32) (a2 : Int32) (M : IM) : Option (Int32 × IM) := if F_161 a1 M = 0 then (J_222_14 M) else (if ((-2) : Int32) ≤ a2 then (match F_221 a1 M with | none => none | some M3 => (if (0 : Int32) ≤ a2 then (if M3 77 25 ≤ a2 then (match F_156 ((-1000002) : Int32) M3 with | none => none | some (c4, M4) => (some ((c4, M4)))) else (if inb a2 36 = true then (some ((M3 92 a2.toNatClampNeg, M3))) else none)) else (if a2 = (-1) then (some ((M3 77 25, M3))) else (match F_218 M3 with | none => none | some c7 => (if c7 = 0 then (some ((0, M3))) else (some ((1, M3)))))))) else (J_222_14 M))
theorem TJ_222_14 {X : AX} {d : Nat} (hd : 6 ≤ d) {M : IM} {v : Option Value} {M' : IM} {o : Int32 × IM} (h : J_222_14 M = some o) (hC : v = some (.int o.1) ∧ M' = o.2) : Rc X d 222 14 [some (.ref (77)), none, none] [] M v M' := by
  obtain ⟨d, rfl⟩ : ∃ e, d = e + 1 := ⟨d - 1, by omega⟩
  unfold J_222_14 at h
  refine Rc.run tb_222 2 (pc' := 17) (ls' := [some (.ref (77)), none, none]) (st' := [.int ((-1000001)), .ref (77)]) rfl rfl ?_
  cases hc2 : F_156 ((-1000001) : Int32) M with
  | none => rw [hc2] at h; cases h
  | some r2 =>
    obtain ⟨c2, M2⟩ := r2
    rw [hc2] at h
    dsimp only at h
    have hq2 := T_156 (X := X) (d := d) (by omega) (M := M) hc2
    refine Rc.callV tb_222 rfl rfl rfl mS_156 mP_156 mL_156 mO_156 rfl rfl ob_77 rfl rfl hq2 ?_
    obtain rfl := Option.some.inj h
    obtain ⟨rfl, rfl⟩ := hC
    exact Rc.iret (ins := .ireturn) tb_222 rfl mR_222
theorem TF_222 {X : AX} {d : Nat} (hd : 6 ≤ d) {a1 : Int32} {a2 : Int32} {M : IM} {v : Option Value} {M' : IM} {o : Int32 × IM} (h : F_222 a1 a2 M = some o) (hC : v = some (.int o.1) ∧ M' = o.2) : Rc X d 222 0 [some (.ref (77)), some (.int (a1)), some (.int (a2))] [] M v M' := by
  obtain ⟨d, rfl⟩ : ∃ e, d = e + 1 := ⟨d - 1, by omega⟩
  unfold F_222 at h
  refine Rc.run tb_222 2 (pc' := 2) (ls' := [some (.ref (77)), some (.int (a1)), some (.int (a2))]) (st' := [.int (a1), .ref (77)]) rfl rfl ?_
  have hq1 := T_161 (X := X) (d := d) (by omega) a1 M
  have hz1 := Rc.bool mR_161 hq1
  refine Rc.callV tb_222 rfl rfl rfl mS_161 mP_161 mL_161 mO_161 rfl rfl ob_77 rfl rfl hq1 ?_
  refine Rc.if_eq (pc1 := 14) tb_222 rfl rfl (by decide) (by decide) (fun hb12 => ?_) (fun hb12 => ?_)
  · rw [if_pos hb12] at h
    refine Rc.mask (b := 1) ((tb_222.2 14).trans rfl) (ls' := [some (.ref (77)), none, none]) rfl ?_
    exact TJ_222_14 (X := X) (d := d + 1) (by omega) h hC
  · rw [if_neg hb12] at h
    refine Rc.run tb_222 2 (pc' := 11) (ls' := [some (.ref (77)), some (.int (a1)), some (.int (a2))]) (st' := [.int ((-2)), .int (a2)]) rfl rfl ?_
    refine Rc.icmp_ge (pc1 := 21) tb_222 rfl rfl (by decide) (by decide) (fun hb11 => ?_) (fun hb11 => ?_)
    · rw [if_pos hb11] at h
      refine Rc.run tb_222 2 (pc' := 23) (ls' := [some (.ref (77)), some (.int (a1)), some (.int (a2))]) (st' := [.int (a1), .ref (77)]) rfl rfl ?_
      cases hc3 : F_221 a1 M with
      | none => rw [hc3] at h; cases h
      | some M3 =>
        rw [hc3] at h
        dsimp only at h
        have hq3 := T_221 (X := X) (d := d) (by omega) (M := M) hc3
        refine Rc.callV tb_222 rfl rfl rfl mS_221 mP_221 mL_221 mO_221 rfl rfl ob_77 rfl rfl hq3 ?_
        refine Rc.run tb_222 1 (pc' := 27) (ls' := [some (.ref (77)), some (.int (a1)), some (.int (a2))]) (st' := [.int (a2)]) rfl rfl ?_
        refine Rc.if_ge (pc1 := 55) tb_222 rfl rfl (by decide) (by decide) (fun hb10 => ?_) (fun hb10 => ?_)
        · rw [if_pos hb10] at h
          refine Rc.run tb_222 2 (pc' := 57) (ls' := [some (.ref (77)), some (.int (a1)), some (.int (a2))]) (st' := [.ref (77), .int (a2)]) rfl rfl ?_
          refine Rc.getI tb_222 rfl rfl ob_77 (by decide +kernel) tg_77_25 ?_
          refine Rc.icmp_ge (pc1 := 72) tb_222 rfl rfl (by decide) (by decide) (fun hb6 => ?_) (fun hb6 => ?_)
          · rw [if_pos hb6] at h
            refine Rc.run tb_222 2 (pc' := 75) (ls' := [some (.ref (77)), some (.int (a1)), some (.int (a2))]) (st' := [.int ((-1000002)), .ref (77)]) rfl rfl ?_
            cases hc4 : F_156 ((-1000002) : Int32) M3 with
            | none => rw [hc4] at h; cases h
            | some r4 =>
              obtain ⟨c4, M4⟩ := r4
              rw [hc4] at h
              dsimp only at h
              have hq4 := T_156 (X := X) (d := d) (by omega) (M := M3) hc4
              refine Rc.callV tb_222 rfl rfl rfl mS_156 mP_156 mL_156 mO_156 rfl rfl ob_77 rfl rfl hq4 ?_
              obtain rfl := Option.some.inj h
              obtain ⟨rfl, rfl⟩ := hC
              exact Rc.iret (ins := .ireturn) tb_222 rfl mR_222
          · rw [if_neg hb6] at h
            refine Rc.run tb_222 1 (pc' := 64) (ls' := [some (.ref (77)), some (.int (a1)), some (.int (a2))]) (st' := [.ref (77)]) rfl rfl ?_
            refine Rc.getR tb_222 rfl rfl ob_77 (by decide +kernel) tg_77_24 (by decide) ?_
            refine Rc.run tb_222 1 (pc' := 68) (ls' := [some (.ref (77)), some (.int (a1)), some (.int (a2))]) (st' := [.int (a2), .ref (92)]) rfl rfl ?_
            by_cases hb5 : inb a2 36 = true
            · rw [if_pos hb5] at h
              refine Rc.iald tb_222 rfl rfl ia_92 hb5 ?_
              refine Rc.run tb_222 1 (pc' := 78) (ls' := [some (.ref (77)), some (.int (a1)), some (.int (a2))]) (st' := [.int (M3 92 a2.toNatClampNeg)]) rfl rfl ?_
              obtain rfl := Option.some.inj h
              obtain ⟨rfl, rfl⟩ := hC
              exact Rc.iret (ins := .ireturn) tb_222 rfl mR_222
            · rw [if_neg hb5] at h
              cases h
        · rw [if_neg hb10] at h
          refine Rc.run tb_222 2 (pc' := 32) (ls' := [some (.ref (77)), some (.int (a1)), some (.int (a2))]) (st' := [.int ((-1)), .int (a2)]) rfl rfl ?_
          refine Rc.icmp_ne (pc1 := 42) tb_222 rfl rfl (by decide) (by decide) (fun hb9 => ?_) (fun hb9 => ?_)
          · rw [if_pos hb9] at h
            refine Rc.run tb_222 1 (pc' := 36) (ls' := [some (.ref (77)), some (.int (a1)), some (.int (a2))]) (st' := [.ref (77)]) rfl rfl ?_
            refine Rc.getI tb_222 rfl rfl ob_77 (by decide +kernel) tg_77_25 ?_
            refine Rc.run tb_222 1 (pc' := 54) (ls' := [some (.ref (77)), some (.int (a1)), some (.int (a2))]) (st' := [.int (M3 77 25)]) rfl rfl ?_
            obtain rfl := Option.some.inj h
            obtain ⟨rfl, rfl⟩ := hC
            exact Rc.iret (ins := .ireturn) tb_222 rfl mR_222
          · rw [if_neg hb9] at h
            refine Rc.run tb_222 1 (pc' := 43) (ls' := [some (.ref (77)), some (.int (a1)), some (.int (a2))]) (st' := [.ref (77)]) rfl rfl ?_
            cases hc7 : F_218 M3 with
            | none => rw [hc7] at h; cases h
            | some c7 =>
              rw [hc7] at h
              dsimp only at h
              have hq7 := T_218 (X := X) (d := d) (by omega) (M := M3) hc7
              have hz7 := Rc.bool mR_218 hq7
              refine Rc.callV tb_222 rfl rfl rfl mS_218 mP_218 mL_218 mO_218 rfl rfl ob_77 rfl rfl hq7 ?_
              refine Rc.if_eq (pc1 := 53) tb_222 rfl rfl (by decide) (by decide) (fun hb8 => ?_) (fun hb8 => ?_)
              · rw [if_pos hb8] at h
                refine Rc.run tb_222 1 (pc' := 54) (ls' := [some (.ref (77)), some (.int (a1)), some (.int (a2))]) (st' := [.int (0)]) rfl rfl ?_
                obtain rfl := Option.some.inj h
                obtain ⟨rfl, rfl⟩ := hC
                exact Rc.iret (ins := .ireturn) tb_222 rfl mR_222
              · rw [if_neg hb8] at h
                refine Rc.run tb_222 2 (pc' := 54) (ls' := [some (.ref (77)), some (.int (a1)), some (.int (a2))]) (st' := [.int (1)]) rfl rfl ?_
                obtain rfl := Option.some.inj h
                obtain ⟨rfl, rfl⟩ := hC
                exact Rc.iret (ins := .ireturn) tb_222 rfl mR_222
    · rw [if_neg hb11] at h
      refine Rc.mask (b := 1) ((tb_222.2 14).trans rfl) (ls' := [some (.ref (77)), none, none]) rfl ?_
      exact TJ_222_14 (X := X) (d := d + 1) (by omega) h hC
theorem T_222 {X : AX} {d : Nat} (hd : 6 ≤ d) {a1 : Int32} {a2 : Int32} {M : IM} {x : Int32} {M1 : IM} (h : F_222 a1 a2 M = some (x, M1)) : Rc X d 222 0 [some (.ref (77)), some (.int (a1)), some (.int (a2))] [] M (some (.int x)) M1 := TF_222 hd h ⟨rfl, rfl⟩
/-! 223: NineDemandsModel.followsNow -/
def J_223_136_66 (x3 : Int32) (x4 : Int32) (x5 : Int32) (x7 : Int32) (s0 : Int32) (M : IM) : Option ((Int32 × Int32) ⊕ (Int32 × Int32)) := some (Sum.inl (s0, x7 + 1))
def J_223_131_66 (x3 : Int32) (x4 : Int32) (x5 : Int32) (x7 : Int32) (M : IM) : Option ((Int32 × Int32) ⊕ (Int32 × Int32)) := J_223_136_66 x3 x4 x5 x7 (1 : Int32) M
def J_223_135_66 (x3 : Int32) (x4 : Int32) (x5 : Int32) (x7 : Int32) (M : IM) : Option ((Int32 × Int32) ⊕ (Int32 × Int32)) := J_223_136_66 x3 x4 x5 x7 (0 : Int32) M
def J_223_106_66 (x3 : Int32) (x4 : Int32) (x5 : Int32) (x7 : Int32) (M : IM) : Option ((Int32 × Int32) ⊕ (Int32 × Int32)) := (match F_196 x3 x7 M with | none => none | some c7 => (if c7 = x4 then (match F_217 x3 x7 (1 : Int32) x5 M with | none => none | some c8 => (if c8 = 0 then (J_223_131_66 x3 x4 x5 x7 M) else (J_223_135_66 x3 x4 x5 x7 M))) else (J_223_135_66 x3 x4 x5 x7 M)))
def B_223_66 (x3 : Int32) (x4 : Int32) (x5 : Int32) (M : IM) : (Int32 × Int32) → Option ((Int32 × Int32) ⊕ (Int32 × Int32)) := fun (x6, x7) => (match F_164 x3 M with | none => none | some c4 => (if c4 ≤ x7 then (some (Sum.inr (x6, x7))) else (if x6 = 0 then (match F_195 x3 x7 M with | none => none | some c5 => (if c5 = x4 then (match F_217 x3 x7 (0 : Int32) x5 M with | none => none | some c6 => (if c6 = 0 then (J_223_131_66 x3 x4 x5 x7 M) else (J_223_106_66 x3 x4 x5 x7 M))) else (J_223_106_66 x3 x4 x5 x7 M))) else (J_223_131_66 x3 x4 x5 x7 M))))
def L_223_66 (x3 : Int32) (x4 : Int32) (x5 : Int32) (M : IM) (x6 : Int32) (x7 : Int32) : Option (Int32 × Int32) := loopN (B_223_66 x3 x4 x5 M) FU (x6, x7)
def F_223 (a1 : Int32) (a2 : Int32) (M : IM) : Option (Int32) := if a2 < 0 then (some (0)) else (if F_160 (a2 / 48) M = 0 then (some (0)) else (if F_162 a1 (a2 / 48) = 0 then (some (0)) else (if a2 - a2 / 4 * 4 = 0 then (some (0)) else (if inb ((a2 - a2 / 48 * 48) / 4) 12 = true then (if F_162 (M 91 ((a2 - a2 / 48 * 48) / 4).toNatClampNeg) (a2 - a2 / 4 * 4) = 0 then (some (0)) else (match L_223_66 (a2 / 48) ((a2 - a2 / 48 * 48) / 4) (a2 - a2 / 4 * 4) M 0 0 with | none => none | some (x6_15, x7_15) => (some (x6_15)))) else none))))
theorem TJ_223_136_66 {X : AX} {d : Nat} (hd : 4 ≤ d) {x3 : Int32} {x4 : Int32} {x5 : Int32} {x7 : Int32} {s0 : Int32} {M : IM} (hs0 : s0 = 0 ∨ s0 = 1) {v : Option Value} {M' : IM} {o : (Int32 × Int32) ⊕ (Int32 × Int32)} (h : J_223_136_66 x3 x4 x5 x7 s0 M = some o) (hP : ∀ s', o = .inl s' → (fun (x6, x7) => (x6 = 0 ∨ x6 = 1) → Rc X d 223 66 [some (.ref (77)), none, none, some (.int (x3)), some (.int (x4)), some (.int (x5)), some (.int (x6)), some (.int (x7))] [] M v M') s') (hE : ∀ r, o = .inr r → (fun (x6, x7) => (x6 = 0 ∨ x6 = 1) → Rc X d 223 144 [none, none, none, none, none, none, some (.int (x6)), none] [] M v M') r) : Rc X d 223 136 [some (.ref (77)), none, none, some (.int (x3)), some (.int (x4)), some (.int (x5)), none, some (.int (x7))] [.int (s0)] M v M' := by
  obtain ⟨d, rfl⟩ : ∃ e, d = e + 1 := ⟨d - 1, by omega⟩
  unfold J_223_136_66 at h
  dsimp only at hP hE
  refine Rc.run tb_223 3 (pc' := 66) (ls' := [some (.ref (77)), none, none, some (.int (x3)), some (.int (x4)), some (.int (x5)), some (.int (s0)), some (.int (x7 + 1))]) (st' := []) rfl rfl ?_
  refine Rc.mask (b := 249) ((tb_223.2 66).trans rfl) (ls' := [some (.ref (77)), none, none, some (.int (x3)), some (.int (x4)), some (.int (x5)), some (.int (s0)), some (.int (x7 + 1))]) rfl ?_
  obtain rfl := Option.some.inj h
  exact hP _ rfl hs0
theorem TJ_223_131_66 {X : AX} {d : Nat} (hd : 4 ≤ d) {x3 : Int32} {x4 : Int32} {x5 : Int32} {x7 : Int32} {M : IM} {v : Option Value} {M' : IM} {o : (Int32 × Int32) ⊕ (Int32 × Int32)} (h : J_223_131_66 x3 x4 x5 x7 M = some o) (hP : ∀ s', o = .inl s' → (fun (x6, x7) => (x6 = 0 ∨ x6 = 1) → Rc X d 223 66 [some (.ref (77)), none, none, some (.int (x3)), some (.int (x4)), some (.int (x5)), some (.int (x6)), some (.int (x7))] [] M v M') s') (hE : ∀ r, o = .inr r → (fun (x6, x7) => (x6 = 0 ∨ x6 = 1) → Rc X d 223 144 [none, none, none, none, none, none, some (.int (x6)), none] [] M v M') r) : Rc X d 223 131 [some (.ref (77)), none, none, some (.int (x3)), some (.int (x4)), some (.int (x5)), none, some (.int (x7))] [] M v M' := by
  obtain ⟨d, rfl⟩ : ∃ e, d = e + 1 := ⟨d - 1, by omega⟩
  unfold J_223_131_66 at h
  dsimp only at hP hE
  refine Rc.run tb_223 2 (pc' := 136) (ls' := [some (.ref (77)), none, none, some (.int (x3)), some (.int (x4)), some (.int (x5)), none, some (.int (x7))]) (st' := [.int (1)]) rfl rfl ?_
  refine Rc.mask (b := 185) ((tb_223.2 136).trans rfl) (ls' := [some (.ref (77)), none, none, some (.int (x3)), some (.int (x4)), some (.int (x5)), none, some (.int (x7))]) rfl ?_
  exact TJ_223_136_66 (X := X) (d := d + 1) (by omega) (Or.inr rfl) h hP hE
theorem TJ_223_135_66 {X : AX} {d : Nat} (hd : 4 ≤ d) {x3 : Int32} {x4 : Int32} {x5 : Int32} {x7 : Int32} {M : IM} {v : Option Value} {M' : IM} {o : (Int32 × Int32) ⊕ (Int32 × Int32)} (h : J_223_135_66 x3 x4 x5 x7 M = some o) (hP : ∀ s', o = .inl s' → (fun (x6, x7) => (x6 = 0 ∨ x6 = 1) → Rc X d 223 66 [some (.ref (77)), none, none, some (.int (x3)), some (.int (x4)), some (.int (x5)), some (.int (x6)), some (.int (x7))] [] M v M') s') (hE : ∀ r, o = .inr r → (fun (x6, x7) => (x6 = 0 ∨ x6 = 1) → Rc X d 223 144 [none, none, none, none, none, none, some (.int (x6)), none] [] M v M') r) : Rc X d 223 135 [some (.ref (77)), none, none, some (.int (x3)), some (.int (x4)), some (.int (x5)), none, some (.int (x7))] [] M v M' := by
  obtain ⟨d, rfl⟩ : ∃ e, d = e + 1 := ⟨d - 1, by omega⟩
  unfold J_223_135_66 at h
  dsimp only at hP hE
  refine Rc.run tb_223 1 (pc' := 136) (ls' := [some (.ref (77)), none, none, some (.int (x3)), some (.int (x4)), some (.int (x5)), none, some (.int (x7))]) (st' := [.int (0)]) rfl rfl ?_
  refine Rc.mask (b := 185) ((tb_223.2 136).trans rfl) (ls' := [some (.ref (77)), none, none, some (.int (x3)), some (.int (x4)), some (.int (x5)), none, some (.int (x7))]) rfl ?_
  exact TJ_223_136_66 (X := X) (d := d + 1) (by omega) (Or.inl rfl) h hP hE
theorem TJ_223_106_66 {X : AX} {d : Nat} (hd : 4 ≤ d) {x3 : Int32} {x4 : Int32} {x5 : Int32} {x7 : Int32} {M : IM} {v : Option Value} {M' : IM} {o : (Int32 × Int32) ⊕ (Int32 × Int32)} (h : J_223_106_66 x3 x4 x5 x7 M = some o) (hP : ∀ s', o = .inl s' → (fun (x6, x7) => (x6 = 0 ∨ x6 = 1) → Rc X d 223 66 [some (.ref (77)), none, none, some (.int (x3)), some (.int (x4)), some (.int (x5)), some (.int (x6)), some (.int (x7))] [] M v M') s') (hE : ∀ r, o = .inr r → (fun (x6, x7) => (x6 = 0 ∨ x6 = 1) → Rc X d 223 144 [none, none, none, none, none, none, some (.int (x6)), none] [] M v M') r) : Rc X d 223 106 [some (.ref (77)), none, none, some (.int (x3)), some (.int (x4)), some (.int (x5)), none, some (.int (x7))] [] M v M' := by
  obtain ⟨d, rfl⟩ : ∃ e, d = e + 1 := ⟨d - 1, by omega⟩
  unfold J_223_106_66 at h
  dsimp only at hP hE
  refine Rc.run tb_223 3 (pc' := 110) (ls' := [some (.ref (77)), none, none, some (.int (x3)), some (.int (x4)), some (.int (x5)), none, some (.int (x7))]) (st' := [.int (x7), .int (x3), .ref (77)]) rfl rfl ?_
  cases hc7 : F_196 x3 x7 M with
  | none => rw [hc7] at h; cases h
  | some c7 =>
    rw [hc7] at h
    dsimp only at h
    have hq7 := T_196 (X := X) (d := d) (by omega) (M := M) hc7
    refine Rc.callV tb_223 rfl rfl rfl mS_196 mP_196 mL_196 mO_196 rfl rfl ob_77 rfl rfl hq7 ?_
    refine Rc.run tb_223 1 (pc' := 115) (ls' := [some (.ref (77)), none, none, some (.int (x3)), some (.int (x4)), some (.int (x5)), none, some (.int (x7))]) (st' := [.int (x4), .int (c7)]) rfl rfl ?_
    refine Rc.icmp_ne (pc1 := 135) tb_223 rfl rfl (by decide) (by decide) (fun hb10 => ?_) (fun hb10 => ?_)
    · rw [if_pos hb10] at h
      refine Rc.run tb_223 5 (pc' := 125) (ls' := [some (.ref (77)), none, none, some (.int (x3)), some (.int (x4)), some (.int (x5)), none, some (.int (x7))]) (st' := [.int (x5), .int (1), .int (x7), .int (x3), .ref (77)]) rfl rfl ?_
      cases hc8 : F_217 x3 x7 (1 : Int32) x5 M with
      | none => rw [hc8] at h; cases h
      | some c8 =>
        rw [hc8] at h
        dsimp only at h
        have hq8 := T_217 (X := X) (d := d) (by omega) (M := M) hc8
        have hz8 := Rc.bool mR_217 hq8
        refine Rc.callV tb_223 rfl rfl rfl mS_217 mP_217 mL_217 mO_217 rfl rfl ob_77 rfl rfl hq8 ?_
        refine Rc.if_ne (pc1 := 135) tb_223 rfl rfl (by decide) (by decide) (fun hb9 => ?_) (fun hb9 => ?_)
        · rw [if_pos hb9] at h
          refine Rc.mask (b := 185) ((tb_223.2 131).trans rfl) (ls' := [some (.ref (77)), none, none, some (.int (x3)), some (.int (x4)), some (.int (x5)), none, some (.int (x7))]) rfl ?_
          exact TJ_223_131_66 (X := X) (d := d + 1) (by omega) h hP hE
        · rw [if_neg hb9] at h
          refine Rc.mask (b := 185) ((tb_223.2 135).trans rfl) (ls' := [some (.ref (77)), none, none, some (.int (x3)), some (.int (x4)), some (.int (x5)), none, some (.int (x7))]) rfl ?_
          exact TJ_223_135_66 (X := X) (d := d + 1) (by omega) h hP hE
    · rw [if_neg hb10] at h
      refine Rc.mask (b := 185) ((tb_223.2 135).trans rfl) (ls' := [some (.ref (77)), none, none, some (.int (x3)), some (.int (x4)), some (.int (x5)), none, some (.int (x7))]) rfl ?_
      exact TJ_223_135_66 (X := X) (d := d + 1) (by omega) h hP hE
theorem TB_223_66 {X : AX} {d : Nat} (hd : 4 ≤ d) {x3 : Int32} {x4 : Int32} {x5 : Int32} {M : IM} {v : Option Value} {M' : IM} : ∀ (s : Int32 × Int32) (o : (Int32 × Int32) ⊕ (Int32 × Int32)), B_223_66 x3 x4 x5 M s = some o → (∀ s', o = .inl s' → (fun (x6, x7) => (x6 = 0 ∨ x6 = 1) → Rc X d 223 66 [some (.ref (77)), none, none, some (.int (x3)), some (.int (x4)), some (.int (x5)), some (.int (x6)), some (.int (x7))] [] M v M') s') → (∀ r, o = .inr r → (fun (x6, x7) => (x6 = 0 ∨ x6 = 1) → Rc X d 223 144 [none, none, none, none, none, none, some (.int (x6)), none] [] M v M') r) → (fun (x6, x7) => (x6 = 0 ∨ x6 = 1) → Rc X d 223 66 [some (.ref (77)), none, none, some (.int (x3)), some (.int (x4)), some (.int (x5)), some (.int (x6)), some (.int (x7))] [] M v M') s := by
  rintro ⟨x6, x7⟩ o h hP hE
  intro hx6
  show Rc X d 223 66 [some (.ref (77)), none, none, some (.int (x3)), some (.int (x4)), some (.int (x5)), some (.int (x6)), some (.int (x7))] [] M v M'
  obtain ⟨d, rfl⟩ : ∃ e, d = e + 1 := ⟨d - 1, by omega⟩
  unfold B_223_66 at h
  dsimp only at h hP hE
  refine Rc.run tb_223 3 (pc' := 70) (ls' := [some (.ref (77)), none, none, some (.int (x3)), some (.int (x4)), some (.int (x5)), some (.int (x6)), some (.int (x7))]) (st' := [.int (x3), .ref (77), .int (x7)]) rfl rfl ?_
  cases hc4 : F_164 x3 M with
  | none => rw [hc4] at h; cases h
  | some c4 =>
    rw [hc4] at h
    dsimp only at h
    have hq4 := T_164 (X := X) (d := d) (by omega) (M := M) hc4
    refine Rc.callV tb_223 rfl rfl rfl mS_164 mP_164 mL_164 mO_164 rfl rfl ob_77 rfl rfl hq4 ?_
    refine Rc.icmp_ge (pc1 := 144) tb_223 rfl rfl (by decide) (by decide) (fun hb14 => ?_) (fun hb14 => ?_)
    · rw [if_pos hb14] at h
      refine Rc.mask (b := 64) ((tb_223.2 144).trans rfl) (ls' := [none, none, none, none, none, none, some (.int (x6)), none]) rfl ?_
      obtain rfl := Option.some.inj h
      exact hE _ rfl hx6
    · rw [if_neg hb14] at h
      refine Rc.run tb_223 1 (pc' := 78) (ls' := [some (.ref (77)), none, none, some (.int (x3)), some (.int (x4)), some (.int (x5)), some (.int (x6)), some (.int (x7))]) (st' := [.int (x6)]) rfl rfl ?_
      refine Rc.if_ne (pc1 := 131) tb_223 rfl rfl (by decide) (by decide) (fun hb13 => ?_) (fun hb13 => ?_)
      · rw [if_pos hb13] at h
        refine Rc.run tb_223 3 (pc' := 85) (ls' := [some (.ref (77)), none, none, some (.int (x3)), some (.int (x4)), some (.int (x5)), some (.int (x6)), some (.int (x7))]) (st' := [.int (x7), .int (x3), .ref (77)]) rfl rfl ?_
        cases hc5 : F_195 x3 x7 M with
        | none => rw [hc5] at h; cases h
        | some c5 =>
          rw [hc5] at h
          dsimp only at h
          have hq5 := T_195 (X := X) (d := d) (by omega) (M := M) hc5
          refine Rc.callV tb_223 rfl rfl rfl mS_195 mP_195 mL_195 mO_195 rfl rfl ob_77 rfl rfl hq5 ?_
          refine Rc.run tb_223 1 (pc' := 90) (ls' := [some (.ref (77)), none, none, some (.int (x3)), some (.int (x4)), some (.int (x5)), some (.int (x6)), some (.int (x7))]) (st' := [.int (x4), .int (c5)]) rfl rfl ?_
          refine Rc.icmp_ne (pc1 := 106) tb_223 rfl rfl (by decide) (by decide) (fun hb12 => ?_) (fun hb12 => ?_)
          · rw [if_pos hb12] at h
            refine Rc.run tb_223 5 (pc' := 100) (ls' := [some (.ref (77)), none, none, some (.int (x3)), some (.int (x4)), some (.int (x5)), some (.int (x6)), some (.int (x7))]) (st' := [.int (x5), .int (0), .int (x7), .int (x3), .ref (77)]) rfl rfl ?_
            cases hc6 : F_217 x3 x7 (0 : Int32) x5 M with
            | none => rw [hc6] at h; cases h
            | some c6 =>
              rw [hc6] at h
              dsimp only at h
              have hq6 := T_217 (X := X) (d := d) (by omega) (M := M) hc6
              have hz6 := Rc.bool mR_217 hq6
              refine Rc.callV tb_223 rfl rfl rfl mS_217 mP_217 mL_217 mO_217 rfl rfl ob_77 rfl rfl hq6 ?_
              refine Rc.if_eq (pc1 := 131) tb_223 rfl rfl (by decide) (by decide) (fun hb11 => ?_) (fun hb11 => ?_)
              · rw [if_pos hb11] at h
                refine Rc.mask (b := 185) ((tb_223.2 131).trans rfl) (ls' := [some (.ref (77)), none, none, some (.int (x3)), some (.int (x4)), some (.int (x5)), none, some (.int (x7))]) rfl ?_
                exact TJ_223_131_66 (X := X) (d := d + 1) (by omega) h hP hE
              · rw [if_neg hb11] at h
                refine Rc.mask (b := 185) ((tb_223.2 106).trans rfl) (ls' := [some (.ref (77)), none, none, some (.int (x3)), some (.int (x4)), some (.int (x5)), none, some (.int (x7))]) rfl ?_
                exact TJ_223_106_66 (X := X) (d := d + 1) (by omega) h hP hE
          · rw [if_neg hb12] at h
            refine Rc.mask (b := 185) ((tb_223.2 106).trans rfl) (ls' := [some (.ref (77)), none, none, some (.int (x3)), some (.int (x4)), some (.int (x5)), none, some (.int (x7))]) rfl ?_
            exact TJ_223_106_66 (X := X) (d := d + 1) (by omega) h hP hE
      · rw [if_neg hb13] at h
        refine Rc.mask (b := 185) ((tb_223.2 131).trans rfl) (ls' := [some (.ref (77)), none, none, some (.int (x3)), some (.int (x4)), some (.int (x5)), none, some (.int (x7))]) rfl ?_
        exact TJ_223_131_66 (X := X) (d := d + 1) (by omega) h hP hE
theorem TL_223_66 {X : AX} {d : Nat} (hd : 4 ≤ d) {x3 : Int32} {x4 : Int32} {x5 : Int32} {M : IM} {x6 : Int32} {x7 : Int32} (hx6 : x6 = 0 ∨ x6 = 1) {v : Option Value} {M' : IM} {r : Int32 × Int32} (h : L_223_66 x3 x4 x5 M x6 x7 = some r) (hE : (fun (x6, x7) => (x6 = 0 ∨ x6 = 1) → Rc X d 223 144 [none, none, none, none, none, none, some (.int (x6)), none] [] M v M') r) : Rc X d 223 66 [some (.ref (77)), none, none, some (.int (x3)), some (.int (x4)), some (.int (x5)), some (.int (x6)), some (.int (x7))] [] M v M' := by
  exact loopN_rc (P := fun (x6, x7) => (x6 = 0 ∨ x6 = 1) → Rc X d 223 66 [some (.ref (77)), none, none, some (.int (x3)), some (.int (x4)), some (.int (x5)), some (.int (x6)), some (.int (x7))] [] M v M') (E := fun (x6, x7) => (x6 = 0 ∨ x6 = 1) → Rc X d 223 144 [none, none, none, none, none, none, some (.int (x6)), none] [] M v M') (TB_223_66 (X := X) hd) FU _ r h hE hx6
theorem TF_223 {X : AX} {d : Nat} (hd : 4 ≤ d) {a1 : Int32} {a2 : Int32} {M : IM} {v : Option Value} {M' : IM} {o : Int32} (h : F_223 a1 a2 M = some o) (hC : v = some (.int o) ∧ M' = M) : Rc X d 223 0 [some (.ref (77)), some (.int (a1)), some (.int (a2)), none, none, none, none, none] [] M v M' := by
  obtain ⟨d, rfl⟩ : ∃ e, d = e + 1 := ⟨d - 1, by omega⟩
  unfold F_223 at h
  refine Rc.run tb_223 2 (pc' := 3) (ls' := [some (.ref (77)), some (.int (a1)), some (.int (a2)), none, none, none, none, none]) (st' := [.int (48), .int (a2)]) rfl rfl ?_
  refine Rc.idiv tb_223 rfl rfl (by decide) ?_
  refine Rc.run tb_223 3 (pc' := 8) (ls' := [some (.ref (77)), some (.int (a1)), some (.int (a2)), some (.int (a2 / 48)), none, none, none, none]) (st' := [.int (48), .int (a2)]) rfl rfl ?_
  refine Rc.irem tb_223 rfl rfl (by decide) ?_
  refine Rc.run tb_223 1 (pc' := 10) (ls' := [some (.ref (77)), some (.int (a1)), some (.int (a2)), some (.int (a2 / 48)), none, none, none, none]) (st' := [.int (4), .int (a2 - a2 / 48 * 48)]) rfl rfl ?_
  refine Rc.idiv tb_223 rfl rfl (by decide) ?_
  refine Rc.run tb_223 3 (pc' := 15) (ls' := [some (.ref (77)), some (.int (a1)), some (.int (a2)), some (.int (a2 / 48)), some (.int ((a2 - a2 / 48 * 48) / 4)), none, none, none]) (st' := [.int (4), .int (a2)]) rfl rfl ?_
  refine Rc.irem tb_223 rfl rfl (by decide) ?_
  refine Rc.run tb_223 2 (pc' := 19) (ls' := [some (.ref (77)), some (.int (a1)), some (.int (a2)), some (.int (a2 / 48)), some (.int ((a2 - a2 / 48 * 48) / 4)), some (.int (a2 - a2 / 4 * 4)), none, none]) (st' := [.int (a2)]) rfl rfl ?_
  refine Rc.if_lt (pc1 := 58) tb_223 rfl rfl (by decide) (by decide) (fun hb21 => ?_) (fun hb21 => ?_)
  · rw [if_pos hb21] at h
    refine Rc.run tb_223 1 (pc' := 59) (ls' := [none, none, none, none, none, none, none, none]) (st' := [.int (0)]) rfl rfl ?_
    obtain rfl := Option.some.inj h
    obtain ⟨rfl, rfl⟩ := hC
    exact Rc.zret tb_223 rfl mR_223 (Or.inl rfl)
  · rw [if_neg hb21] at h
    refine Rc.run tb_223 2 (pc' := 24) (ls' := [some (.ref (77)), some (.int (a1)), some (.int (a2)), some (.int (a2 / 48)), some (.int ((a2 - a2 / 48 * 48) / 4)), some (.int (a2 - a2 / 4 * 4)), none, none]) (st' := [.int (a2 / 48), .ref (77)]) rfl rfl ?_
    have hq1 := T_160 (X := X) (d := d) (by omega) (a2 / 48) M
    have hz1 := Rc.bool mR_160 hq1
    refine Rc.callV tb_223 rfl rfl rfl mS_160 mP_160 mL_160 mO_160 rfl rfl ob_77 rfl rfl hq1 ?_
    refine Rc.if_eq (pc1 := 58) tb_223 rfl rfl (by decide) (by decide) (fun hb20 => ?_) (fun hb20 => ?_)
    · rw [if_pos hb20] at h
      refine Rc.run tb_223 1 (pc' := 59) (ls' := [none, none, none, none, none, none, none, none]) (st' := [.int (0)]) rfl rfl ?_
      obtain rfl := Option.some.inj h
      obtain ⟨rfl, rfl⟩ := hC
      exact Rc.zret tb_223 rfl mR_223 (Or.inl rfl)
    · rw [if_neg hb20] at h
      refine Rc.run tb_223 2 (pc' := 32) (ls' := [some (.ref (77)), some (.int (a1)), some (.int (a2)), some (.int (a2 / 48)), some (.int ((a2 - a2 / 48 * 48) / 4)), some (.int (a2 - a2 / 4 * 4)), none, none]) (st' := [.int (a2 / 48), .int (a1)]) rfl rfl ?_
      have hq2 := T_162 (X := X) (d := d) (by omega) a1 (a2 / 48) M
      have hz2 := Rc.bool mR_162 hq2
      refine Rc.callS tb_223 rfl rfl rfl mS_162 mP_162 mL_162 rfl rfl rfl hq2 ?_
      refine Rc.if_eq (pc1 := 58) tb_223 rfl rfl (by decide) (by decide) (fun hb19 => ?_) (fun hb19 => ?_)
      · rw [if_pos hb19] at h
        refine Rc.run tb_223 1 (pc' := 59) (ls' := [none, none, none, none, none, none, none, none]) (st' := [.int (0)]) rfl rfl ?_
        obtain rfl := Option.some.inj h
        obtain ⟨rfl, rfl⟩ := hC
        exact Rc.zret tb_223 rfl mR_223 (Or.inl rfl)
      · rw [if_neg hb19] at h
        refine Rc.run tb_223 1 (pc' := 40) (ls' := [some (.ref (77)), some (.int (a1)), some (.int (a2)), some (.int (a2 / 48)), some (.int ((a2 - a2 / 48 * 48) / 4)), some (.int (a2 - a2 / 4 * 4)), none, none]) (st' := [.int (a2 - a2 / 4 * 4)]) rfl rfl ?_
        refine Rc.if_eq (pc1 := 58) tb_223 rfl rfl (by decide) (by decide) (fun hb18 => ?_) (fun hb18 => ?_)
        · rw [if_pos hb18] at h
          refine Rc.run tb_223 1 (pc' := 59) (ls' := [none, none, none, none, none, none, none, none]) (st' := [.int (0)]) rfl rfl ?_
          obtain rfl := Option.some.inj h
          obtain ⟨rfl, rfl⟩ := hC
          exact Rc.zret tb_223 rfl mR_223 (Or.inl rfl)
        · rw [if_neg hb18] at h
          refine Rc.run tb_223 1 (pc' := 44) (ls' := [some (.ref (77)), some (.int (a1)), some (.int (a2)), some (.int (a2 / 48)), some (.int ((a2 - a2 / 48 * 48) / 4)), some (.int (a2 - a2 / 4 * 4)), none, none]) (st' := [.ref (77)]) rfl rfl ?_
          refine Rc.getR tb_223 rfl rfl ob_77 (by decide +kernel) tg_77_23 (by decide) ?_
          refine Rc.run tb_223 1 (pc' := 49) (ls' := [some (.ref (77)), some (.int (a1)), some (.int (a2)), some (.int (a2 / 48)), some (.int ((a2 - a2 / 48 * 48) / 4)), some (.int (a2 - a2 / 4 * 4)), none, none]) (st' := [.int ((a2 - a2 / 48 * 48) / 4), .ref (91)]) rfl rfl ?_
          by_cases hb17 : inb ((a2 - a2 / 48 * 48) / 4) 12 = true
          · rw [if_pos hb17] at h
            refine Rc.iald tb_223 rfl rfl ia_91 hb17 ?_
            refine Rc.run tb_223 1 (pc' := 52) (ls' := [some (.ref (77)), some (.int (a1)), some (.int (a2)), some (.int (a2 / 48)), some (.int ((a2 - a2 / 48 * 48) / 4)), some (.int (a2 - a2 / 4 * 4)), none, none]) (st' := [.int (a2 - a2 / 4 * 4), .int (M 91 ((a2 - a2 / 48 * 48) / 4).toNatClampNeg)]) rfl rfl ?_
            have hq3 := T_162 (X := X) (d := d) (by omega) (M 91 ((a2 - a2 / 48 * 48) / 4).toNatClampNeg) (a2 - a2 / 4 * 4) M
            have hz3 := Rc.bool mR_162 hq3
            refine Rc.callS tb_223 rfl rfl rfl mS_162 mP_162 mL_162 rfl rfl rfl hq3 ?_
            refine Rc.if_ne (pc1 := 60) tb_223 rfl rfl (by decide) (by decide) (fun hb16 => ?_) (fun hb16 => ?_)
            · rw [if_pos hb16] at h
              refine Rc.run tb_223 1 (pc' := 59) (ls' := [none, none, none, none, none, none, none, none]) (st' := [.int (0)]) rfl rfl ?_
              obtain rfl := Option.some.inj h
              obtain ⟨rfl, rfl⟩ := hC
              exact Rc.zret tb_223 rfl mR_223 (Or.inl rfl)
            · rw [if_neg hb16] at h
              refine Rc.run tb_223 4 (pc' := 66) (ls' := [some (.ref (77)), some (.int (a1)), some (.int (a2)), some (.int (a2 / 48)), some (.int ((a2 - a2 / 48 * 48) / 4)), some (.int (a2 - a2 / 4 * 4)), some (.int (0)), some (.int (0))]) (st' := []) rfl rfl ?_
              refine Rc.mask (b := 249) ((tb_223.2 66).trans rfl) (ls' := [some (.ref (77)), none, none, some (.int (a2 / 48)), some (.int ((a2 - a2 / 48 * 48) / 4)), some (.int (a2 - a2 / 4 * 4)), some (.int (0)), some (.int (0))]) rfl ?_
              cases hl15 : L_223_66 (a2 / 48) ((a2 - a2 / 48 * 48) / 4) (a2 - a2 / 4 * 4) M 0 0 with
              | none => rw [hl15] at h; cases h
              | some r15 =>
                obtain ⟨x6_15, x7_15⟩ := r15
                rw [hl15] at h
                dsimp only at h
                refine TL_223_66 (X := X) (d := d + 1) (by omega) (Or.inl rfl) hl15 ?_
                intro hz_x6_15
                refine Rc.run tb_223 1 (pc' := 146) (ls' := [none, none, none, none, none, none, some (.int (x6_15)), none]) (st' := [.int (x6_15)]) rfl rfl ?_
                obtain rfl := Option.some.inj h
                obtain ⟨rfl, rfl⟩ := hC
                exact Rc.zret tb_223 rfl mR_223 hz_x6_15
          · rw [if_neg hb17] at h
            cases h
theorem T_223 {X : AX} {d : Nat} (hd : 4 ≤ d) {a1 : Int32} {a2 : Int32} {M : IM} {x : Int32} (h : F_223 a1 a2 M = some x) : Rc X d 223 0 [some (.ref (77)), some (.int (a1)), some (.int (a2)), none, none, none, none, none] [] M (some (.int x)) M := TF_223 hd h ⟨rfl, rfl⟩
/-! 224: NineDemandsModel.check -/
def J_224_15 (M : IM) : Option (Int32 × IM) := (match F_156 ((-1000001) : Int32) M with | none => none | some (c2, M2) => (some ((c2, M2))))
def B_224_44 (x1 : Int32) (x2 : Int32) : (Int32 × IM) → Option ((Int32 × IM) ⊕ ((Int32 × IM) ⊕ (Int32 × IM))) := fun (x3, M) => if inb x2 4 = true then (if M 95 x2.toNatClampNeg ≤ x3 then (some (Sum.inr (Sum.inl (x3, M)))) else (if inb ((40 * x2) + x3) 160 = true then (match F_223 x1 (M 96 ((40 * x2) + x3).toNatClampNeg) M with | none => none | some c6 => (if c6 = 0 then (some (Sum.inr (Sum.inr (1 + x3, M)))) else (if inb (((M 96 ((40 * x2) + x3).toNatClampNeg) - (M 96 ((40 * x2) + x3).toNatClampNeg) / 48 * 48) / 4) 12 = true then (if inb (((M 96 ((40 * x2) + x3).toNatClampNeg) - (M 96 ((40 * x2) + x3).toNatClampNeg) / 48 * 48) / 4) 12 = true then (some (Sum.inl (x3 + 1, iset M 91 (((M 96 ((40 * x2) + x3).toNatClampNeg) - (M 96 ((40 * x2) + x3).toNatClampNeg) / 48 * 48) / 4).toNatClampNeg ((M 91 (((M 96 ((40 * x2) + x3).toNatClampNeg) - (M 96 ((40 * x2) + x3).toNatClampNeg) / 48 * 48) / 4).toNatClampNeg) &&& (((1 : Int32) <<< (((M 96 ((40 * x2) + x3).toNatClampNeg) - (M 96 ((40 * x2) + x3).toNatClampNeg) / 4 * 4) &&& 31)) ^^^ (-1)))))) else none) else none))) else none)) else none
def L_224_44 (x1 : Int32) (x2 : Int32) (x3 : Int32) (M : IM) : Option ((Int32 × IM) ⊕ (Int32 × IM)) := loopN (B_224_44 x1 x2) FU (x3, M)
def J_224_110 (x2 : Int32) (M : IM) : Option (Int32 × IM) := (match F_218 M with | none => none | some c14 => (if c14 = 0 then (if inb x2 4 = true then (some ((1 + (M 95 x2.toNatClampNeg), M))) else none) else (some ((0, M)))))
def F_224 (a1 : Int32) (a2 : Int32) (M : IM) : Option (Int32 × IM) := if F_161 a1 M = 0 then (J_224_15 M) else (if F_242 a2 = 0 then (J_224_15 M) else (if inb a2 4 = true then (if M 94 a2.toNatClampNeg = 0 then (match F_156 ((-1000002) : Int32) M with | none => none | some (c4, M4) => (some ((c4, M4)))) else (match F_219 M with | none => none | some M5 => (match L_224_44 a1 a2 0 M5 with | none => none | some (.inl (x3_13, M13)) => (J_224_110 a2 M13) | some (.inr q) => some (q)))) else none))
theorem TJ_224_15 {X : AX} {d : Nat} (hd : 5 ≤ d) {M : IM} {v : Option Value} {M' : IM} {o : Int32 × IM} (h : J_224_15 M = some o) (hC : v = some (.int o.1) ∧ M' = o.2) : Rc X d 224 15 [some (.ref (77)), none, none, none, none] [] M v M' := by
  obtain ⟨d, rfl⟩ : ∃ e, d = e + 1 := ⟨d - 1, by omega⟩
  unfold J_224_15 at h
  refine Rc.run tb_224 2 (pc' := 18) (ls' := [some (.ref (77)), none, none, none, none]) (st' := [.int ((-1000001)), .ref (77)]) rfl rfl ?_
  cases hc2 : F_156 ((-1000001) : Int32) M with
  | none => rw [hc2] at h; cases h
  | some r2 =>
    obtain ⟨c2, M2⟩ := r2
    rw [hc2] at h
    dsimp only at h
    have hq2 := T_156 (X := X) (d := d) (by omega) (M := M) hc2
    refine Rc.callV tb_224 rfl rfl rfl mS_156 mP_156 mL_156 mO_156 rfl rfl ob_77 rfl rfl hq2 ?_
    obtain rfl := Option.some.inj h
    obtain ⟨rfl, rfl⟩ := hC
    exact Rc.iret (ins := .ireturn) tb_224 rfl mR_224
theorem TB_224_44 {X : AX} {d : Nat} (hd : 5 ≤ d) {x1 : Int32} {x2 : Int32} {v : Option Value} {M' : IM} : ∀ (s : Int32 × IM) (o : (Int32 × IM) ⊕ ((Int32 × IM) ⊕ (Int32 × IM))), B_224_44 x1 x2 s = some o → (∀ s', o = .inl s' → (fun (x3, M) => Rc X d 224 44 [some (.ref (77)), some (.int (x1)), some (.int (x2)), some (.int (x3)), none] [] M v M') s') → (∀ r, o = .inr r → (fun r => match r with | .inl (x3, M) => Rc X d 224 110 [some (.ref (77)), none, some (.int (x2)), none, none] [] M v M' | .inr q => v = some (.int q.1) ∧ M' = q.2) r) → (fun (x3, M) => Rc X d 224 44 [some (.ref (77)), some (.int (x1)), some (.int (x2)), some (.int (x3)), none] [] M v M') s := by
  rintro ⟨x3, M⟩ o h hP hE
  show Rc X d 224 44 [some (.ref (77)), some (.int (x1)), some (.int (x2)), some (.int (x3)), none] [] M v M'
  obtain ⟨d, rfl⟩ : ∃ e, d = e + 1 := ⟨d - 1, by omega⟩
  unfold B_224_44 at h
  dsimp only at h hP hE
  refine Rc.run tb_224 2 (pc' := 46) (ls' := [some (.ref (77)), some (.int (x1)), some (.int (x2)), some (.int (x3)), none]) (st' := [.ref (77), .int (x3)]) rfl rfl ?_
  refine Rc.getR tb_224 rfl rfl ob_77 (by decide +kernel) tg_77_30 (by decide) ?_
  refine Rc.run tb_224 1 (pc' := 50) (ls' := [some (.ref (77)), some (.int (x1)), some (.int (x2)), some (.int (x3)), none]) (st' := [.int (x2), .ref (95), .int (x3)]) rfl rfl ?_
  by_cases hb12 : inb x2 4 = true
  · rw [if_pos hb12] at h
    refine Rc.iald tb_224 rfl rfl ia_95 hb12 ?_
    refine Rc.icmp_ge (pc1 := 110) tb_224 rfl rfl (by decide) (by decide) (fun hb11 => ?_) (fun hb11 => ?_)
    · rw [if_pos hb11] at h
      refine Rc.mask (b := 5) ((tb_224.2 110).trans rfl) (ls' := [some (.ref (77)), none, some (.int (x2)), none, none]) rfl ?_
      obtain rfl := Option.some.inj h
      exact hE _ rfl
    · rw [if_neg hb11] at h
      refine Rc.run tb_224 1 (pc' := 55) (ls' := [some (.ref (77)), some (.int (x1)), some (.int (x2)), some (.int (x3)), none]) (st' := [.ref (77)]) rfl rfl ?_
      refine Rc.getR tb_224 rfl rfl ob_77 (by decide +kernel) tg_77_31 (by decide) ?_
      refine Rc.run tb_224 5 (pc' := 64) (ls' := [some (.ref (77)), some (.int (x1)), some (.int (x2)), some (.int (x3)), none]) (st' := [.int ((40 * x2) + x3), .ref (96)]) rfl rfl ?_
      by_cases hb10 : inb ((40 * x2) + x3) 160 = true
      · rw [if_pos hb10] at h
        refine Rc.iald tb_224 rfl rfl ia_96 hb10 ?_
        refine Rc.run tb_224 4 (pc' := 71) (ls' := [some (.ref (77)), some (.int (x1)), some (.int (x2)), some (.int (x3)), some (.int (M 96 ((40 * x2) + x3).toNatClampNeg))]) (st' := [.int (M 96 ((40 * x2) + x3).toNatClampNeg), .int (x1), .ref (77)]) rfl rfl ?_
        cases hc6 : F_223 x1 (M 96 ((40 * x2) + x3).toNatClampNeg) M with
        | none => rw [hc6] at h; cases h
        | some c6 =>
          rw [hc6] at h
          dsimp only at h
          have hq6 := T_223 (X := X) (d := d) (by omega) (M := M) hc6
          have hz6 := Rc.bool mR_223 hq6
          refine Rc.callV tb_224 rfl rfl rfl mS_223 mP_223 mL_223 mO_223 rfl rfl ob_77 rfl rfl hq6 ?_
          refine Rc.if_ne (pc1 := 81) tb_224 rfl rfl (by decide) (by decide) (fun hb9 => ?_) (fun hb9 => ?_)
          · rw [if_pos hb9] at h
            refine Rc.run tb_224 3 (pc' := 80) (ls' := [some (.ref (77)), some (.int (x1)), some (.int (x2)), some (.int (x3)), some (.int (M 96 ((40 * x2) + x3).toNatClampNeg))]) (st' := [.int (1 + x3)]) rfl rfl ?_
            obtain rfl := Option.some.inj h
            obtain ⟨rfl, rfl⟩ := hE _ rfl
            exact Rc.iret (ins := .ireturn) tb_224 rfl mR_224
          · rw [if_neg hb9] at h
            refine Rc.run tb_224 1 (pc' := 82) (ls' := [some (.ref (77)), some (.int (x1)), some (.int (x2)), some (.int (x3)), some (.int (M 96 ((40 * x2) + x3).toNatClampNeg))]) (st' := [.ref (77)]) rfl rfl ?_
            refine Rc.getR tb_224 rfl rfl ob_77 (by decide +kernel) tg_77_23 (by decide) ?_
            refine Rc.run tb_224 2 (pc' := 89) (ls' := [some (.ref (77)), some (.int (x1)), some (.int (x2)), some (.int (x3)), some (.int (M 96 ((40 * x2) + x3).toNatClampNeg))]) (st' := [.int (48), .int (M 96 ((40 * x2) + x3).toNatClampNeg), .ref (91)]) rfl rfl ?_
            refine Rc.irem tb_224 rfl rfl (by decide) ?_
            refine Rc.run tb_224 1 (pc' := 91) (ls' := [some (.ref (77)), some (.int (x1)), some (.int (x2)), some (.int (x3)), some (.int (M 96 ((40 * x2) + x3).toNatClampNeg))]) (st' := [.int (4), .int ((M 96 ((40 * x2) + x3).toNatClampNeg) - (M 96 ((40 * x2) + x3).toNatClampNeg) / 48 * 48), .ref (91)]) rfl rfl ?_
            refine Rc.idiv tb_224 rfl rfl (by decide) ?_
            refine Rc.run tb_224 1 (pc' := 93) (ls' := [some (.ref (77)), some (.int (x1)), some (.int (x2)), some (.int (x3)), some (.int (M 96 ((40 * x2) + x3).toNatClampNeg))]) (st' := [.int (((M 96 ((40 * x2) + x3).toNatClampNeg) - (M 96 ((40 * x2) + x3).toNatClampNeg) / 48 * 48) / 4), .ref (91), .int (((M 96 ((40 * x2) + x3).toNatClampNeg) - (M 96 ((40 * x2) + x3).toNatClampNeg) / 48 * 48) / 4), .ref (91)]) rfl rfl ?_
            by_cases hb8 : inb (((M 96 ((40 * x2) + x3).toNatClampNeg) - (M 96 ((40 * x2) + x3).toNatClampNeg) / 48 * 48) / 4) 12 = true
            · rw [if_pos hb8] at h
              refine Rc.iald tb_224 rfl rfl ia_91 hb8 ?_
              refine Rc.run tb_224 3 (pc' := 98) (ls' := [some (.ref (77)), some (.int (x1)), some (.int (x2)), some (.int (x3)), some (.int (M 96 ((40 * x2) + x3).toNatClampNeg))]) (st' := [.int (4), .int (M 96 ((40 * x2) + x3).toNatClampNeg), .int (1), .int (M 91 (((M 96 ((40 * x2) + x3).toNatClampNeg) - (M 96 ((40 * x2) + x3).toNatClampNeg) / 48 * 48) / 4).toNatClampNeg), .int (((M 96 ((40 * x2) + x3).toNatClampNeg) - (M 96 ((40 * x2) + x3).toNatClampNeg) / 48 * 48) / 4), .ref (91)]) rfl rfl ?_
              refine Rc.irem tb_224 rfl rfl (by decide) ?_
              refine Rc.run tb_224 4 (pc' := 103) (ls' := [some (.ref (77)), some (.int (x1)), some (.int (x2)), some (.int (x3)), some (.int (M 96 ((40 * x2) + x3).toNatClampNeg))]) (st' := [.int ((M 91 (((M 96 ((40 * x2) + x3).toNatClampNeg) - (M 96 ((40 * x2) + x3).toNatClampNeg) / 48 * 48) / 4).toNatClampNeg) &&& (((1 : Int32) <<< (((M 96 ((40 * x2) + x3).toNatClampNeg) - (M 96 ((40 * x2) + x3).toNatClampNeg) / 4 * 4) &&& 31)) ^^^ (-1))), .int (((M 96 ((40 * x2) + x3).toNatClampNeg) - (M 96 ((40 * x2) + x3).toNatClampNeg) / 48 * 48) / 4), .ref (91)]) rfl rfl ?_
              by_cases hb7 : inb (((M 96 ((40 * x2) + x3).toNatClampNeg) - (M 96 ((40 * x2) + x3).toNatClampNeg) / 48 * 48) / 4) 12 = true
              · rw [if_pos hb7] at h
                refine Rc.iast tb_224 rfl rfl ia_91 hb7 ?_
                refine Rc.run tb_224 2 (pc' := 44) (ls' := [some (.ref (77)), some (.int (x1)), some (.int (x2)), some (.int (x3 + 1)), some (.int (M 96 ((40 * x2) + x3).toNatClampNeg))]) (st' := []) rfl rfl ?_
                refine Rc.mask (b := 15) ((tb_224.2 44).trans rfl) (ls' := [some (.ref (77)), some (.int (x1)), some (.int (x2)), some (.int (x3 + 1)), none]) rfl ?_
                obtain rfl := Option.some.inj h
                exact hP _ rfl
              · rw [if_neg hb7] at h
                cases h
            · rw [if_neg hb8] at h
              cases h
      · rw [if_neg hb10] at h
        cases h
  · rw [if_neg hb12] at h
    cases h
theorem TL_224_44 {X : AX} {d : Nat} (hd : 5 ≤ d) {x1 : Int32} {x2 : Int32} {x3 : Int32} {M : IM} {v : Option Value} {M' : IM} {r : (Int32 × IM) ⊕ (Int32 × IM)} (h : L_224_44 x1 x2 x3 M = some r) (hE : (fun r => match r with | .inl (x3, M) => Rc X d 224 110 [some (.ref (77)), none, some (.int (x2)), none, none] [] M v M' | .inr q => v = some (.int q.1) ∧ M' = q.2) r) : Rc X d 224 44 [some (.ref (77)), some (.int (x1)), some (.int (x2)), some (.int (x3)), none] [] M v M' := by
  exact loopN_rc (P := fun (x3, M) => Rc X d 224 44 [some (.ref (77)), some (.int (x1)), some (.int (x2)), some (.int (x3)), none] [] M v M') (E := fun r => match r with | .inl (x3, M) => Rc X d 224 110 [some (.ref (77)), none, some (.int (x2)), none, none] [] M v M' | .inr q => v = some (.int q.1) ∧ M' = q.2) (TB_224_44 (X := X) hd) FU _ r h hE
theorem TJ_224_110 {X : AX} {d : Nat} (hd : 5 ≤ d) {x2 : Int32} {M : IM} {v : Option Value} {M' : IM} {o : Int32 × IM} (h : J_224_110 x2 M = some o) (hC : v = some (.int o.1) ∧ M' = o.2) : Rc X d 224 110 [some (.ref (77)), none, some (.int (x2)), none, none] [] M v M' := by
  obtain ⟨d, rfl⟩ : ∃ e, d = e + 1 := ⟨d - 1, by omega⟩
  unfold J_224_110 at h
  refine Rc.run tb_224 1 (pc' := 111) (ls' := [some (.ref (77)), none, some (.int (x2)), none, none]) (st' := [.ref (77)]) rfl rfl ?_
  cases hc14 : F_218 M with
  | none => rw [hc14] at h; cases h
  | some c14 =>
    rw [hc14] at h
    dsimp only at h
    have hq14 := T_218 (X := X) (d := d) (by omega) (M := M) hc14
    have hz14 := Rc.bool mR_218 hq14
    refine Rc.callV tb_224 rfl rfl rfl mS_218 mP_218 mL_218 mO_218 rfl rfl ob_77 rfl rfl hq14 ?_
    refine Rc.if_eq (pc1 := 121) tb_224 rfl rfl (by decide) (by decide) (fun hb16 => ?_) (fun hb16 => ?_)
    · rw [if_pos hb16] at h
      refine Rc.run tb_224 2 (pc' := 123) (ls' := [some (.ref (77)), none, some (.int (x2)), none, none]) (st' := [.ref (77), .int (1)]) rfl rfl ?_
      refine Rc.getR tb_224 rfl rfl ob_77 (by decide +kernel) tg_77_30 (by decide) ?_
      refine Rc.run tb_224 1 (pc' := 127) (ls' := [some (.ref (77)), none, some (.int (x2)), none, none]) (st' := [.int (x2), .ref (95), .int (1)]) rfl rfl ?_
      by_cases hb15 : inb x2 4 = true
      · rw [if_pos hb15] at h
        refine Rc.iald tb_224 rfl rfl ia_95 hb15 ?_
        refine Rc.run tb_224 1 (pc' := 129) (ls' := [some (.ref (77)), none, some (.int (x2)), none, none]) (st' := [.int (1 + (M 95 x2.toNatClampNeg))]) rfl rfl ?_
        obtain rfl := Option.some.inj h
        obtain ⟨rfl, rfl⟩ := hC
        exact Rc.iret (ins := .ireturn) tb_224 rfl mR_224
      · rw [if_neg hb15] at h
        cases h
    · rw [if_neg hb16] at h
      refine Rc.run tb_224 2 (pc' := 129) (ls' := [some (.ref (77)), none, some (.int (x2)), none, none]) (st' := [.int (0)]) rfl rfl ?_
      obtain rfl := Option.some.inj h
      obtain ⟨rfl, rfl⟩ := hC
      exact Rc.iret (ins := .ireturn) tb_224 rfl mR_224
theorem TF_224 {X : AX} {d : Nat} (hd : 5 ≤ d) {a1 : Int32} {a2 : Int32} {M : IM} {v : Option Value} {M' : IM} {o : Int32 × IM} (h : F_224 a1 a2 M = some o) (hC : v = some (.int o.1) ∧ M' = o.2) : Rc X d 224 0 [some (.ref (77)), some (.int (a1)), some (.int (a2)), none, none] [] M v M' := by
  obtain ⟨d, rfl⟩ : ∃ e, d = e + 1 := ⟨d - 1, by omega⟩
  unfold F_224 at h
  refine Rc.run tb_224 2 (pc' := 2) (ls' := [some (.ref (77)), some (.int (a1)), some (.int (a2)), none, none]) (st' := [.int (a1), .ref (77)]) rfl rfl ?_
  have hq1 := T_161 (X := X) (d := d) (by omega) a1 M
  have hz1 := Rc.bool mR_161 hq1
  refine Rc.callV tb_224 rfl rfl rfl mS_161 mP_161 mL_161 mO_161 rfl rfl ob_77 rfl rfl hq1 ?_
  refine Rc.if_eq (pc1 := 15) tb_224 rfl rfl (by decide) (by decide) (fun hb20 => ?_) (fun hb20 => ?_)
  · rw [if_pos hb20] at h
    refine Rc.mask (b := 1) ((tb_224.2 15).trans rfl) (ls' := [some (.ref (77)), none, none, none, none]) rfl ?_
    exact TJ_224_15 (X := X) (d := d + 1) (by omega) h hC
  · rw [if_neg hb20] at h
    refine Rc.run tb_224 1 (pc' := 9) (ls' := [some (.ref (77)), some (.int (a1)), some (.int (a2)), none, none]) (st' := [.int (a2)]) rfl rfl ?_
    have hq3 := T_242 (X := X) (d := d) (by omega) a2 M
    have hz3 := Rc.bool mR_242 hq3
    refine Rc.callS tb_224 rfl rfl rfl mS_242 mP_242 mL_242 rfl rfl rfl hq3 ?_
    refine Rc.if_ne (pc1 := 22) tb_224 rfl rfl (by decide) (by decide) (fun hb19 => ?_) (fun hb19 => ?_)
    · rw [if_pos hb19] at h
      refine Rc.mask (b := 1) ((tb_224.2 15).trans rfl) (ls' := [some (.ref (77)), none, none, none, none]) rfl ?_
      exact TJ_224_15 (X := X) (d := d + 1) (by omega) h hC
    · rw [if_neg hb19] at h
      refine Rc.run tb_224 1 (pc' := 23) (ls' := [some (.ref (77)), some (.int (a1)), some (.int (a2)), none, none]) (st' := [.ref (77)]) rfl rfl ?_
      refine Rc.getR tb_224 rfl rfl ob_77 (by decide +kernel) tg_77_29 (by decide) ?_
      refine Rc.run tb_224 1 (pc' := 27) (ls' := [some (.ref (77)), some (.int (a1)), some (.int (a2)), none, none]) (st' := [.int (a2), .ref (94)]) rfl rfl ?_
      by_cases hb18 : inb a2 4 = true
      · rw [if_pos hb18] at h
        refine Rc.iald tb_224 rfl rfl ia_94 hb18 ?_
        refine Rc.if_ne (pc1 := 38) tb_224 rfl rfl (by decide) (by decide) (fun hb17 => ?_) (fun hb17 => ?_)
        · rw [if_pos hb17] at h
          refine Rc.run tb_224 2 (pc' := 34) (ls' := [some (.ref (77)), some (.int (a1)), some (.int (a2)), none, none]) (st' := [.int ((-1000002)), .ref (77)]) rfl rfl ?_
          cases hc4 : F_156 ((-1000002) : Int32) M with
          | none => rw [hc4] at h; cases h
          | some r4 =>
            obtain ⟨c4, M4⟩ := r4
            rw [hc4] at h
            dsimp only at h
            have hq4 := T_156 (X := X) (d := d) (by omega) (M := M) hc4
            refine Rc.callV tb_224 rfl rfl rfl mS_156 mP_156 mL_156 mO_156 rfl rfl ob_77 rfl rfl hq4 ?_
            obtain rfl := Option.some.inj h
            obtain ⟨rfl, rfl⟩ := hC
            exact Rc.iret (ins := .ireturn) tb_224 rfl mR_224
        · rw [if_neg hb17] at h
          refine Rc.run tb_224 1 (pc' := 39) (ls' := [some (.ref (77)), some (.int (a1)), some (.int (a2)), none, none]) (st' := [.ref (77)]) rfl rfl ?_
          cases hc5 : F_219 M with
          | none => rw [hc5] at h; cases h
          | some M5 =>
            rw [hc5] at h
            dsimp only at h
            have hq5 := T_219 (X := X) (d := d) (by omega) (M := M) hc5
            refine Rc.callV tb_224 rfl rfl rfl mS_219 mP_219 mL_219 mO_219 rfl rfl ob_77 rfl rfl hq5 ?_
            refine Rc.run tb_224 2 (pc' := 44) (ls' := [some (.ref (77)), some (.int (a1)), some (.int (a2)), some (.int (0)), none]) (st' := []) rfl rfl ?_
            refine Rc.mask (b := 15) ((tb_224.2 44).trans rfl) (ls' := [some (.ref (77)), some (.int (a1)), some (.int (a2)), some (.int (0)), none]) rfl ?_
            cases hl13 : L_224_44 a1 a2 0 M5 with
            | none => rw [hl13] at h; cases h
            | some rr13 =>
              rw [hl13] at h
              cases rr13 with
              | inl r13 =>
                obtain ⟨x3_13, M13⟩ := r13
                dsimp only at h
                refine TL_224_44 (X := X) (d := d + 1) (by omega) hl13 ?_
                refine Rc.mask (b := 5) ((tb_224.2 110).trans rfl) (ls' := [some (.ref (77)), none, some (.int (a2)), none, none]) rfl ?_
                exact TJ_224_110 (X := X) (d := d + 1) (by omega) h hC
              | inr q =>
                dsimp only at h
                refine TL_224_44 (X := X) (d := d + 1) (by omega) hl13 ?_
                obtain rfl := Option.some.inj h
                obtain ⟨rfl, rfl⟩ := hC
                exact ⟨rfl, rfl⟩
      · rw [if_neg hb18] at h
        cases h
theorem T_224 {X : AX} {d : Nat} (hd : 5 ≤ d) {a1 : Int32} {a2 : Int32} {M : IM} {x : Int32} {M1 : IM} (h : F_224 a1 a2 M = some (x, M1)) : Rc X d 224 0 [some (.ref (77)), some (.int (a1)), some (.int (a2)), none, none] [] M (some (.int x)) M1 := TF_224 hd h ⟨rfl, rfl⟩
/-! 225: NineDemandsModel.bits -/
def B_225_4 (x0 : Int32) : (Int32 × Int32) → Option ((Int32 × Int32) ⊕ (Int32 × Int32)) := fun (x1, x2) => if (12 : Int32) ≤ x2 then (some (Sum.inr (x1, x2))) else (some (Sum.inl (x1 + ((x0 >>> (x2 &&& 31)) &&& 1), x2 + 1)))
def L_225_4 (x0 : Int32) (x1 : Int32) (x2 : Int32) : Option (Int32 × Int32) := loopN (B_225_4 x0) FU (x1, x2)
def F_225 (a1 : Int32) : Option (Int32) := (match L_225_4 a1 0 0 with | none => none | some (x1_2, x2_2) => (some (x1_2)))
theorem TB_225_4 {X : AX} {d : Nat} (hd : 0 ≤ d) {x0 : Int32} {M : IM} {v : Option Value} {M' : IM} : ∀ (s : Int32 × Int32) (o : (Int32 × Int32) ⊕ (Int32 × Int32)), B_225_4 x0 s = some o → (∀ s', o = .inl s' → (fun (x1, x2) => Rc X d 225 4 [some (.int (x0)), some (.int (x1)), some (.int (x2))] [] M v M') s') → (∀ r, o = .inr r → (fun (x1, x2) => Rc X d 225 24 [none, some (.int (x1)), none] [] M v M') r) → (fun (x1, x2) => Rc X d 225 4 [some (.int (x0)), some (.int (x1)), some (.int (x2))] [] M v M') s := by
  rintro ⟨x1, x2⟩ o h hP hE
  show Rc X d 225 4 [some (.int (x0)), some (.int (x1)), some (.int (x2))] [] M v M'
  unfold B_225_4 at h
  dsimp only at h hP hE
  refine Rc.run tb_225 2 (pc' := 7) (ls' := [some (.int (x0)), some (.int (x1)), some (.int (x2))]) (st' := [.int (12), .int (x2)]) rfl rfl ?_
  refine Rc.icmp_ge (pc1 := 24) tb_225 rfl rfl (by decide) (by decide) (fun hb1 => ?_) (fun hb1 => ?_)
  · rw [if_pos hb1] at h
    refine Rc.mask (b := 2) ((tb_225.2 24).trans rfl) (ls' := [none, some (.int (x1)), none]) rfl ?_
    obtain rfl := Option.some.inj h
    exact hE _ rfl
  · rw [if_neg hb1] at h
    refine Rc.run tb_225 10 (pc' := 4) (ls' := [some (.int (x0)), some (.int (x1 + ((x0 >>> (x2 &&& 31)) &&& 1))), some (.int (x2 + 1))]) (st' := []) rfl rfl ?_
    refine Rc.mask (b := 7) ((tb_225.2 4).trans rfl) (ls' := [some (.int (x0)), some (.int (x1 + ((x0 >>> (x2 &&& 31)) &&& 1))), some (.int (x2 + 1))]) rfl ?_
    obtain rfl := Option.some.inj h
    exact hP _ rfl
theorem TL_225_4 {X : AX} {d : Nat} (hd : 0 ≤ d) {x0 : Int32} {M : IM} {x1 : Int32} {x2 : Int32} {v : Option Value} {M' : IM} {r : Int32 × Int32} (h : L_225_4 x0 x1 x2 = some r) (hE : (fun (x1, x2) => Rc X d 225 24 [none, some (.int (x1)), none] [] M v M') r) : Rc X d 225 4 [some (.int (x0)), some (.int (x1)), some (.int (x2))] [] M v M' := by
  exact loopN_rc (P := fun (x1, x2) => Rc X d 225 4 [some (.int (x0)), some (.int (x1)), some (.int (x2))] [] M v M') (E := fun (x1, x2) => Rc X d 225 24 [none, some (.int (x1)), none] [] M v M') (TB_225_4 (X := X) hd) FU _ r h hE
theorem TF_225 {X : AX} {d : Nat} (hd : 0 ≤ d) {a1 : Int32} {M : IM} {v : Option Value} {M' : IM} {o : Int32} (h : F_225 a1 = some o) (hC : v = some (.int o) ∧ M' = M) : Rc X d 225 0 [some (.int (a1)), none, none] [] M v M' := by
  unfold F_225 at h
  refine Rc.run tb_225 4 (pc' := 4) (ls' := [some (.int (a1)), some (.int (0)), some (.int (0))]) (st' := []) rfl rfl ?_
  refine Rc.mask (b := 7) ((tb_225.2 4).trans rfl) (ls' := [some (.int (a1)), some (.int (0)), some (.int (0))]) rfl ?_
  cases hl2 : L_225_4 a1 0 0 with
  | none => rw [hl2] at h; cases h
  | some r2 =>
    obtain ⟨x1_2, x2_2⟩ := r2
    rw [hl2] at h
    dsimp only at h
    refine TL_225_4 (X := X) (d := d) (by omega) hl2 ?_
    refine Rc.run tb_225 1 (pc' := 25) (ls' := [none, some (.int (x1_2)), none]) (st' := [.int (x1_2)]) rfl rfl ?_
    obtain rfl := Option.some.inj h
    obtain ⟨rfl, rfl⟩ := hC
    exact Rc.iret (ins := .ireturn) tb_225 rfl mR_225
theorem T_225 {X : AX} {d : Nat} (hd : 0 ≤ d) {a1 : Int32} {M : IM} {x : Int32} (h : F_225 a1 = some x) : Rc X d 225 0 [some (.int (a1)), none, none] [] M (some (.int x)) M := TF_225 hd h ⟨rfl, rfl⟩
/-! 228: NineDemandsModel.priceOf -/
def J_228_36_4 (x1 : Int32) (x3 : Int32) (s0 : Int32) (s1 : Int32) (M : IM) : Option ((Int32 × Int32) ⊕ (Int32 × Int32)) := some (Sum.inl (s1 + s0, x3 + 1))
def B_228_4 (x1 : Int32) (M : IM) : (Int32 × Int32) → Option ((Int32 × Int32) ⊕ (Int32 × Int32)) := fun (x2, x3) => if M 78 (0 : Int32).toNatClampNeg ≤ x3 then (some (Sum.inr (x2, x3))) else (if F_162 x1 x3 = 0 then (J_228_36_4 x1 x3 (0 : Int32) x2 M) else (if inb (30 + x3) 366 = true then (J_228_36_4 x1 x3 (M 78 (30 + x3).toNatClampNeg) x2 M) else none))
def L_228_4 (x1 : Int32) (M : IM) (x2 : Int32) (x3 : Int32) : Option (Int32 × Int32) := loopN (B_228_4 x1 M) FU (x2, x3)
def F_228 (a1 : Int32) (M : IM) : Option (Int32) := (match L_228_4 a1 M 0 0 with | none => none | some (x2_6, x3_6) => (some (x2_6)))
theorem TJ_228_36_4 {X : AX} {d : Nat} (hd : 1 ≤ d) {x1 : Int32} {x3 : Int32} {s0 : Int32} {s1 : Int32} {M : IM} {v : Option Value} {M' : IM} {o : (Int32 × Int32) ⊕ (Int32 × Int32)} (h : J_228_36_4 x1 x3 s0 s1 M = some o) (hP : ∀ s', o = .inl s' → (fun (x2, x3) => Rc X d 228 4 [some (.ref (77)), some (.int (x1)), some (.int (x2)), some (.int (x3))] [] M v M') s') (hE : ∀ r, o = .inr r → (fun (x2, x3) => Rc X d 228 44 [none, none, some (.int (x2)), none] [] M v M') r) : Rc X d 228 36 [some (.ref (77)), some (.int (x1)), none, some (.int (x3))] [.int (s0), .int (s1)] M v M' := by
  obtain ⟨d, rfl⟩ : ∃ e, d = e + 1 := ⟨d - 1, by omega⟩
  unfold J_228_36_4 at h
  dsimp only at hP hE
  refine Rc.run tb_228 4 (pc' := 4) (ls' := [some (.ref (77)), some (.int (x1)), some (.int (s1 + s0)), some (.int (x3 + 1))]) (st' := []) rfl rfl ?_
  refine Rc.mask (b := 15) ((tb_228.2 4).trans rfl) (ls' := [some (.ref (77)), some (.int (x1)), some (.int (s1 + s0)), some (.int (x3 + 1))]) rfl ?_
  obtain rfl := Option.some.inj h
  exact hP _ rfl
theorem TB_228_4 {X : AX} {d : Nat} (hd : 1 ≤ d) {x1 : Int32} {M : IM} {v : Option Value} {M' : IM} : ∀ (s : Int32 × Int32) (o : (Int32 × Int32) ⊕ (Int32 × Int32)), B_228_4 x1 M s = some o → (∀ s', o = .inl s' → (fun (x2, x3) => Rc X d 228 4 [some (.ref (77)), some (.int (x1)), some (.int (x2)), some (.int (x3))] [] M v M') s') → (∀ r, o = .inr r → (fun (x2, x3) => Rc X d 228 44 [none, none, some (.int (x2)), none] [] M v M') r) → (fun (x2, x3) => Rc X d 228 4 [some (.ref (77)), some (.int (x1)), some (.int (x2)), some (.int (x3))] [] M v M') s := by
  rintro ⟨x2, x3⟩ o h hP hE
  show Rc X d 228 4 [some (.ref (77)), some (.int (x1)), some (.int (x2)), some (.int (x3))] [] M v M'
  obtain ⟨d, rfl⟩ : ∃ e, d = e + 1 := ⟨d - 1, by omega⟩
  unfold B_228_4 at h
  dsimp only at h hP hE
  refine Rc.run tb_228 2 (pc' := 6) (ls' := [some (.ref (77)), some (.int (x1)), some (.int (x2)), some (.int (x3))]) (st' := [.ref (77), .int (x3)]) rfl rfl ?_
  refine Rc.getR tb_228 rfl rfl ob_77 (by decide +kernel) tg_77_0 (by decide) ?_
  refine Rc.run tb_228 1 (pc' := 10) (ls' := [some (.ref (77)), some (.int (x1)), some (.int (x2)), some (.int (x3))]) (st' := [.int (0), .ref (78), .int (x3)]) rfl rfl ?_
  refine Rc.iald tb_228 rfl rfl ia_78 (by decide) ?_
  refine Rc.icmp_ge (pc1 := 44) tb_228 rfl rfl (by decide) (by decide) (fun hb4 => ?_) (fun hb4 => ?_)
  · rw [if_pos hb4] at h
    refine Rc.mask (b := 4) ((tb_228.2 44).trans rfl) (ls' := [none, none, some (.int (x2)), none]) rfl ?_
    obtain rfl := Option.some.inj h
    exact hE _ rfl
  · rw [if_neg hb4] at h
    refine Rc.run tb_228 3 (pc' := 17) (ls' := [some (.ref (77)), some (.int (x1)), some (.int (x2)), some (.int (x3))]) (st' := [.int (x3), .int (x1), .int (x2)]) rfl rfl ?_
    have hq1 := T_162 (X := X) (d := d) (by omega) x1 x3 M
    have hz1 := Rc.bool mR_162 hq1
    refine Rc.callS tb_228 rfl rfl rfl mS_162 mP_162 mL_162 rfl rfl rfl hq1 ?_
    refine Rc.if_eq (pc1 := 35) tb_228 rfl rfl (by decide) (by decide) (fun hb3 => ?_) (fun hb3 => ?_)
    · rw [if_pos hb3] at h
      refine Rc.run tb_228 1 (pc' := 36) (ls' := [some (.ref (77)), some (.int (x1)), some (.int (x2)), some (.int (x3))]) (st' := [.int (0), .int (x2)]) rfl rfl ?_
      refine Rc.mask (b := 11) ((tb_228.2 36).trans rfl) (ls' := [some (.ref (77)), some (.int (x1)), none, some (.int (x3))]) rfl ?_
      exact TJ_228_36_4 (X := X) (d := d + 1) (by omega) h hP hE
    · rw [if_neg hb3] at h
      refine Rc.run tb_228 1 (pc' := 24) (ls' := [some (.ref (77)), some (.int (x1)), some (.int (x2)), some (.int (x3))]) (st' := [.ref (77), .int (x2)]) rfl rfl ?_
      refine Rc.getR tb_228 rfl rfl ob_77 (by decide +kernel) tg_77_0 (by decide) ?_
      refine Rc.run tb_228 3 (pc' := 31) (ls' := [some (.ref (77)), some (.int (x1)), some (.int (x2)), some (.int (x3))]) (st' := [.int (30 + x3), .ref (78), .int (x2)]) rfl rfl ?_
      by_cases hb2 : inb (30 + x3) 366 = true
      · rw [if_pos hb2] at h
        refine Rc.iald tb_228 rfl rfl ia_78 hb2 ?_
        refine Rc.run tb_228 1 (pc' := 36) (ls' := [some (.ref (77)), some (.int (x1)), some (.int (x2)), some (.int (x3))]) (st' := [.int (M 78 (30 + x3).toNatClampNeg), .int (x2)]) rfl rfl ?_
        refine Rc.mask (b := 11) ((tb_228.2 36).trans rfl) (ls' := [some (.ref (77)), some (.int (x1)), none, some (.int (x3))]) rfl ?_
        exact TJ_228_36_4 (X := X) (d := d + 1) (by omega) h hP hE
      · rw [if_neg hb2] at h
        cases h
theorem TL_228_4 {X : AX} {d : Nat} (hd : 1 ≤ d) {x1 : Int32} {M : IM} {x2 : Int32} {x3 : Int32} {v : Option Value} {M' : IM} {r : Int32 × Int32} (h : L_228_4 x1 M x2 x3 = some r) (hE : (fun (x2, x3) => Rc X d 228 44 [none, none, some (.int (x2)), none] [] M v M') r) : Rc X d 228 4 [some (.ref (77)), some (.int (x1)), some (.int (x2)), some (.int (x3))] [] M v M' := by
  exact loopN_rc (P := fun (x2, x3) => Rc X d 228 4 [some (.ref (77)), some (.int (x1)), some (.int (x2)), some (.int (x3))] [] M v M') (E := fun (x2, x3) => Rc X d 228 44 [none, none, some (.int (x2)), none] [] M v M') (TB_228_4 (X := X) hd) FU _ r h hE
theorem TF_228 {X : AX} {d : Nat} (hd : 1 ≤ d) {a1 : Int32} {M : IM} {v : Option Value} {M' : IM} {o : Int32} (h : F_228 a1 M = some o) (hC : v = some (.int o) ∧ M' = M) : Rc X d 228 0 [some (.ref (77)), some (.int (a1)), none, none] [] M v M' := by
  obtain ⟨d, rfl⟩ : ∃ e, d = e + 1 := ⟨d - 1, by omega⟩
  unfold F_228 at h
  refine Rc.run tb_228 4 (pc' := 4) (ls' := [some (.ref (77)), some (.int (a1)), some (.int (0)), some (.int (0))]) (st' := []) rfl rfl ?_
  refine Rc.mask (b := 15) ((tb_228.2 4).trans rfl) (ls' := [some (.ref (77)), some (.int (a1)), some (.int (0)), some (.int (0))]) rfl ?_
  cases hl6 : L_228_4 a1 M 0 0 with
  | none => rw [hl6] at h; cases h
  | some r6 =>
    obtain ⟨x2_6, x3_6⟩ := r6
    rw [hl6] at h
    dsimp only at h
    refine TL_228_4 (X := X) (d := d + 1) (by omega) hl6 ?_
    refine Rc.run tb_228 1 (pc' := 45) (ls' := [none, none, some (.int (x2_6)), none]) (st' := [.int (x2_6)]) rfl rfl ?_
    obtain rfl := Option.some.inj h
    obtain ⟨rfl, rfl⟩ := hC
    exact Rc.iret (ins := .ireturn) tb_228 rfl mR_228
theorem T_228 {X : AX} {d : Nat} (hd : 1 ≤ d) {a1 : Int32} {M : IM} {x : Int32} (h : F_228 a1 M = some x) : Rc X d 228 0 [some (.ref (77)), some (.int (a1)), none, none] [] M (some (.int x)) M := TF_228 hd h ⟨rfl, rfl⟩
/-! 235: NineDemandsModel.began -/
def F_235 (a1 : Int32) (M : IM) : Option (IM) := if (40 : Int32) ≤ M 77 27 then (some (M)) else (if inb (M 77 27) 40 = true then (some (iset (iset M 93 (M 77 27).toNatClampNeg a1) 77 27 (((iset M 93 (M 77 27).toNatClampNeg a1) 77 27) + 1))) else none)
theorem TF_235 {X : AX} {d : Nat} (hd : 0 ≤ d) {a1 : Int32} {M : IM} {v : Option Value} {M' : IM} {o : IM} (h : F_235 a1 M = some o) (hC : v = none ∧ M' = o) : Rc X d 235 0 [some (.ref (77)), some (.int (a1))] [] M v M' := by
  unfold F_235 at h
  refine Rc.run tb_235 1 (pc' := 1) (ls' := [some (.ref (77)), some (.int (a1))]) (st' := [.ref (77)]) rfl rfl ?_
  refine Rc.getI tb_235 rfl rfl ob_77 (by decide +kernel) tg_77_27 ?_
  refine Rc.run tb_235 1 (pc' := 6) (ls' := [some (.ref (77)), some (.int (a1))]) (st' := [.int (40), .int (M 77 27)]) rfl rfl ?_
  refine Rc.icmp_ge (pc1 := 29) tb_235 rfl rfl (by decide) (by decide) (fun hb2 => ?_) (fun hb2 => ?_)
  · rw [if_pos hb2] at h
    obtain rfl := Option.some.inj h
    obtain ⟨rfl, rfl⟩ := hC
    exact Rc.vret tb_235 rfl mR_235
  · rw [if_neg hb2] at h
    refine Rc.run tb_235 1 (pc' := 10) (ls' := [some (.ref (77)), some (.int (a1))]) (st' := [.ref (77)]) rfl rfl ?_
    refine Rc.getR tb_235 rfl rfl ob_77 (by decide +kernel) tg_77_26 (by decide) ?_
    refine Rc.run tb_235 1 (pc' := 14) (ls' := [some (.ref (77)), some (.int (a1))]) (st' := [.ref (77), .ref (93)]) rfl rfl ?_
    refine Rc.getI tb_235 rfl rfl ob_77 (by decide +kernel) tg_77_27 ?_
    refine Rc.run tb_235 1 (pc' := 18) (ls' := [some (.ref (77)), some (.int (a1))]) (st' := [.int (a1), .int (M 77 27), .ref (93)]) rfl rfl ?_
    by_cases hb1 : inb (M 77 27) 40 = true
    · rw [if_pos hb1] at h
      refine Rc.iast tb_235 rfl rfl ia_93 hb1 ?_
      refine Rc.run tb_235 2 (pc' := 21) (ls' := [some (.ref (77)), some (.int (a1))]) (st' := [.ref (77), .ref (77)]) rfl rfl ?_
      refine Rc.getI tb_235 rfl rfl ob_77 (by decide +kernel) tg_77_27 ?_
      refine Rc.run tb_235 2 (pc' := 26) (ls' := [some (.ref (77)), some (.int (a1))]) (st' := [.int (((iset M 93 (M 77 27).toNatClampNeg a1) 77 27) + 1), .ref (77)]) rfl rfl ?_
      refine Rc.putI tb_235 rfl rfl ob_77 (by decide +kernel) tg_77_27 rfl ?_
      obtain rfl := Option.some.inj h
      obtain ⟨rfl, rfl⟩ := hC
      exact Rc.vret tb_235 rfl mR_235
    · rw [if_neg hb1] at h
      cases h
theorem T_235 {X : AX} {d : Nat} (hd : 0 ≤ d) {a1 : Int32} {M : IM} {M1 : IM} (h : F_235 a1 M = some M1) : Rc X d 235 0 [some (.ref (77)), some (.int (a1))] [] M none M1 := TF_235 hd h ⟨rfl, rfl⟩
/-! 236: NineDemandsModel.hasOwn -/
def F_236 (a1 : Int32) (a2 : Int32) : Int32 := if a1 = 0 then 1 else (if a1 = 1 then (if a2 = 1 then 1 else 0) else (if a1 = 2 then (if a2 = 0 then 1 else (if a2 = 3 then 1 else 0)) else (if a1 = 3 then (if a2 = 2 then 1 else 0) else (if a1 = 4 then (if a2 = 1 then 1 else (if a2 = 3 then 1 else 0)) else (if a2 = 0 then 1 else (if a2 = 2 then 1 else 0))))))
theorem TF_236 {X : AX} {d : Nat} (hd : 0 ≤ d) {a1 : Int32} {a2 : Int32} {M : IM} {v : Option Value} {M' : IM} {o : Int32} (h : F_236 a1 a2 = o) (hC : v = some (.int o) ∧ M' = M) : Rc X d 236 0 [some (.int (a1)), some (.int (a2))] [] M v M' := by
  unfold F_236 at h
  refine Rc.run tb_236 1 (pc' := 1) (ls' := [some (.int (a1)), some (.int (a2))]) (st' := [.int (a1)]) rfl rfl ?_
  by_cases hk3 : a1 = 0
  · rw [if_pos hk3] at h
    refine Rc.table (off := 35) (pc1 := 36) tb_236 rfl rfl (by decide) (tsw_at (k := 0) (by rw [hk3]; decide) (by decide +kernel)) (by decide) (by decide) ?_
    refine Rc.run tb_236 1 (pc' := 37) (ls' := [some (.int (a1)), some (.int (a2))]) (st' := [.int (1)]) rfl rfl ?_
    subst h
    obtain ⟨rfl, rfl⟩ := hC
    exact Rc.zret tb_236 rfl mR_236 (Or.inr rfl)
  · rw [if_neg hk3] at h
    by_cases hk4 : a1 = 1
    · rw [if_pos hk4] at h
      refine Rc.table (off := 37) (pc1 := 38) tb_236 rfl rfl (by decide) (tsw_at (k := 1) (by rw [hk4]; decide) (by decide +kernel)) (by decide) (by decide) ?_
      refine Rc.run tb_236 2 (pc' := 40) (ls' := [some (.int (a1)), some (.int (a2))]) (st' := [.int (1), .int (a2)]) rfl rfl ?_
      refine Rc.icmp_ne (pc1 := 47) tb_236 rfl rfl (by decide) (by decide) (fun hb13 => ?_) (fun hb13 => ?_)
      · rw [if_pos hb13] at h
        refine Rc.run tb_236 2 (pc' := 48) (ls' := [some (.int (a1)), some (.int (a2))]) (st' := [.int (1)]) rfl rfl ?_
        subst h
        obtain ⟨rfl, rfl⟩ := hC
        exact Rc.zret tb_236 rfl mR_236 (Or.inr rfl)
      · rw [if_neg hb13] at h
        refine Rc.run tb_236 1 (pc' := 48) (ls' := [some (.int (a1)), some (.int (a2))]) (st' := [.int (0)]) rfl rfl ?_
        subst h
        obtain ⟨rfl, rfl⟩ := hC
        exact Rc.zret tb_236 rfl mR_236 (Or.inl rfl)
    · rw [if_neg hk4] at h
      by_cases hk5 : a1 = 2
      · rw [if_pos hk5] at h
        refine Rc.table (off := 48) (pc1 := 49) tb_236 rfl rfl (by decide) (tsw_at (k := 2) (by rw [hk5]; decide) (by decide +kernel)) (by decide) (by decide) ?_
        refine Rc.run tb_236 1 (pc' := 50) (ls' := [some (.int (a1)), some (.int (a2))]) (st' := [.int (a2)]) rfl rfl ?_
        refine Rc.if_eq (pc1 := 58) tb_236 rfl rfl (by decide) (by decide) (fun hb12 => ?_) (fun hb12 => ?_)
        · rw [if_pos hb12] at h
          refine Rc.run tb_236 2 (pc' := 63) (ls' := [none, none]) (st' := [.int (1)]) rfl rfl ?_
          subst h
          obtain ⟨rfl, rfl⟩ := hC
          exact Rc.zret tb_236 rfl mR_236 (Or.inr rfl)
        · rw [if_neg hb12] at h
          refine Rc.run tb_236 2 (pc' := 55) (ls' := [some (.int (a1)), some (.int (a2))]) (st' := [.int (3), .int (a2)]) rfl rfl ?_
          refine Rc.icmp_ne (pc1 := 62) tb_236 rfl rfl (by decide) (by decide) (fun hb11 => ?_) (fun hb11 => ?_)
          · rw [if_pos hb11] at h
            refine Rc.run tb_236 2 (pc' := 63) (ls' := [none, none]) (st' := [.int (1)]) rfl rfl ?_
            subst h
            obtain ⟨rfl, rfl⟩ := hC
            exact Rc.zret tb_236 rfl mR_236 (Or.inr rfl)
          · rw [if_neg hb11] at h
            refine Rc.run tb_236 1 (pc' := 63) (ls' := [some (.int (a1)), some (.int (a2))]) (st' := [.int (0)]) rfl rfl ?_
            subst h
            obtain ⟨rfl, rfl⟩ := hC
            exact Rc.zret tb_236 rfl mR_236 (Or.inl rfl)
      · rw [if_neg hk5] at h
        by_cases hk6 : a1 = 3
        · rw [if_pos hk6] at h
          refine Rc.table (off := 63) (pc1 := 64) tb_236 rfl rfl (by decide) (tsw_at (k := 3) (by rw [hk6]; decide) (by decide +kernel)) (by decide) (by decide) ?_
          refine Rc.run tb_236 2 (pc' := 66) (ls' := [some (.int (a1)), some (.int (a2))]) (st' := [.int (2), .int (a2)]) rfl rfl ?_
          refine Rc.icmp_ne (pc1 := 73) tb_236 rfl rfl (by decide) (by decide) (fun hb10 => ?_) (fun hb10 => ?_)
          · rw [if_pos hb10] at h
            refine Rc.run tb_236 2 (pc' := 74) (ls' := [some (.int (a1)), some (.int (a2))]) (st' := [.int (1)]) rfl rfl ?_
            subst h
            obtain ⟨rfl, rfl⟩ := hC
            exact Rc.zret tb_236 rfl mR_236 (Or.inr rfl)
          · rw [if_neg hb10] at h
            refine Rc.run tb_236 1 (pc' := 74) (ls' := [some (.int (a1)), some (.int (a2))]) (st' := [.int (0)]) rfl rfl ?_
            subst h
            obtain ⟨rfl, rfl⟩ := hC
            exact Rc.zret tb_236 rfl mR_236 (Or.inl rfl)
        · rw [if_neg hk6] at h
          by_cases hk7 : a1 = 4
          · rw [if_pos hk7] at h
            refine Rc.table (off := 74) (pc1 := 75) tb_236 rfl rfl (by decide) (tsw_at (k := 4) (by rw [hk7]; decide) (by decide +kernel)) (by decide) (by decide) ?_
            refine Rc.run tb_236 2 (pc' := 77) (ls' := [some (.int (a1)), some (.int (a2))]) (st' := [.int (1), .int (a2)]) rfl rfl ?_
            refine Rc.icmp_eq (pc1 := 85) tb_236 rfl rfl (by decide) (by decide) (fun hb9 => ?_) (fun hb9 => ?_)
            · rw [if_pos hb9] at h
              refine Rc.run tb_236 2 (pc' := 90) (ls' := [none, none]) (st' := [.int (1)]) rfl rfl ?_
              subst h
              obtain ⟨rfl, rfl⟩ := hC
              exact Rc.zret tb_236 rfl mR_236 (Or.inr rfl)
            · rw [if_neg hb9] at h
              refine Rc.run tb_236 2 (pc' := 82) (ls' := [some (.int (a1)), some (.int (a2))]) (st' := [.int (3), .int (a2)]) rfl rfl ?_
              refine Rc.icmp_ne (pc1 := 89) tb_236 rfl rfl (by decide) (by decide) (fun hb8 => ?_) (fun hb8 => ?_)
              · rw [if_pos hb8] at h
                refine Rc.run tb_236 2 (pc' := 90) (ls' := [none, none]) (st' := [.int (1)]) rfl rfl ?_
                subst h
                obtain ⟨rfl, rfl⟩ := hC
                exact Rc.zret tb_236 rfl mR_236 (Or.inr rfl)
              · rw [if_neg hb8] at h
                refine Rc.run tb_236 1 (pc' := 90) (ls' := [some (.int (a1)), some (.int (a2))]) (st' := [.int (0)]) rfl rfl ?_
                subst h
                obtain ⟨rfl, rfl⟩ := hC
                exact Rc.zret tb_236 rfl mR_236 (Or.inl rfl)
          · rw [if_neg hk7] at h
            refine Rc.table (off := 90) (pc1 := 91) tb_236 rfl rfl (by decide) (tsw_df [0, 1, 2, 3, 4] (by decide +kernel) (fun k hk => by simp only [List.mem_cons, List.not_mem_nil, or_false] at hk; rcases hk with rfl | rfl | rfl | rfl | rfl <;> assumption)) (by decide) (by decide) ?_
            refine Rc.run tb_236 1 (pc' := 92) (ls' := [some (.int (a1)), some (.int (a2))]) (st' := [.int (a2)]) rfl rfl ?_
            refine Rc.if_eq (pc1 := 100) tb_236 rfl rfl (by decide) (by decide) (fun hb2 => ?_) (fun hb2 => ?_)
            · rw [if_pos hb2] at h
              refine Rc.run tb_236 2 (pc' := 105) (ls' := [none, none]) (st' := [.int (1)]) rfl rfl ?_
              subst h
              obtain ⟨rfl, rfl⟩ := hC
              exact Rc.zret tb_236 rfl mR_236 (Or.inr rfl)
            · rw [if_neg hb2] at h
              refine Rc.run tb_236 2 (pc' := 97) (ls' := [some (.int (a1)), some (.int (a2))]) (st' := [.int (2), .int (a2)]) rfl rfl ?_
              refine Rc.icmp_ne (pc1 := 104) tb_236 rfl rfl (by decide) (by decide) (fun hb1 => ?_) (fun hb1 => ?_)
              · rw [if_pos hb1] at h
                refine Rc.run tb_236 2 (pc' := 105) (ls' := [none, none]) (st' := [.int (1)]) rfl rfl ?_
                subst h
                obtain ⟨rfl, rfl⟩ := hC
                exact Rc.zret tb_236 rfl mR_236 (Or.inr rfl)
              · rw [if_neg hb1] at h
                refine Rc.run tb_236 1 (pc' := 105) (ls' := [some (.int (a1)), some (.int (a2))]) (st' := [.int (0)]) rfl rfl ?_
                subst h
                obtain ⟨rfl, rfl⟩ := hC
                exact Rc.zret tb_236 rfl mR_236 (Or.inl rfl)
theorem T_236 {X : AX} {d : Nat} (hd : 0 ≤ d) (a1 : Int32) (a2 : Int32) (M : IM) : Rc X d 236 0 [some (.int (a1)), some (.int (a2))] [] M (some (.int (F_236 a1 a2))) M := TF_236 hd rfl ⟨rfl, rfl⟩
/-! 241: NineDemandsModel.trace -/
def F_241 (a1 : Int32) (M : IM) : Option (Int32 × IM) := if F_157 a1 (0 : Int32) ((M 77 27) - 1) = 0 then (match F_156 ((-1000002) : Int32) M with | none => none | some (c2, M2) => (some ((c2, M2)))) else (if inb a1 40 = true then (some ((M 93 a1.toNatClampNeg, M))) else none)
theorem TF_241 {X : AX} {d : Nat} (hd : 1 ≤ d) {a1 : Int32} {M : IM} {v : Option Value} {M' : IM} {o : Int32 × IM} (h : F_241 a1 M = some o) (hC : v = some (.int o.1) ∧ M' = o.2) : Rc X d 241 0 [some (.ref (77)), some (.int (a1))] [] M v M' := by
  obtain ⟨d, rfl⟩ : ∃ e, d = e + 1 := ⟨d - 1, by omega⟩
  unfold F_241 at h
  refine Rc.run tb_241 3 (pc' := 3) (ls' := [some (.ref (77)), some (.int (a1))]) (st' := [.ref (77), .int (0), .int (a1)]) rfl rfl ?_
  refine Rc.getI tb_241 rfl rfl ob_77 (by decide +kernel) tg_77_27 ?_
  refine Rc.run tb_241 2 (pc' := 8) (ls' := [some (.ref (77)), some (.int (a1))]) (st' := [.int ((M 77 27) - 1), .int (0), .int (a1)]) rfl rfl ?_
  have hq1 := T_157 (X := X) (d := d) (by omega) a1 (0 : Int32) ((M 77 27) - 1) M
  have hz1 := Rc.bool mR_157 hq1
  refine Rc.callS tb_241 rfl rfl rfl mS_157 mP_157 mL_157 rfl rfl rfl hq1 ?_
  refine Rc.if_eq (pc1 := 23) tb_241 rfl rfl (by decide) (by decide) (fun hb4 => ?_) (fun hb4 => ?_)
  · rw [if_pos hb4] at h
    refine Rc.run tb_241 2 (pc' := 26) (ls' := [some (.ref (77)), some (.int (a1))]) (st' := [.int ((-1000002)), .ref (77)]) rfl rfl ?_
    cases hc2 : F_156 ((-1000002) : Int32) M with
    | none => rw [hc2] at h; cases h
    | some r2 =>
      obtain ⟨c2, M2⟩ := r2
      rw [hc2] at h
      dsimp only at h
      have hq2 := T_156 (X := X) (d := d) (by omega) (M := M) hc2
      refine Rc.callV tb_241 rfl rfl rfl mS_156 mP_156 mL_156 mO_156 rfl rfl ob_77 rfl rfl hq2 ?_
      obtain rfl := Option.some.inj h
      obtain ⟨rfl, rfl⟩ := hC
      exact Rc.iret (ins := .ireturn) tb_241 rfl mR_241
  · rw [if_neg hb4] at h
    refine Rc.run tb_241 1 (pc' := 15) (ls' := [some (.ref (77)), some (.int (a1))]) (st' := [.ref (77)]) rfl rfl ?_
    refine Rc.getR tb_241 rfl rfl ob_77 (by decide +kernel) tg_77_26 (by decide) ?_
    refine Rc.run tb_241 1 (pc' := 19) (ls' := [some (.ref (77)), some (.int (a1))]) (st' := [.int (a1), .ref (93)]) rfl rfl ?_
    by_cases hb3 : inb a1 40 = true
    · rw [if_pos hb3] at h
      refine Rc.iald tb_241 rfl rfl ia_93 hb3 ?_
      refine Rc.run tb_241 1 (pc' := 29) (ls' := [some (.ref (77)), some (.int (a1))]) (st' := [.int (M 93 a1.toNatClampNeg)]) rfl rfl ?_
      obtain rfl := Option.some.inj h
      obtain ⟨rfl, rfl⟩ := hC
      exact Rc.iret (ins := .ireturn) tb_241 rfl mR_241
    · rw [if_neg hb3] at h
      cases h
theorem T_241 {X : AX} {d : Nat} (hd : 1 ≤ d) {a1 : Int32} {M : IM} {x : Int32} {M1 : IM} (h : F_241 a1 M = some (x, M1)) : Rc X d 241 0 [some (.ref (77)), some (.int (a1))] [] M (some (.int x)) M1 := TF_241 hd h ⟨rfl, rfl⟩
/-! 243: NineDemandsModel.sheet -/
def J_243_29 (M : IM) : Option (Int32 × IM) := (match F_156 ((-1000001) : Int32) M with | none => none | some (c2, M2) => (some ((c2, M2))))
def B_243_94 (x1 : Int32) : (Int32 × IM) → Option ((Int32 × IM) ⊕ (Int32 × IM)) := fun (x4, M) => if (40 : Int32) ≤ x4 then (some (Sum.inr (x4, M))) else (if inb ((40 * x1) + x4) 160 = true then (some (Sum.inl (x4 + 1, iset M 96 ((40 * x1) + x4).toNatClampNeg 0))) else none)
def L_243_94 (x1 : Int32) (x4 : Int32) (M : IM) : Option (Int32 × IM) := loopN (B_243_94 x1) FU (x4, M)
def J_243_90 (x1 : Int32) (s0 : Int32) (s1 : Int32) (M : IM) : Option (Int32 × IM) := if inb s1 4 = true then (match L_243_94 x1 0 (iset M 95 s1.toNatClampNeg s0) with | none => none | some (x4_5, M5) => (some ((1, M5)))) else none
def J_243_69 (x1 : Int32) (x2 : Int32) (x3 : Int32) (M : IM) : Option (Int32 × IM) := if inb x1 4 = true then (if x2 = 0 then (J_243_90 x1 (0 : Int32) x1 (iset M 94 x1.toNatClampNeg x2)) else (J_243_90 x1 x3 x1 (iset M 94 x1.toNatClampNeg x2))) else none
def J_243_52 (x1 : Int32) (x2 : Int32) (x3 : Int32) (M : IM) : Option (Int32 × IM) := if x2 = 0 then (J_243_69 x1 x2 x3 M) else (if x3 ≤ 40 then (J_243_69 x1 x2 x3 M) else (match F_156 ((-1000001) : Int32) M with | none => none | some (c9, M9) => (some ((c9, M9)))))
def J_243_36 (x1 : Int32) (x2 : Int32) (x3 : Int32) (M : IM) : Option (Int32 × IM) := if x2 = 0 then (J_243_52 x1 x2 x3 M) else (if (0 : Int32) ≤ x3 then (J_243_52 x1 x2 x3 M) else (match F_156 ((-1000003) : Int32) M with | none => none | some (c12, M12) => (some ((c12, M12)))))
def F_243 (a1 : Int32) (a2 : Int32) (a3 : Int32) (M : IM) : Option (Int32 × IM) := if F_242 a1 = 0 then (J_243_29 M) else (if a2 = 0 then (J_243_36 a1 a2 a3 M) else (if a2 = 8 then (J_243_36 a1 a2 a3 M) else (if a2 = 16 then (J_243_36 a1 a2 a3 M) else (if a2 = 32 then (J_243_36 a1 a2 a3 M) else (J_243_29 M)))))
theorem TJ_243_29 {X : AX} {d : Nat} (hd : 2 ≤ d) {M : IM} {v : Option Value} {M' : IM} {o : Int32 × IM} (h : J_243_29 M = some o) (hC : v = some (.int o.1) ∧ M' = o.2) : Rc X d 243 29 [some (.ref (77)), none, none, none, none] [] M v M' := by
  obtain ⟨d, rfl⟩ : ∃ e, d = e + 1 := ⟨d - 1, by omega⟩
  unfold J_243_29 at h
  refine Rc.run tb_243 2 (pc' := 32) (ls' := [some (.ref (77)), none, none, none, none]) (st' := [.int ((-1000001)), .ref (77)]) rfl rfl ?_
  cases hc2 : F_156 ((-1000001) : Int32) M with
  | none => rw [hc2] at h; cases h
  | some r2 =>
    obtain ⟨c2, M2⟩ := r2
    rw [hc2] at h
    dsimp only at h
    have hq2 := T_156 (X := X) (d := d) (by omega) (M := M) hc2
    refine Rc.callV tb_243 rfl rfl rfl mS_156 mP_156 mL_156 mO_156 rfl rfl ob_77 rfl rfl hq2 ?_
    obtain rfl := Option.some.inj h
    obtain ⟨rfl, rfl⟩ := hC
    exact Rc.iret (ins := .ireturn) tb_243 rfl mR_243
theorem TB_243_94 {X : AX} {d : Nat} (hd : 2 ≤ d) {x1 : Int32} {v : Option Value} {M' : IM} : ∀ (s : Int32 × IM) (o : (Int32 × IM) ⊕ (Int32 × IM)), B_243_94 x1 s = some o → (∀ s', o = .inl s' → (fun (x4, M) => Rc X d 243 94 [some (.ref (77)), some (.int (x1)), none, none, some (.int (x4))] [] M v M') s') → (∀ r, o = .inr r → (fun (x4, M) => Rc X d 243 120 [none, none, none, none, none] [] M v M') r) → (fun (x4, M) => Rc X d 243 94 [some (.ref (77)), some (.int (x1)), none, none, some (.int (x4))] [] M v M') s := by
  rintro ⟨x4, M⟩ o h hP hE
  show Rc X d 243 94 [some (.ref (77)), some (.int (x1)), none, none, some (.int (x4))] [] M v M'
  obtain ⟨d, rfl⟩ : ∃ e, d = e + 1 := ⟨d - 1, by omega⟩
  unfold B_243_94 at h
  dsimp only at h hP hE
  refine Rc.run tb_243 2 (pc' := 98) (ls' := [some (.ref (77)), some (.int (x1)), none, none, some (.int (x4))]) (st' := [.int (40), .int (x4)]) rfl rfl ?_
  refine Rc.icmp_ge (pc1 := 120) tb_243 rfl rfl (by decide) (by decide) (fun hb4 => ?_) (fun hb4 => ?_)
  · rw [if_pos hb4] at h
    refine Rc.mask (b := 0) ((tb_243.2 120).trans rfl) (ls' := [none, none, none, none, none]) rfl ?_
    obtain rfl := Option.some.inj h
    exact hE _ rfl
  · rw [if_neg hb4] at h
    refine Rc.run tb_243 1 (pc' := 102) (ls' := [some (.ref (77)), some (.int (x1)), none, none, some (.int (x4))]) (st' := [.ref (77)]) rfl rfl ?_
    refine Rc.getR tb_243 rfl rfl ob_77 (by decide +kernel) tg_77_31 (by decide) ?_
    refine Rc.run tb_243 6 (pc' := 113) (ls' := [some (.ref (77)), some (.int (x1)), none, none, some (.int (x4))]) (st' := [.int (0), .int ((40 * x1) + x4), .ref (96)]) rfl rfl ?_
    by_cases hb3 : inb ((40 * x1) + x4) 160 = true
    · rw [if_pos hb3] at h
      refine Rc.iast tb_243 rfl rfl ia_96 hb3 ?_
      refine Rc.run tb_243 2 (pc' := 94) (ls' := [some (.ref (77)), some (.int (x1)), none, none, some (.int (x4 + 1))]) (st' := []) rfl rfl ?_
      refine Rc.mask (b := 19) ((tb_243.2 94).trans rfl) (ls' := [some (.ref (77)), some (.int (x1)), none, none, some (.int (x4 + 1))]) rfl ?_
      obtain rfl := Option.some.inj h
      exact hP _ rfl
    · rw [if_neg hb3] at h
      cases h
theorem TL_243_94 {X : AX} {d : Nat} (hd : 2 ≤ d) {x1 : Int32} {x4 : Int32} {M : IM} {v : Option Value} {M' : IM} {r : Int32 × IM} (h : L_243_94 x1 x4 M = some r) (hE : (fun (x4, M) => Rc X d 243 120 [none, none, none, none, none] [] M v M') r) : Rc X d 243 94 [some (.ref (77)), some (.int (x1)), none, none, some (.int (x4))] [] M v M' := by
  exact loopN_rc (P := fun (x4, M) => Rc X d 243 94 [some (.ref (77)), some (.int (x1)), none, none, some (.int (x4))] [] M v M') (E := fun (x4, M) => Rc X d 243 120 [none, none, none, none, none] [] M v M') (TB_243_94 (X := X) hd) FU _ r h hE
theorem TJ_243_90 {X : AX} {d : Nat} (hd : 2 ≤ d) {x1 : Int32} {s0 : Int32} {s1 : Int32} {M : IM} {v : Option Value} {M' : IM} {o : Int32 × IM} (h : J_243_90 x1 s0 s1 M = some o) (hC : v = some (.int o.1) ∧ M' = o.2) : Rc X d 243 90 [some (.ref (77)), some (.int (x1)), none, none, none] [.int (s0), .int (s1), .ref (95)] M v M' := by
  obtain ⟨d, rfl⟩ : ∃ e, d = e + 1 := ⟨d - 1, by omega⟩
  unfold J_243_90 at h
  by_cases hb6 : inb s1 4 = true
  · rw [if_pos hb6] at h
    refine Rc.iast tb_243 rfl rfl ia_95 hb6 ?_
    refine Rc.run tb_243 2 (pc' := 94) (ls' := [some (.ref (77)), some (.int (x1)), none, none, some (.int (0))]) (st' := []) rfl rfl ?_
    refine Rc.mask (b := 19) ((tb_243.2 94).trans rfl) (ls' := [some (.ref (77)), some (.int (x1)), none, none, some (.int (0))]) rfl ?_
    cases hl5 : L_243_94 x1 0 (iset M 95 s1.toNatClampNeg s0) with
    | none => rw [hl5] at h; cases h
    | some r5 =>
      obtain ⟨x4_5, M5⟩ := r5
      rw [hl5] at h
      dsimp only at h
      refine TL_243_94 (X := X) (d := d + 1) (by omega) hl5 ?_
      refine Rc.run tb_243 1 (pc' := 121) (ls' := [none, none, none, none, none]) (st' := [.int (1)]) rfl rfl ?_
      obtain rfl := Option.some.inj h
      obtain ⟨rfl, rfl⟩ := hC
      exact Rc.iret (ins := .ireturn) tb_243 rfl mR_243
  · rw [if_neg hb6] at h
    cases h
theorem TJ_243_69 {X : AX} {d : Nat} (hd : 2 ≤ d) {x1 : Int32} {x2 : Int32} {x3 : Int32} {M : IM} {v : Option Value} {M' : IM} {o : Int32 × IM} (h : J_243_69 x1 x2 x3 M = some o) (hC : v = some (.int o.1) ∧ M' = o.2) : Rc X d 243 69 [some (.ref (77)), some (.int (x1)), some (.int (x2)), some (.int (x3)), none] [] M v M' := by
  obtain ⟨d, rfl⟩ : ∃ e, d = e + 1 := ⟨d - 1, by omega⟩
  unfold J_243_69 at h
  refine Rc.run tb_243 1 (pc' := 70) (ls' := [some (.ref (77)), some (.int (x1)), some (.int (x2)), some (.int (x3)), none]) (st' := [.ref (77)]) rfl rfl ?_
  refine Rc.getR tb_243 rfl rfl ob_77 (by decide +kernel) tg_77_29 (by decide) ?_
  refine Rc.run tb_243 2 (pc' := 75) (ls' := [some (.ref (77)), some (.int (x1)), some (.int (x2)), some (.int (x3)), none]) (st' := [.int (x2), .int (x1), .ref (94)]) rfl rfl ?_
  by_cases hb8 : inb x1 4 = true
  · rw [if_pos hb8] at h
    refine Rc.iast tb_243 rfl rfl ia_94 hb8 ?_
    refine Rc.run tb_243 1 (pc' := 77) (ls' := [some (.ref (77)), some (.int (x1)), some (.int (x2)), some (.int (x3)), none]) (st' := [.ref (77)]) rfl rfl ?_
    refine Rc.getR tb_243 rfl rfl ob_77 (by decide +kernel) tg_77_30 (by decide) ?_
    refine Rc.run tb_243 2 (pc' := 82) (ls' := [some (.ref (77)), some (.int (x1)), some (.int (x2)), some (.int (x3)), none]) (st' := [.int (x2), .int (x1), .ref (95)]) rfl rfl ?_
    refine Rc.if_ne (pc1 := 89) tb_243 rfl rfl (by decide) (by decide) (fun hb7 => ?_) (fun hb7 => ?_)
    · rw [if_pos hb7] at h
      refine Rc.run tb_243 2 (pc' := 90) (ls' := [some (.ref (77)), some (.int (x1)), some (.int (x2)), some (.int (x3)), none]) (st' := [.int (0), .int (x1), .ref (95)]) rfl rfl ?_
      refine Rc.mask (b := 3) ((tb_243.2 90).trans rfl) (ls' := [some (.ref (77)), some (.int (x1)), none, none, none]) rfl ?_
      exact TJ_243_90 (X := X) (d := d + 1) (by omega) h hC
    · rw [if_neg hb7] at h
      refine Rc.run tb_243 1 (pc' := 90) (ls' := [some (.ref (77)), some (.int (x1)), some (.int (x2)), some (.int (x3)), none]) (st' := [.int (x3), .int (x1), .ref (95)]) rfl rfl ?_
      refine Rc.mask (b := 3) ((tb_243.2 90).trans rfl) (ls' := [some (.ref (77)), some (.int (x1)), none, none, none]) rfl ?_
      exact TJ_243_90 (X := X) (d := d + 1) (by omega) h hC
  · rw [if_neg hb8] at h
    cases h
theorem TJ_243_52 {X : AX} {d : Nat} (hd : 2 ≤ d) {x1 : Int32} {x2 : Int32} {x3 : Int32} {M : IM} {v : Option Value} {M' : IM} {o : Int32 × IM} (h : J_243_52 x1 x2 x3 M = some o) (hC : v = some (.int o.1) ∧ M' = o.2) : Rc X d 243 52 [some (.ref (77)), some (.int (x1)), some (.int (x2)), some (.int (x3)), none] [] M v M' := by
  obtain ⟨d, rfl⟩ : ∃ e, d = e + 1 := ⟨d - 1, by omega⟩
  unfold J_243_52 at h
  refine Rc.run tb_243 1 (pc' := 53) (ls' := [some (.ref (77)), some (.int (x1)), some (.int (x2)), some (.int (x3)), none]) (st' := [.int (x2)]) rfl rfl ?_
  refine Rc.if_eq (pc1 := 69) tb_243 rfl rfl (by decide) (by decide) (fun hb11 => ?_) (fun hb11 => ?_)
  · rw [if_pos hb11] at h
    refine Rc.mask (b := 15) ((tb_243.2 69).trans rfl) (ls' := [some (.ref (77)), some (.int (x1)), some (.int (x2)), some (.int (x3)), none]) rfl ?_
    exact TJ_243_69 (X := X) (d := d + 1) (by omega) h hC
  · rw [if_neg hb11] at h
    refine Rc.run tb_243 2 (pc' := 59) (ls' := [some (.ref (77)), some (.int (x1)), some (.int (x2)), some (.int (x3)), none]) (st' := [.int (40), .int (x3)]) rfl rfl ?_
    refine Rc.icmp_le (pc1 := 69) tb_243 rfl rfl (by decide) (by decide) (fun hb10 => ?_) (fun hb10 => ?_)
    · rw [if_pos hb10] at h
      refine Rc.mask (b := 15) ((tb_243.2 69).trans rfl) (ls' := [some (.ref (77)), some (.int (x1)), some (.int (x2)), some (.int (x3)), none]) rfl ?_
      exact TJ_243_69 (X := X) (d := d + 1) (by omega) h hC
    · rw [if_neg hb10] at h
      refine Rc.run tb_243 2 (pc' := 65) (ls' := [some (.ref (77)), some (.int (x1)), some (.int (x2)), some (.int (x3)), none]) (st' := [.int ((-1000001)), .ref (77)]) rfl rfl ?_
      cases hc9 : F_156 ((-1000001) : Int32) M with
      | none => rw [hc9] at h; cases h
      | some r9 =>
        obtain ⟨c9, M9⟩ := r9
        rw [hc9] at h
        dsimp only at h
        have hq9 := T_156 (X := X) (d := d) (by omega) (M := M) hc9
        refine Rc.callV tb_243 rfl rfl rfl mS_156 mP_156 mL_156 mO_156 rfl rfl ob_77 rfl rfl hq9 ?_
        obtain rfl := Option.some.inj h
        obtain ⟨rfl, rfl⟩ := hC
        exact Rc.iret (ins := .ireturn) tb_243 rfl mR_243
theorem TJ_243_36 {X : AX} {d : Nat} (hd : 2 ≤ d) {x1 : Int32} {x2 : Int32} {x3 : Int32} {M : IM} {v : Option Value} {M' : IM} {o : Int32 × IM} (h : J_243_36 x1 x2 x3 M = some o) (hC : v = some (.int o.1) ∧ M' = o.2) : Rc X d 243 36 [some (.ref (77)), some (.int (x1)), some (.int (x2)), some (.int (x3)), none] [] M v M' := by
  obtain ⟨d, rfl⟩ : ∃ e, d = e + 1 := ⟨d - 1, by omega⟩
  unfold J_243_36 at h
  refine Rc.run tb_243 1 (pc' := 37) (ls' := [some (.ref (77)), some (.int (x1)), some (.int (x2)), some (.int (x3)), none]) (st' := [.int (x2)]) rfl rfl ?_
  refine Rc.if_eq (pc1 := 52) tb_243 rfl rfl (by decide) (by decide) (fun hb14 => ?_) (fun hb14 => ?_)
  · rw [if_pos hb14] at h
    refine Rc.mask (b := 15) ((tb_243.2 52).trans rfl) (ls' := [some (.ref (77)), some (.int (x1)), some (.int (x2)), some (.int (x3)), none]) rfl ?_
    exact TJ_243_52 (X := X) (d := d + 1) (by omega) h hC
  · rw [if_neg hb14] at h
    refine Rc.run tb_243 1 (pc' := 41) (ls' := [some (.ref (77)), some (.int (x1)), some (.int (x2)), some (.int (x3)), none]) (st' := [.int (x3)]) rfl rfl ?_
    refine Rc.if_ge (pc1 := 52) tb_243 rfl rfl (by decide) (by decide) (fun hb13 => ?_) (fun hb13 => ?_)
    · rw [if_pos hb13] at h
      refine Rc.mask (b := 15) ((tb_243.2 52).trans rfl) (ls' := [some (.ref (77)), some (.int (x1)), some (.int (x2)), some (.int (x3)), none]) rfl ?_
      exact TJ_243_52 (X := X) (d := d + 1) (by omega) h hC
    · rw [if_neg hb13] at h
      refine Rc.run tb_243 2 (pc' := 48) (ls' := [some (.ref (77)), some (.int (x1)), some (.int (x2)), some (.int (x3)), none]) (st' := [.int ((-1000003)), .ref (77)]) rfl rfl ?_
      cases hc12 : F_156 ((-1000003) : Int32) M with
      | none => rw [hc12] at h; cases h
      | some r12 =>
        obtain ⟨c12, M12⟩ := r12
        rw [hc12] at h
        dsimp only at h
        have hq12 := T_156 (X := X) (d := d) (by omega) (M := M) hc12
        refine Rc.callV tb_243 rfl rfl rfl mS_156 mP_156 mL_156 mO_156 rfl rfl ob_77 rfl rfl hq12 ?_
        obtain rfl := Option.some.inj h
        obtain ⟨rfl, rfl⟩ := hC
        exact Rc.iret (ins := .ireturn) tb_243 rfl mR_243
theorem TF_243 {X : AX} {d : Nat} (hd : 2 ≤ d) {a1 : Int32} {a2 : Int32} {a3 : Int32} {M : IM} {v : Option Value} {M' : IM} {o : Int32 × IM} (h : F_243 a1 a2 a3 M = some o) (hC : v = some (.int o.1) ∧ M' = o.2) : Rc X d 243 0 [some (.ref (77)), some (.int (a1)), some (.int (a2)), some (.int (a3)), none] [] M v M' := by
  obtain ⟨d, rfl⟩ : ∃ e, d = e + 1 := ⟨d - 1, by omega⟩
  unfold F_243 at h
  refine Rc.run tb_243 1 (pc' := 1) (ls' := [some (.ref (77)), some (.int (a1)), some (.int (a2)), some (.int (a3)), none]) (st' := [.int (a1)]) rfl rfl ?_
  have hq1 := T_242 (X := X) (d := d) (by omega) a1 M
  have hz1 := Rc.bool mR_242 hq1
  refine Rc.callS tb_243 rfl rfl rfl mS_242 mP_242 mL_242 rfl rfl rfl hq1 ?_
  refine Rc.if_eq (pc1 := 29) tb_243 rfl rfl (by decide) (by decide) (fun hb19 => ?_) (fun hb19 => ?_)
  · rw [if_pos hb19] at h
    refine Rc.mask (b := 1) ((tb_243.2 29).trans rfl) (ls' := [some (.ref (77)), none, none, none, none]) rfl ?_
    exact TJ_243_29 (X := X) (d := d + 1) (by omega) h hC
  · rw [if_neg hb19] at h
    refine Rc.run tb_243 1 (pc' := 8) (ls' := [some (.ref (77)), some (.int (a1)), some (.int (a2)), some (.int (a3)), none]) (st' := [.int (a2)]) rfl rfl ?_
    refine Rc.if_eq (pc1 := 36) tb_243 rfl rfl (by decide) (by decide) (fun hb18 => ?_) (fun hb18 => ?_)
    · rw [if_pos hb18] at h
      refine Rc.mask (b := 15) ((tb_243.2 36).trans rfl) (ls' := [some (.ref (77)), some (.int (a1)), some (.int (a2)), some (.int (a3)), none]) rfl ?_
      exact TJ_243_36 (X := X) (d := d + 1) (by omega) h hC
    · rw [if_neg hb18] at h
      refine Rc.run tb_243 2 (pc' := 14) (ls' := [some (.ref (77)), some (.int (a1)), some (.int (a2)), some (.int (a3)), none]) (st' := [.int (8), .int (a2)]) rfl rfl ?_
      refine Rc.icmp_eq (pc1 := 36) tb_243 rfl rfl (by decide) (by decide) (fun hb17 => ?_) (fun hb17 => ?_)
      · rw [if_pos hb17] at h
        refine Rc.mask (b := 15) ((tb_243.2 36).trans rfl) (ls' := [some (.ref (77)), some (.int (a1)), some (.int (a2)), some (.int (a3)), none]) rfl ?_
        exact TJ_243_36 (X := X) (d := d + 1) (by omega) h hC
      · rw [if_neg hb17] at h
        refine Rc.run tb_243 2 (pc' := 20) (ls' := [some (.ref (77)), some (.int (a1)), some (.int (a2)), some (.int (a3)), none]) (st' := [.int (16), .int (a2)]) rfl rfl ?_
        refine Rc.icmp_eq (pc1 := 36) tb_243 rfl rfl (by decide) (by decide) (fun hb16 => ?_) (fun hb16 => ?_)
        · rw [if_pos hb16] at h
          refine Rc.mask (b := 15) ((tb_243.2 36).trans rfl) (ls' := [some (.ref (77)), some (.int (a1)), some (.int (a2)), some (.int (a3)), none]) rfl ?_
          exact TJ_243_36 (X := X) (d := d + 1) (by omega) h hC
        · rw [if_neg hb16] at h
          refine Rc.run tb_243 2 (pc' := 26) (ls' := [some (.ref (77)), some (.int (a1)), some (.int (a2)), some (.int (a3)), none]) (st' := [.int (32), .int (a2)]) rfl rfl ?_
          refine Rc.icmp_eq (pc1 := 36) tb_243 rfl rfl (by decide) (by decide) (fun hb15 => ?_) (fun hb15 => ?_)
          · rw [if_pos hb15] at h
            refine Rc.mask (b := 15) ((tb_243.2 36).trans rfl) (ls' := [some (.ref (77)), some (.int (a1)), some (.int (a2)), some (.int (a3)), none]) rfl ?_
            exact TJ_243_36 (X := X) (d := d + 1) (by omega) h hC
          · rw [if_neg hb15] at h
            refine Rc.mask (b := 1) ((tb_243.2 29).trans rfl) (ls' := [some (.ref (77)), none, none, none, none]) rfl ?_
            exact TJ_243_29 (X := X) (d := d + 1) (by omega) h hC
theorem T_243 {X : AX} {d : Nat} (hd : 2 ≤ d) {a1 : Int32} {a2 : Int32} {a3 : Int32} {M : IM} {x : Int32} {M1 : IM} (h : F_243 a1 a2 a3 M = some (x, M1)) : Rc X d 243 0 [some (.ref (77)), some (.int (a1)), some (.int (a2)), some (.int (a3)), none] [] M (some (.int x)) M1 := TF_243 hd h ⟨rfl, rfl⟩
/-! 244: NineDemandsModel.put -/
def J_244_96 (s0 : Int32) (s1 : Int32) (M : IM) : Option (Int32 × IM) := if inb s1 160 = true then (some ((1, iset M 96 s1.toNatClampNeg s0))) else none
def F_244 (a1 : Int32) (a2 : Int32) (a3 : Int32) (M : IM) : Option (Int32 × IM) := if F_242 a1 = 0 then (match F_156 ((-1000001) : Int32) M with | none => none | some (c2, M2) => (some ((c2, M2)))) else (if inb a1 4 = true then (if M 94 a1.toNatClampNeg = 0 then (match F_156 ((-1000002) : Int32) M with | none => none | some (c3, M3) => (some ((c3, M3)))) else (if inb a1 4 = true then (if F_157 a2 (0 : Int32) ((M 95 a1.toNatClampNeg) - 1) = 0 then (match F_156 ((-1000001) : Int32) M with | none => none | some (c5, M5) => (some ((c5, M5)))) else (if inb a1 4 = true then (if M 94 a1.toNatClampNeg = 8 then (J_244_96 a3.toInt8.toInt32 ((40 * a1) + a2) M) else (if inb a1 4 = true then (if M 94 a1.toNatClampNeg = 16 then (J_244_96 a3.toInt16.toInt32 ((40 * a1) + a2) M) else (J_244_96 a3 ((40 * a1) + a2) M)) else none)) else none)) else none)) else none)
theorem TJ_244_96 {X : AX} {d : Nat} (hd : 2 ≤ d) {s0 : Int32} {s1 : Int32} {M : IM} {v : Option Value} {M' : IM} {o : Int32 × IM} (h : J_244_96 s0 s1 M = some o) (hC : v = some (.int o.1) ∧ M' = o.2) : Rc X d 244 96 [none, none, none, none] [.int (s0), .int (s1), .ref (96)] M v M' := by
  obtain ⟨d, rfl⟩ : ∃ e, d = e + 1 := ⟨d - 1, by omega⟩
  unfold J_244_96 at h
  by_cases hb6 : inb s1 160 = true
  · rw [if_pos hb6] at h
    refine Rc.iast tb_244 rfl rfl ia_96 hb6 ?_
    refine Rc.run tb_244 1 (pc' := 98) (ls' := [none, none, none, none]) (st' := [.int (1)]) rfl rfl ?_
    obtain rfl := Option.some.inj h
    obtain ⟨rfl, rfl⟩ := hC
    exact Rc.iret (ins := .ireturn) tb_244 rfl mR_244
  · rw [if_neg hb6] at h
    cases h
theorem TF_244 {X : AX} {d : Nat} (hd : 2 ≤ d) {a1 : Int32} {a2 : Int32} {a3 : Int32} {M : IM} {v : Option Value} {M' : IM} {o : Int32 × IM} (h : F_244 a1 a2 a3 M = some o) (hC : v = some (.int o.1) ∧ M' = o.2) : Rc X d 244 0 [some (.ref (77)), some (.int (a1)), some (.int (a2)), some (.int (a3))] [] M v M' := by
  obtain ⟨d, rfl⟩ : ∃ e, d = e + 1 := ⟨d - 1, by omega⟩
  unfold F_244 at h
  refine Rc.run tb_244 1 (pc' := 1) (ls' := [some (.ref (77)), some (.int (a1)), some (.int (a2)), some (.int (a3))]) (st' := [.int (a1)]) rfl rfl ?_
  have hq1 := T_242 (X := X) (d := d) (by omega) a1 M
  have hz1 := Rc.bool mR_242 hq1
  refine Rc.callS tb_244 rfl rfl rfl mS_242 mP_242 mL_242 rfl rfl rfl hq1 ?_
  refine Rc.if_ne (pc1 := 14) tb_244 rfl rfl (by decide) (by decide) (fun hb15 => ?_) (fun hb15 => ?_)
  · rw [if_pos hb15] at h
    refine Rc.run tb_244 2 (pc' := 10) (ls' := [some (.ref (77)), some (.int (a1)), some (.int (a2)), some (.int (a3))]) (st' := [.int ((-1000001)), .ref (77)]) rfl rfl ?_
    cases hc2 : F_156 ((-1000001) : Int32) M with
    | none => rw [hc2] at h; cases h
    | some r2 =>
      obtain ⟨c2, M2⟩ := r2
      rw [hc2] at h
      dsimp only at h
      have hq2 := T_156 (X := X) (d := d) (by omega) (M := M) hc2
      refine Rc.callV tb_244 rfl rfl rfl mS_156 mP_156 mL_156 mO_156 rfl rfl ob_77 rfl rfl hq2 ?_
      obtain rfl := Option.some.inj h
      obtain ⟨rfl, rfl⟩ := hC
      exact Rc.iret (ins := .ireturn) tb_244 rfl mR_244
  · rw [if_neg hb15] at h
    refine Rc.run tb_244 1 (pc' := 15) (ls' := [some (.ref (77)), some (.int (a1)), some (.int (a2)), some (.int (a3))]) (st' := [.ref (77)]) rfl rfl ?_
    refine Rc.getR tb_244 rfl rfl ob_77 (by decide +kernel) tg_77_29 (by decide) ?_
    refine Rc.run tb_244 1 (pc' := 19) (ls' := [some (.ref (77)), some (.int (a1)), some (.int (a2)), some (.int (a3))]) (st' := [.int (a1), .ref (94)]) rfl rfl ?_
    by_cases hb14 : inb a1 4 = true
    · rw [if_pos hb14] at h
      refine Rc.iald tb_244 rfl rfl ia_94 hb14 ?_
      refine Rc.if_ne (pc1 := 30) tb_244 rfl rfl (by decide) (by decide) (fun hb13 => ?_) (fun hb13 => ?_)
      · rw [if_pos hb13] at h
        refine Rc.run tb_244 2 (pc' := 26) (ls' := [some (.ref (77)), some (.int (a1)), some (.int (a2)), some (.int (a3))]) (st' := [.int ((-1000002)), .ref (77)]) rfl rfl ?_
        cases hc3 : F_156 ((-1000002) : Int32) M with
        | none => rw [hc3] at h; cases h
        | some r3 =>
          obtain ⟨c3, M3⟩ := r3
          rw [hc3] at h
          dsimp only at h
          have hq3 := T_156 (X := X) (d := d) (by omega) (M := M) hc3
          refine Rc.callV tb_244 rfl rfl rfl mS_156 mP_156 mL_156 mO_156 rfl rfl ob_77 rfl rfl hq3 ?_
          obtain rfl := Option.some.inj h
          obtain ⟨rfl, rfl⟩ := hC
          exact Rc.iret (ins := .ireturn) tb_244 rfl mR_244
      · rw [if_neg hb13] at h
        refine Rc.run tb_244 3 (pc' := 33) (ls' := [some (.ref (77)), some (.int (a1)), some (.int (a2)), some (.int (a3))]) (st' := [.ref (77), .int (0), .int (a2)]) rfl rfl ?_
        refine Rc.getR tb_244 rfl rfl ob_77 (by decide +kernel) tg_77_30 (by decide) ?_
        refine Rc.run tb_244 1 (pc' := 37) (ls' := [some (.ref (77)), some (.int (a1)), some (.int (a2)), some (.int (a3))]) (st' := [.int (a1), .ref (95), .int (0), .int (a2)]) rfl rfl ?_
        by_cases hb12 : inb a1 4 = true
        · rw [if_pos hb12] at h
          refine Rc.iald tb_244 rfl rfl ia_95 hb12 ?_
          refine Rc.run tb_244 2 (pc' := 40) (ls' := [some (.ref (77)), some (.int (a1)), some (.int (a2)), some (.int (a3))]) (st' := [.int ((M 95 a1.toNatClampNeg) - 1), .int (0), .int (a2)]) rfl rfl ?_
          have hq4 := T_157 (X := X) (d := d) (by omega) a2 (0 : Int32) ((M 95 a1.toNatClampNeg) - 1) M
          have hz4 := Rc.bool mR_157 hq4
          refine Rc.callS tb_244 rfl rfl rfl mS_157 mP_157 mL_157 rfl rfl rfl hq4 ?_
          refine Rc.if_ne (pc1 := 53) tb_244 rfl rfl (by decide) (by decide) (fun hb11 => ?_) (fun hb11 => ?_)
          · rw [if_pos hb11] at h
            refine Rc.run tb_244 2 (pc' := 49) (ls' := [some (.ref (77)), some (.int (a1)), some (.int (a2)), some (.int (a3))]) (st' := [.int ((-1000001)), .ref (77)]) rfl rfl ?_
            cases hc5 : F_156 ((-1000001) : Int32) M with
            | none => rw [hc5] at h; cases h
            | some r5 =>
              obtain ⟨c5, M5⟩ := r5
              rw [hc5] at h
              dsimp only at h
              have hq5 := T_156 (X := X) (d := d) (by omega) (M := M) hc5
              refine Rc.callV tb_244 rfl rfl rfl mS_156 mP_156 mL_156 mO_156 rfl rfl ob_77 rfl rfl hq5 ?_
              obtain rfl := Option.some.inj h
              obtain ⟨rfl, rfl⟩ := hC
              exact Rc.iret (ins := .ireturn) tb_244 rfl mR_244
          · rw [if_neg hb11] at h
            refine Rc.run tb_244 1 (pc' := 54) (ls' := [some (.ref (77)), some (.int (a1)), some (.int (a2)), some (.int (a3))]) (st' := [.ref (77)]) rfl rfl ?_
            refine Rc.getR tb_244 rfl rfl ob_77 (by decide +kernel) tg_77_31 (by decide) ?_
            refine Rc.run tb_244 6 (pc' := 64) (ls' := [some (.ref (77)), some (.int (a1)), some (.int (a2)), some (.int (a3))]) (st' := [.ref (77), .int ((40 * a1) + a2), .ref (96)]) rfl rfl ?_
            refine Rc.getR tb_244 rfl rfl ob_77 (by decide +kernel) tg_77_29 (by decide) ?_
            refine Rc.run tb_244 1 (pc' := 68) (ls' := [some (.ref (77)), some (.int (a1)), some (.int (a2)), some (.int (a3))]) (st' := [.int (a1), .ref (94), .int ((40 * a1) + a2), .ref (96)]) rfl rfl ?_
            by_cases hb10 : inb a1 4 = true
            · rw [if_pos hb10] at h
              refine Rc.iald tb_244 rfl rfl ia_94 hb10 ?_
              refine Rc.run tb_244 1 (pc' := 71) (ls' := [some (.ref (77)), some (.int (a1)), some (.int (a2)), some (.int (a3))]) (st' := [.int (8), .int (M 94 a1.toNatClampNeg), .int ((40 * a1) + a2), .ref (96)]) rfl rfl ?_
              refine Rc.icmp_ne (pc1 := 79) tb_244 rfl rfl (by decide) (by decide) (fun hb9 => ?_) (fun hb9 => ?_)
              · rw [if_pos hb9] at h
                refine Rc.run tb_244 3 (pc' := 96) (ls' := [some (.ref (77)), some (.int (a1)), some (.int (a2)), some (.int (a3))]) (st' := [.int (a3.toInt8.toInt32), .int ((40 * a1) + a2), .ref (96)]) rfl rfl ?_
                refine Rc.mask (b := 0) ((tb_244.2 96).trans rfl) (ls' := [none, none, none, none]) rfl ?_
                exact TJ_244_96 (X := X) (d := d + 1) (by omega) h hC
              · rw [if_neg hb9] at h
                refine Rc.run tb_244 1 (pc' := 80) (ls' := [some (.ref (77)), some (.int (a1)), some (.int (a2)), some (.int (a3))]) (st' := [.ref (77), .int ((40 * a1) + a2), .ref (96)]) rfl rfl ?_
                refine Rc.getR tb_244 rfl rfl ob_77 (by decide +kernel) tg_77_29 (by decide) ?_
                refine Rc.run tb_244 1 (pc' := 84) (ls' := [some (.ref (77)), some (.int (a1)), some (.int (a2)), some (.int (a3))]) (st' := [.int (a1), .ref (94), .int ((40 * a1) + a2), .ref (96)]) rfl rfl ?_
                by_cases hb8 : inb a1 4 = true
                · rw [if_pos hb8] at h
                  refine Rc.iald tb_244 rfl rfl ia_94 hb8 ?_
                  refine Rc.run tb_244 1 (pc' := 87) (ls' := [some (.ref (77)), some (.int (a1)), some (.int (a2)), some (.int (a3))]) (st' := [.int (16), .int (M 94 a1.toNatClampNeg), .int ((40 * a1) + a2), .ref (96)]) rfl rfl ?_
                  refine Rc.icmp_ne (pc1 := 95) tb_244 rfl rfl (by decide) (by decide) (fun hb7 => ?_) (fun hb7 => ?_)
                  · rw [if_pos hb7] at h
                    refine Rc.run tb_244 3 (pc' := 96) (ls' := [some (.ref (77)), some (.int (a1)), some (.int (a2)), some (.int (a3))]) (st' := [.int (a3.toInt16.toInt32), .int ((40 * a1) + a2), .ref (96)]) rfl rfl ?_
                    refine Rc.mask (b := 0) ((tb_244.2 96).trans rfl) (ls' := [none, none, none, none]) rfl ?_
                    exact TJ_244_96 (X := X) (d := d + 1) (by omega) h hC
                  · rw [if_neg hb7] at h
                    refine Rc.run tb_244 1 (pc' := 96) (ls' := [some (.ref (77)), some (.int (a1)), some (.int (a2)), some (.int (a3))]) (st' := [.int (a3), .int ((40 * a1) + a2), .ref (96)]) rfl rfl ?_
                    refine Rc.mask (b := 0) ((tb_244.2 96).trans rfl) (ls' := [none, none, none, none]) rfl ?_
                    exact TJ_244_96 (X := X) (d := d + 1) (by omega) h hC
                · rw [if_neg hb8] at h
                  cases h
            · rw [if_neg hb10] at h
              cases h
        · rw [if_neg hb12] at h
          cases h
    · rw [if_neg hb14] at h
      cases h
theorem T_244 {X : AX} {d : Nat} (hd : 2 ≤ d) {a1 : Int32} {a2 : Int32} {a3 : Int32} {M : IM} {x : Int32} {M1 : IM} (h : F_244 a1 a2 a3 M = some (x, M1)) : Rc X d 244 0 [some (.ref (77)), some (.int (a1)), some (.int (a2)), some (.int (a3))] [] M (some (.int x)) M1 := TF_244 hd h ⟨rfl, rfl⟩
/-! 245: NineDemandsModel.move -/
def J_245_14 (M : IM) : Option (Int32 × IM) := (match F_156 ((-1000001) : Int32) M with | none => none | some (c2, M2) => (some ((c2, M2))))
def J_245_39 (M : IM) : Option (Int32 × IM) := (match F_156 ((-1000002) : Int32) M with | none => none | some (c4, M4) => (some ((c4, M4))))
def J_245_117 (M : IM) : Option (Int32 × IM) := (match F_156 ((-1000001) : Int32) M with | none => none | some (c5, M5) => (some ((c5, M5))))
def B_245_127 (x1 : Int32) (x2 : Int32) (x3 : Int32) (x4 : Int32) (x5 : Int32) : (Int32 × IM) → Option ((Int32 × IM) ⊕ (Int32 × IM)) := fun (x6, M) => if x5 ≤ x6 then (some (Sum.inr (x6, M))) else (if inb (((40 * x1) + x2) + x6) 160 = true then (if inb x6 40 = true then (some (Sum.inl (x6 + 1, iset M 97 x6.toNatClampNeg (M 96 (((40 * x1) + x2) + x6).toNatClampNeg)))) else none) else none)
def L_245_127 (x1 : Int32) (x2 : Int32) (x3 : Int32) (x4 : Int32) (x5 : Int32) (x6 : Int32) (M : IM) : Option (Int32 × IM) := loopN (B_245_127 x1 x2 x3 x4 x5) FU (x6, M)
def B_245_164 (x3 : Int32) (x4 : Int32) (x5 : Int32) : (Int32 × IM) → Option ((Int32 × IM) ⊕ (Int32 × IM)) := fun (x6, M) => if x5 ≤ x6 then (some (Sum.inr (x6, M))) else (if inb x6 40 = true then (if inb (((40 * x3) + x4) + x6) 160 = true then (some (Sum.inl (x6 + 1, iset M 96 (((40 * x3) + x4) + x6).toNatClampNeg (M 97 x6.toNatClampNeg)))) else none) else none)
def L_245_164 (x3 : Int32) (x4 : Int32) (x5 : Int32) (x6 : Int32) (M : IM) : Option (Int32 × IM) := loopN (B_245_164 x3 x4 x5) FU (x6, M)
def J_245_161 (x3 : Int32) (x4 : Int32) (x5 : Int32) (M : IM) : Option (Int32 × IM) := (match L_245_164 x3 x4 x5 0 M with | none => none | some (x6_13, M13) => (some ((x5, M13))))
def F_245 (a1 : Int32) (a2 : Int32) (a3 : Int32) (a4 : Int32) (a5 : Int32) (M : IM) : Option (Int32 × IM) := if F_242 a1 = 0 then (J_245_14 M) else (if F_242 a3 = 0 then (J_245_14 M) else (if inb a1 4 = true then (if M 94 a1.toNatClampNeg = 0 then (J_245_39 M) else (if inb a3 4 = true then (if M 94 a3.toNatClampNeg = 0 then (J_245_39 M) else (if inb a1 4 = true then (if inb a3 4 = true then (if M 94 a1.toNatClampNeg = M 94 a3.toNatClampNeg then (if a5 < 0 then (J_245_117 M) else (if a2 < 0 then (J_245_117 M) else (if a4 < 0 then (J_245_117 M) else (if inb a1 4 = true then (if (0 : Int32) < lg_cmp (a2.toInt64 + a5.toInt64) ((M 95 a1.toNatClampNeg).toInt64) then (J_245_117 M) else (if inb a3 4 = true then (if lg_cmp (a4.toInt64 + a5.toInt64) ((M 95 a3.toNatClampNeg).toInt64) ≤ 0 then (match L_245_127 a1 a2 a3 a4 a5 0 M with | none => none | some (x6_9, M9) => (J_245_161 a3 a4 a5 M9)) else (J_245_117 M)) else none)) else none)))) else (match F_156 ((-1000005) : Int32) M with | none => none | some (c21, M21) => (some ((c21, M21))))) else none) else none)) else none)) else none))
theorem TJ_245_14 {X : AX} {d : Nat} (hd : 2 ≤ d) {M : IM} {v : Option Value} {M' : IM} {o : Int32 × IM} (h : J_245_14 M = some o) (hC : v = some (.int o.1) ∧ M' = o.2) : Rc X d 245 14 [some (.ref (77)), none, none, none, none, none, none] [] M v M' := by
  obtain ⟨d, rfl⟩ : ∃ e, d = e + 1 := ⟨d - 1, by omega⟩
  unfold J_245_14 at h
  refine Rc.run tb_245 2 (pc' := 17) (ls' := [some (.ref (77)), none, none, none, none, none, none]) (st' := [.int ((-1000001)), .ref (77)]) rfl rfl ?_
  cases hc2 : F_156 ((-1000001) : Int32) M with
  | none => rw [hc2] at h; cases h
  | some r2 =>
    obtain ⟨c2, M2⟩ := r2
    rw [hc2] at h
    dsimp only at h
    have hq2 := T_156 (X := X) (d := d) (by omega) (M := M) hc2
    refine Rc.callV tb_245 rfl rfl rfl mS_156 mP_156 mL_156 mO_156 rfl rfl ob_77 rfl rfl hq2 ?_
    obtain rfl := Option.some.inj h
    obtain ⟨rfl, rfl⟩ := hC
    exact Rc.iret (ins := .ireturn) tb_245 rfl mR_245
theorem TJ_245_39 {X : AX} {d : Nat} (hd : 2 ≤ d) {M : IM} {v : Option Value} {M' : IM} {o : Int32 × IM} (h : J_245_39 M = some o) (hC : v = some (.int o.1) ∧ M' = o.2) : Rc X d 245 39 [some (.ref (77)), none, none, none, none, none, none] [] M v M' := by
  obtain ⟨d, rfl⟩ : ∃ e, d = e + 1 := ⟨d - 1, by omega⟩
  unfold J_245_39 at h
  refine Rc.run tb_245 2 (pc' := 42) (ls' := [some (.ref (77)), none, none, none, none, none, none]) (st' := [.int ((-1000002)), .ref (77)]) rfl rfl ?_
  cases hc4 : F_156 ((-1000002) : Int32) M with
  | none => rw [hc4] at h; cases h
  | some r4 =>
    obtain ⟨c4, M4⟩ := r4
    rw [hc4] at h
    dsimp only at h
    have hq4 := T_156 (X := X) (d := d) (by omega) (M := M) hc4
    refine Rc.callV tb_245 rfl rfl rfl mS_156 mP_156 mL_156 mO_156 rfl rfl ob_77 rfl rfl hq4 ?_
    obtain rfl := Option.some.inj h
    obtain ⟨rfl, rfl⟩ := hC
    exact Rc.iret (ins := .ireturn) tb_245 rfl mR_245
theorem TJ_245_117 {X : AX} {d : Nat} (hd : 2 ≤ d) {M : IM} {v : Option Value} {M' : IM} {o : Int32 × IM} (h : J_245_117 M = some o) (hC : v = some (.int o.1) ∧ M' = o.2) : Rc X d 245 117 [some (.ref (77)), none, none, none, none, none, none] [] M v M' := by
  obtain ⟨d, rfl⟩ : ∃ e, d = e + 1 := ⟨d - 1, by omega⟩
  unfold J_245_117 at h
  refine Rc.run tb_245 2 (pc' := 120) (ls' := [some (.ref (77)), none, none, none, none, none, none]) (st' := [.int ((-1000001)), .ref (77)]) rfl rfl ?_
  cases hc5 : F_156 ((-1000001) : Int32) M with
  | none => rw [hc5] at h; cases h
  | some r5 =>
    obtain ⟨c5, M5⟩ := r5
    rw [hc5] at h
    dsimp only at h
    have hq5 := T_156 (X := X) (d := d) (by omega) (M := M) hc5
    refine Rc.callV tb_245 rfl rfl rfl mS_156 mP_156 mL_156 mO_156 rfl rfl ob_77 rfl rfl hq5 ?_
    obtain rfl := Option.some.inj h
    obtain ⟨rfl, rfl⟩ := hC
    exact Rc.iret (ins := .ireturn) tb_245 rfl mR_245
theorem TB_245_127 {X : AX} {d : Nat} (hd : 2 ≤ d) {x1 : Int32} {x2 : Int32} {x3 : Int32} {x4 : Int32} {x5 : Int32} {v : Option Value} {M' : IM} : ∀ (s : Int32 × IM) (o : (Int32 × IM) ⊕ (Int32 × IM)), B_245_127 x1 x2 x3 x4 x5 s = some o → (∀ s', o = .inl s' → (fun (x6, M) => Rc X d 245 127 [some (.ref (77)), some (.int (x1)), some (.int (x2)), some (.int (x3)), some (.int (x4)), some (.int (x5)), some (.int (x6))] [] M v M') s') → (∀ r, o = .inr r → (fun (x6, M) => Rc X d 245 161 [some (.ref (77)), none, none, some (.int (x3)), some (.int (x4)), some (.int (x5)), none] [] M v M') r) → (fun (x6, M) => Rc X d 245 127 [some (.ref (77)), some (.int (x1)), some (.int (x2)), some (.int (x3)), some (.int (x4)), some (.int (x5)), some (.int (x6))] [] M v M') s := by
  rintro ⟨x6, M⟩ o h hP hE
  show Rc X d 245 127 [some (.ref (77)), some (.int (x1)), some (.int (x2)), some (.int (x3)), some (.int (x4)), some (.int (x5)), some (.int (x6))] [] M v M'
  obtain ⟨d, rfl⟩ : ∃ e, d = e + 1 := ⟨d - 1, by omega⟩
  unfold B_245_127 at h
  dsimp only at h hP hE
  refine Rc.run tb_245 2 (pc' := 131) (ls' := [some (.ref (77)), some (.int (x1)), some (.int (x2)), some (.int (x3)), some (.int (x4)), some (.int (x5)), some (.int (x6))]) (st' := [.int (x5), .int (x6)]) rfl rfl ?_
  refine Rc.icmp_ge (pc1 := 161) tb_245 rfl rfl (by decide) (by decide) (fun hb8 => ?_) (fun hb8 => ?_)
  · rw [if_pos hb8] at h
    refine Rc.mask (b := 57) ((tb_245.2 161).trans rfl) (ls' := [some (.ref (77)), none, none, some (.int (x3)), some (.int (x4)), some (.int (x5)), none]) rfl ?_
    obtain rfl := Option.some.inj h
    exact hE _ rfl
  · rw [if_neg hb8] at h
    refine Rc.run tb_245 1 (pc' := 135) (ls' := [some (.ref (77)), some (.int (x1)), some (.int (x2)), some (.int (x3)), some (.int (x4)), some (.int (x5)), some (.int (x6))]) (st' := [.ref (77)]) rfl rfl ?_
    refine Rc.getR tb_245 rfl rfl ob_77 (by decide +kernel) tg_77_32 (by decide) ?_
    refine Rc.run tb_245 2 (pc' := 141) (ls' := [some (.ref (77)), some (.int (x1)), some (.int (x2)), some (.int (x3)), some (.int (x4)), some (.int (x5)), some (.int (x6))]) (st' := [.ref (77), .int (x6), .ref (97)]) rfl rfl ?_
    refine Rc.getR tb_245 rfl rfl ob_77 (by decide +kernel) tg_77_31 (by decide) ?_
    refine Rc.run tb_245 7 (pc' := 153) (ls' := [some (.ref (77)), some (.int (x1)), some (.int (x2)), some (.int (x3)), some (.int (x4)), some (.int (x5)), some (.int (x6))]) (st' := [.int (((40 * x1) + x2) + x6), .ref (96), .int (x6), .ref (97)]) rfl rfl ?_
    by_cases hb7 : inb (((40 * x1) + x2) + x6) 160 = true
    · rw [if_pos hb7] at h
      refine Rc.iald tb_245 rfl rfl ia_96 hb7 ?_
      by_cases hb6 : inb x6 40 = true
      · rw [if_pos hb6] at h
        refine Rc.iast tb_245 rfl rfl ia_97 hb6 ?_
        refine Rc.run tb_245 2 (pc' := 127) (ls' := [some (.ref (77)), some (.int (x1)), some (.int (x2)), some (.int (x3)), some (.int (x4)), some (.int (x5)), some (.int (x6 + 1))]) (st' := []) rfl rfl ?_
        refine Rc.mask (b := 127) ((tb_245.2 127).trans rfl) (ls' := [some (.ref (77)), some (.int (x1)), some (.int (x2)), some (.int (x3)), some (.int (x4)), some (.int (x5)), some (.int (x6 + 1))]) rfl ?_
        obtain rfl := Option.some.inj h
        exact hP _ rfl
      · rw [if_neg hb6] at h
        cases h
    · rw [if_neg hb7] at h
      cases h
theorem TL_245_127 {X : AX} {d : Nat} (hd : 2 ≤ d) {x1 : Int32} {x2 : Int32} {x3 : Int32} {x4 : Int32} {x5 : Int32} {x6 : Int32} {M : IM} {v : Option Value} {M' : IM} {r : Int32 × IM} (h : L_245_127 x1 x2 x3 x4 x5 x6 M = some r) (hE : (fun (x6, M) => Rc X d 245 161 [some (.ref (77)), none, none, some (.int (x3)), some (.int (x4)), some (.int (x5)), none] [] M v M') r) : Rc X d 245 127 [some (.ref (77)), some (.int (x1)), some (.int (x2)), some (.int (x3)), some (.int (x4)), some (.int (x5)), some (.int (x6))] [] M v M' := by
  exact loopN_rc (P := fun (x6, M) => Rc X d 245 127 [some (.ref (77)), some (.int (x1)), some (.int (x2)), some (.int (x3)), some (.int (x4)), some (.int (x5)), some (.int (x6))] [] M v M') (E := fun (x6, M) => Rc X d 245 161 [some (.ref (77)), none, none, some (.int (x3)), some (.int (x4)), some (.int (x5)), none] [] M v M') (TB_245_127 (X := X) hd) FU _ r h hE
theorem TB_245_164 {X : AX} {d : Nat} (hd : 2 ≤ d) {x3 : Int32} {x4 : Int32} {x5 : Int32} {v : Option Value} {M' : IM} : ∀ (s : Int32 × IM) (o : (Int32 × IM) ⊕ (Int32 × IM)), B_245_164 x3 x4 x5 s = some o → (∀ s', o = .inl s' → (fun (x6, M) => Rc X d 245 164 [some (.ref (77)), none, none, some (.int (x3)), some (.int (x4)), some (.int (x5)), some (.int (x6))] [] M v M') s') → (∀ r, o = .inr r → (fun (x6, M) => Rc X d 245 199 [none, none, none, none, none, some (.int (x5)), none] [] M v M') r) → (fun (x6, M) => Rc X d 245 164 [some (.ref (77)), none, none, some (.int (x3)), some (.int (x4)), some (.int (x5)), some (.int (x6))] [] M v M') s := by
  rintro ⟨x6, M⟩ o h hP hE
  show Rc X d 245 164 [some (.ref (77)), none, none, some (.int (x3)), some (.int (x4)), some (.int (x5)), some (.int (x6))] [] M v M'
  obtain ⟨d, rfl⟩ : ∃ e, d = e + 1 := ⟨d - 1, by omega⟩
  unfold B_245_164 at h
  dsimp only at h hP hE
  refine Rc.run tb_245 2 (pc' := 168) (ls' := [some (.ref (77)), none, none, some (.int (x3)), some (.int (x4)), some (.int (x5)), some (.int (x6))]) (st' := [.int (x5), .int (x6)]) rfl rfl ?_
  refine Rc.icmp_ge (pc1 := 199) tb_245 rfl rfl (by decide) (by decide) (fun hb12 => ?_) (fun hb12 => ?_)
  · rw [if_pos hb12] at h
    refine Rc.mask (b := 32) ((tb_245.2 199).trans rfl) (ls' := [none, none, none, none, none, some (.int (x5)), none]) rfl ?_
    obtain rfl := Option.some.inj h
    exact hE _ rfl
  · rw [if_neg hb12] at h
    refine Rc.run tb_245 1 (pc' := 172) (ls' := [some (.ref (77)), none, none, some (.int (x3)), some (.int (x4)), some (.int (x5)), some (.int (x6))]) (st' := [.ref (77)]) rfl rfl ?_
    refine Rc.getR tb_245 rfl rfl ob_77 (by decide +kernel) tg_77_31 (by decide) ?_
    refine Rc.run tb_245 8 (pc' := 186) (ls' := [some (.ref (77)), none, none, some (.int (x3)), some (.int (x4)), some (.int (x5)), some (.int (x6))]) (st' := [.ref (77), .int (((40 * x3) + x4) + x6), .ref (96)]) rfl rfl ?_
    refine Rc.getR tb_245 rfl rfl ob_77 (by decide +kernel) tg_77_32 (by decide) ?_
    refine Rc.run tb_245 1 (pc' := 191) (ls' := [some (.ref (77)), none, none, some (.int (x3)), some (.int (x4)), some (.int (x5)), some (.int (x6))]) (st' := [.int (x6), .ref (97), .int (((40 * x3) + x4) + x6), .ref (96)]) rfl rfl ?_
    by_cases hb11 : inb x6 40 = true
    · rw [if_pos hb11] at h
      refine Rc.iald tb_245 rfl rfl ia_97 hb11 ?_
      by_cases hb10 : inb (((40 * x3) + x4) + x6) 160 = true
      · rw [if_pos hb10] at h
        refine Rc.iast tb_245 rfl rfl ia_96 hb10 ?_
        refine Rc.run tb_245 2 (pc' := 164) (ls' := [some (.ref (77)), none, none, some (.int (x3)), some (.int (x4)), some (.int (x5)), some (.int (x6 + 1))]) (st' := []) rfl rfl ?_
        refine Rc.mask (b := 121) ((tb_245.2 164).trans rfl) (ls' := [some (.ref (77)), none, none, some (.int (x3)), some (.int (x4)), some (.int (x5)), some (.int (x6 + 1))]) rfl ?_
        obtain rfl := Option.some.inj h
        exact hP _ rfl
      · rw [if_neg hb10] at h
        cases h
    · rw [if_neg hb11] at h
      cases h
theorem TL_245_164 {X : AX} {d : Nat} (hd : 2 ≤ d) {x3 : Int32} {x4 : Int32} {x5 : Int32} {x6 : Int32} {M : IM} {v : Option Value} {M' : IM} {r : Int32 × IM} (h : L_245_164 x3 x4 x5 x6 M = some r) (hE : (fun (x6, M) => Rc X d 245 199 [none, none, none, none, none, some (.int (x5)), none] [] M v M') r) : Rc X d 245 164 [some (.ref (77)), none, none, some (.int (x3)), some (.int (x4)), some (.int (x5)), some (.int (x6))] [] M v M' := by
  exact loopN_rc (P := fun (x6, M) => Rc X d 245 164 [some (.ref (77)), none, none, some (.int (x3)), some (.int (x4)), some (.int (x5)), some (.int (x6))] [] M v M') (E := fun (x6, M) => Rc X d 245 199 [none, none, none, none, none, some (.int (x5)), none] [] M v M') (TB_245_164 (X := X) hd) FU _ r h hE
theorem TJ_245_161 {X : AX} {d : Nat} (hd : 2 ≤ d) {x3 : Int32} {x4 : Int32} {x5 : Int32} {M : IM} {v : Option Value} {M' : IM} {o : Int32 × IM} (h : J_245_161 x3 x4 x5 M = some o) (hC : v = some (.int o.1) ∧ M' = o.2) : Rc X d 245 161 [some (.ref (77)), none, none, some (.int (x3)), some (.int (x4)), some (.int (x5)), none] [] M v M' := by
  obtain ⟨d, rfl⟩ : ∃ e, d = e + 1 := ⟨d - 1, by omega⟩
  unfold J_245_161 at h
  refine Rc.run tb_245 2 (pc' := 164) (ls' := [some (.ref (77)), none, none, some (.int (x3)), some (.int (x4)), some (.int (x5)), some (.int (0))]) (st' := []) rfl rfl ?_
  refine Rc.mask (b := 121) ((tb_245.2 164).trans rfl) (ls' := [some (.ref (77)), none, none, some (.int (x3)), some (.int (x4)), some (.int (x5)), some (.int (0))]) rfl ?_
  cases hl13 : L_245_164 x3 x4 x5 0 M with
  | none => rw [hl13] at h; cases h
  | some r13 =>
    obtain ⟨x6_13, M13⟩ := r13
    rw [hl13] at h
    dsimp only at h
    refine TL_245_164 (X := X) (d := d + 1) (by omega) hl13 ?_
    refine Rc.run tb_245 1 (pc' := 201) (ls' := [none, none, none, none, none, some (.int (x5)), none]) (st' := [.int (x5)]) rfl rfl ?_
    obtain rfl := Option.some.inj h
    obtain ⟨rfl, rfl⟩ := hC
    exact Rc.iret (ins := .ireturn) tb_245 rfl mR_245
theorem TF_245 {X : AX} {d : Nat} (hd : 2 ≤ d) {a1 : Int32} {a2 : Int32} {a3 : Int32} {a4 : Int32} {a5 : Int32} {M : IM} {v : Option Value} {M' : IM} {o : Int32 × IM} (h : F_245 a1 a2 a3 a4 a5 M = some o) (hC : v = some (.int o.1) ∧ M' = o.2) : Rc X d 245 0 [some (.ref (77)), some (.int (a1)), some (.int (a2)), some (.int (a3)), some (.int (a4)), some (.int (a5)), none] [] M v M' := by
  obtain ⟨d, rfl⟩ : ∃ e, d = e + 1 := ⟨d - 1, by omega⟩
  unfold F_245 at h
  refine Rc.run tb_245 1 (pc' := 1) (ls' := [some (.ref (77)), some (.int (a1)), some (.int (a2)), some (.int (a3)), some (.int (a4)), some (.int (a5)), none]) (st' := [.int (a1)]) rfl rfl ?_
  have hq1 := T_242 (X := X) (d := d) (by omega) a1 M
  have hz1 := Rc.bool mR_242 hq1
  refine Rc.callS tb_245 rfl rfl rfl mS_242 mP_242 mL_242 rfl rfl rfl hq1 ?_
  refine Rc.if_eq (pc1 := 14) tb_245 rfl rfl (by decide) (by decide) (fun hb30 => ?_) (fun hb30 => ?_)
  · rw [if_pos hb30] at h
    refine Rc.mask (b := 1) ((tb_245.2 14).trans rfl) (ls' := [some (.ref (77)), none, none, none, none, none, none]) rfl ?_
    exact TJ_245_14 (X := X) (d := d + 1) (by omega) h hC
  · rw [if_neg hb30] at h
    refine Rc.run tb_245 1 (pc' := 8) (ls' := [some (.ref (77)), some (.int (a1)), some (.int (a2)), some (.int (a3)), some (.int (a4)), some (.int (a5)), none]) (st' := [.int (a3)]) rfl rfl ?_
    have hq3 := T_242 (X := X) (d := d) (by omega) a3 M
    have hz3 := Rc.bool mR_242 hq3
    refine Rc.callS tb_245 rfl rfl rfl mS_242 mP_242 mL_242 rfl rfl rfl hq3 ?_
    refine Rc.if_ne (pc1 := 21) tb_245 rfl rfl (by decide) (by decide) (fun hb29 => ?_) (fun hb29 => ?_)
    · rw [if_pos hb29] at h
      refine Rc.mask (b := 1) ((tb_245.2 14).trans rfl) (ls' := [some (.ref (77)), none, none, none, none, none, none]) rfl ?_
      exact TJ_245_14 (X := X) (d := d + 1) (by omega) h hC
    · rw [if_neg hb29] at h
      refine Rc.run tb_245 1 (pc' := 22) (ls' := [some (.ref (77)), some (.int (a1)), some (.int (a2)), some (.int (a3)), some (.int (a4)), some (.int (a5)), none]) (st' := [.ref (77)]) rfl rfl ?_
      refine Rc.getR tb_245 rfl rfl ob_77 (by decide +kernel) tg_77_29 (by decide) ?_
      refine Rc.run tb_245 1 (pc' := 26) (ls' := [some (.ref (77)), some (.int (a1)), some (.int (a2)), some (.int (a3)), some (.int (a4)), some (.int (a5)), none]) (st' := [.int (a1), .ref (94)]) rfl rfl ?_
      by_cases hb28 : inb a1 4 = true
      · rw [if_pos hb28] at h
        refine Rc.iald tb_245 rfl rfl ia_94 hb28 ?_
        refine Rc.if_eq (pc1 := 39) tb_245 rfl rfl (by decide) (by decide) (fun hb27 => ?_) (fun hb27 => ?_)
        · rw [if_pos hb27] at h
          refine Rc.mask (b := 1) ((tb_245.2 39).trans rfl) (ls' := [some (.ref (77)), none, none, none, none, none, none]) rfl ?_
          exact TJ_245_39 (X := X) (d := d + 1) (by omega) h hC
        · rw [if_neg hb27] at h
          refine Rc.run tb_245 1 (pc' := 31) (ls' := [some (.ref (77)), some (.int (a1)), some (.int (a2)), some (.int (a3)), some (.int (a4)), some (.int (a5)), none]) (st' := [.ref (77)]) rfl rfl ?_
          refine Rc.getR tb_245 rfl rfl ob_77 (by decide +kernel) tg_77_29 (by decide) ?_
          refine Rc.run tb_245 1 (pc' := 35) (ls' := [some (.ref (77)), some (.int (a1)), some (.int (a2)), some (.int (a3)), some (.int (a4)), some (.int (a5)), none]) (st' := [.int (a3), .ref (94)]) rfl rfl ?_
          by_cases hb26 : inb a3 4 = true
          · rw [if_pos hb26] at h
            refine Rc.iald tb_245 rfl rfl ia_94 hb26 ?_
            refine Rc.if_ne (pc1 := 46) tb_245 rfl rfl (by decide) (by decide) (fun hb25 => ?_) (fun hb25 => ?_)
            · rw [if_pos hb25] at h
              refine Rc.mask (b := 1) ((tb_245.2 39).trans rfl) (ls' := [some (.ref (77)), none, none, none, none, none, none]) rfl ?_
              exact TJ_245_39 (X := X) (d := d + 1) (by omega) h hC
            · rw [if_neg hb25] at h
              refine Rc.run tb_245 1 (pc' := 47) (ls' := [some (.ref (77)), some (.int (a1)), some (.int (a2)), some (.int (a3)), some (.int (a4)), some (.int (a5)), none]) (st' := [.ref (77)]) rfl rfl ?_
              refine Rc.getR tb_245 rfl rfl ob_77 (by decide +kernel) tg_77_29 (by decide) ?_
              refine Rc.run tb_245 1 (pc' := 51) (ls' := [some (.ref (77)), some (.int (a1)), some (.int (a2)), some (.int (a3)), some (.int (a4)), some (.int (a5)), none]) (st' := [.int (a1), .ref (94)]) rfl rfl ?_
              by_cases hb24 : inb a1 4 = true
              · rw [if_pos hb24] at h
                refine Rc.iald tb_245 rfl rfl ia_94 hb24 ?_
                refine Rc.run tb_245 1 (pc' := 53) (ls' := [some (.ref (77)), some (.int (a1)), some (.int (a2)), some (.int (a3)), some (.int (a4)), some (.int (a5)), none]) (st' := [.ref (77), .int (M 94 a1.toNatClampNeg)]) rfl rfl ?_
                refine Rc.getR tb_245 rfl rfl ob_77 (by decide +kernel) tg_77_29 (by decide) ?_
                refine Rc.run tb_245 1 (pc' := 57) (ls' := [some (.ref (77)), some (.int (a1)), some (.int (a2)), some (.int (a3)), some (.int (a4)), some (.int (a5)), none]) (st' := [.int (a3), .ref (94), .int (M 94 a1.toNatClampNeg)]) rfl rfl ?_
                by_cases hb23 : inb a3 4 = true
                · rw [if_pos hb23] at h
                  refine Rc.iald tb_245 rfl rfl ia_94 hb23 ?_
                  refine Rc.icmp_eq (pc1 := 68) tb_245 rfl rfl (by decide) (by decide) (fun hb22 => ?_) (fun hb22 => ?_)
                  · rw [if_pos hb22] at h
                    refine Rc.run tb_245 1 (pc' := 70) (ls' := [some (.ref (77)), some (.int (a1)), some (.int (a2)), some (.int (a3)), some (.int (a4)), some (.int (a5)), none]) (st' := [.int (a5)]) rfl rfl ?_
                    refine Rc.if_lt (pc1 := 117) tb_245 rfl rfl (by decide) (by decide) (fun hb20 => ?_) (fun hb20 => ?_)
                    · rw [if_pos hb20] at h
                      refine Rc.mask (b := 1) ((tb_245.2 117).trans rfl) (ls' := [some (.ref (77)), none, none, none, none, none, none]) rfl ?_
                      exact TJ_245_117 (X := X) (d := d + 1) (by omega) h hC
                    · rw [if_neg hb20] at h
                      refine Rc.run tb_245 1 (pc' := 74) (ls' := [some (.ref (77)), some (.int (a1)), some (.int (a2)), some (.int (a3)), some (.int (a4)), some (.int (a5)), none]) (st' := [.int (a2)]) rfl rfl ?_
                      refine Rc.if_lt (pc1 := 117) tb_245 rfl rfl (by decide) (by decide) (fun hb19 => ?_) (fun hb19 => ?_)
                      · rw [if_pos hb19] at h
                        refine Rc.mask (b := 1) ((tb_245.2 117).trans rfl) (ls' := [some (.ref (77)), none, none, none, none, none, none]) rfl ?_
                        exact TJ_245_117 (X := X) (d := d + 1) (by omega) h hC
                      · rw [if_neg hb19] at h
                        refine Rc.run tb_245 1 (pc' := 79) (ls' := [some (.ref (77)), some (.int (a1)), some (.int (a2)), some (.int (a3)), some (.int (a4)), some (.int (a5)), none]) (st' := [.int (a4)]) rfl rfl ?_
                        refine Rc.if_lt (pc1 := 117) tb_245 rfl rfl (by decide) (by decide) (fun hb18 => ?_) (fun hb18 => ?_)
                        · rw [if_pos hb18] at h
                          refine Rc.mask (b := 1) ((tb_245.2 117).trans rfl) (ls' := [some (.ref (77)), none, none, none, none, none, none]) rfl ?_
                          exact TJ_245_117 (X := X) (d := d + 1) (by omega) h hC
                        · rw [if_neg hb18] at h
                          refine Rc.run tb_245 6 (pc' := 89) (ls' := [some (.ref (77)), some (.int (a1)), some (.int (a2)), some (.int (a3)), some (.int (a4)), some (.int (a5)), none]) (st' := [.ref (77), .long (a2.toInt64 + a5.toInt64)]) rfl rfl ?_
                          refine Rc.getR tb_245 rfl rfl ob_77 (by decide +kernel) tg_77_30 (by decide) ?_
                          refine Rc.run tb_245 1 (pc' := 93) (ls' := [some (.ref (77)), some (.int (a1)), some (.int (a2)), some (.int (a3)), some (.int (a4)), some (.int (a5)), none]) (st' := [.int (a1), .ref (95), .long (a2.toInt64 + a5.toInt64)]) rfl rfl ?_
                          by_cases hb17 : inb a1 4 = true
                          · rw [if_pos hb17] at h
                            refine Rc.iald tb_245 rfl rfl ia_95 hb17 ?_
                            refine Rc.run tb_245 2 (pc' := 96) (ls' := [some (.ref (77)), some (.int (a1)), some (.int (a2)), some (.int (a3)), some (.int (a4)), some (.int (a5)), none]) (st' := [.int (lg_cmp (a2.toInt64 + a5.toInt64) ((M 95 a1.toNatClampNeg).toInt64))]) rfl rfl ?_
                            refine Rc.if_gt (pc1 := 117) tb_245 rfl rfl (by decide) (by decide) (fun hb16 => ?_) (fun hb16 => ?_)
                            · rw [if_pos hb16] at h
                              refine Rc.mask (b := 1) ((tb_245.2 117).trans rfl) (ls' := [some (.ref (77)), none, none, none, none, none, none]) rfl ?_
                              exact TJ_245_117 (X := X) (d := d + 1) (by omega) h hC
                            · rw [if_neg hb16] at h
                              refine Rc.run tb_245 6 (pc' := 107) (ls' := [some (.ref (77)), some (.int (a1)), some (.int (a2)), some (.int (a3)), some (.int (a4)), some (.int (a5)), none]) (st' := [.ref (77), .long (a4.toInt64 + a5.toInt64)]) rfl rfl ?_
                              refine Rc.getR tb_245 rfl rfl ob_77 (by decide +kernel) tg_77_30 (by decide) ?_
                              refine Rc.run tb_245 1 (pc' := 111) (ls' := [some (.ref (77)), some (.int (a1)), some (.int (a2)), some (.int (a3)), some (.int (a4)), some (.int (a5)), none]) (st' := [.int (a3), .ref (95), .long (a4.toInt64 + a5.toInt64)]) rfl rfl ?_
                              by_cases hb15 : inb a3 4 = true
                              · rw [if_pos hb15] at h
                                refine Rc.iald tb_245 rfl rfl ia_95 hb15 ?_
                                refine Rc.run tb_245 2 (pc' := 114) (ls' := [some (.ref (77)), some (.int (a1)), some (.int (a2)), some (.int (a3)), some (.int (a4)), some (.int (a5)), none]) (st' := [.int (lg_cmp (a4.toInt64 + a5.toInt64) ((M 95 a3.toNatClampNeg).toInt64))]) rfl rfl ?_
                                refine Rc.if_le (pc1 := 124) tb_245 rfl rfl (by decide) (by decide) (fun hb14 => ?_) (fun hb14 => ?_)
                                · rw [if_pos hb14] at h
                                  refine Rc.run tb_245 2 (pc' := 127) (ls' := [some (.ref (77)), some (.int (a1)), some (.int (a2)), some (.int (a3)), some (.int (a4)), some (.int (a5)), some (.int (0))]) (st' := []) rfl rfl ?_
                                  refine Rc.mask (b := 127) ((tb_245.2 127).trans rfl) (ls' := [some (.ref (77)), some (.int (a1)), some (.int (a2)), some (.int (a3)), some (.int (a4)), some (.int (a5)), some (.int (0))]) rfl ?_
                                  cases hl9 : L_245_127 a1 a2 a3 a4 a5 0 M with
                                  | none => rw [hl9] at h; cases h
                                  | some r9 =>
                                    obtain ⟨x6_9, M9⟩ := r9
                                    rw [hl9] at h
                                    dsimp only at h
                                    refine TL_245_127 (X := X) (d := d + 1) (by omega) hl9 ?_
                                    refine Rc.mask (b := 57) ((tb_245.2 161).trans rfl) (ls' := [some (.ref (77)), none, none, some (.int (a3)), some (.int (a4)), some (.int (a5)), none]) rfl ?_
                                    exact TJ_245_161 (X := X) (d := d + 1) (by omega) h hC
                                · rw [if_neg hb14] at h
                                  refine Rc.mask (b := 1) ((tb_245.2 117).trans rfl) (ls' := [some (.ref (77)), none, none, none, none, none, none]) rfl ?_
                                  exact TJ_245_117 (X := X) (d := d + 1) (by omega) h hC
                              · rw [if_neg hb15] at h
                                cases h
                          · rw [if_neg hb17] at h
                            cases h
                  · rw [if_neg hb22] at h
                    refine Rc.run tb_245 2 (pc' := 64) (ls' := [some (.ref (77)), some (.int (a1)), some (.int (a2)), some (.int (a3)), some (.int (a4)), some (.int (a5)), none]) (st' := [.int ((-1000005)), .ref (77)]) rfl rfl ?_
                    cases hc21 : F_156 ((-1000005) : Int32) M with
                    | none => rw [hc21] at h; cases h
                    | some r21 =>
                      obtain ⟨c21, M21⟩ := r21
                      rw [hc21] at h
                      dsimp only at h
                      have hq21 := T_156 (X := X) (d := d) (by omega) (M := M) hc21
                      refine Rc.callV tb_245 rfl rfl rfl mS_156 mP_156 mL_156 mO_156 rfl rfl ob_77 rfl rfl hq21 ?_
                      obtain rfl := Option.some.inj h
                      obtain ⟨rfl, rfl⟩ := hC
                      exact Rc.iret (ins := .ireturn) tb_245 rfl mR_245
                · rw [if_neg hb23] at h
                  cases h
              · rw [if_neg hb24] at h
                cases h
          · rw [if_neg hb26] at h
            cases h
      · rw [if_neg hb28] at h
        cases h
theorem T_245 {X : AX} {d : Nat} (hd : 2 ≤ d) {a1 : Int32} {a2 : Int32} {a3 : Int32} {a4 : Int32} {a5 : Int32} {M : IM} {x : Int32} {M1 : IM} (h : F_245 a1 a2 a3 a4 a5 M = some (x, M1)) : Rc X d 245 0 [some (.ref (77)), some (.int (a1)), some (.int (a2)), some (.int (a3)), some (.int (a4)), some (.int (a5)), none] [] M (some (.int x)) M1 := TF_245 hd h ⟨rfl, rfl⟩
/-! 246: NineDemandsModel.image -/
def B_246_2 : (Int32 × IM) → Option ((Int32 × IM) ⊕ (Int32 × IM)) := fun (x1, M) => if (366 : Int32) ≤ x1 then (some (Sum.inr (x1, M))) else (if inb x1 366 = true then (if inb x1 366 = true then (some (Sum.inl (x1 + 1, iset M 79 x1.toNatClampNeg (M 78 x1.toNatClampNeg)))) else none) else none)
def L_246_2 (x1 : Int32) (M : IM) : Option (Int32 × IM) := loopN (B_246_2) FU (x1, M)
def J_246_27 (M : IM) : Option (Int32 × IM) := some (((iset M 77 2 ((M 77 2) + 1)) 77 2, iset M 77 2 ((M 77 2) + 1)))
def F_246 (M : IM) : Option (Int32 × IM) := (match L_246_2 0 M with | none => none | some (x1_4, M4) => (J_246_27 M4))
theorem TB_246_2 {X : AX} {d : Nat} (hd : 0 ≤ d) {v : Option Value} {M' : IM} : ∀ (s : Int32 × IM) (o : (Int32 × IM) ⊕ (Int32 × IM)), B_246_2 s = some o → (∀ s', o = .inl s' → (fun (x1, M) => Rc X d 246 2 [some (.ref (77)), some (.int (x1))] [] M v M') s') → (∀ r, o = .inr r → (fun (x1, M) => Rc X d 246 27 [some (.ref (77)), none] [] M v M') r) → (fun (x1, M) => Rc X d 246 2 [some (.ref (77)), some (.int (x1))] [] M v M') s := by
  rintro ⟨x1, M⟩ o h hP hE
  show Rc X d 246 2 [some (.ref (77)), some (.int (x1))] [] M v M'
  unfold B_246_2 at h
  dsimp only at h hP hE
  refine Rc.run tb_246 2 (pc' := 6) (ls' := [some (.ref (77)), some (.int (x1))]) (st' := [.int (366), .int (x1)]) rfl rfl ?_
  refine Rc.icmp_ge (pc1 := 27) tb_246 rfl rfl (by decide) (by decide) (fun hb3 => ?_) (fun hb3 => ?_)
  · rw [if_pos hb3] at h
    refine Rc.mask (b := 1) ((tb_246.2 27).trans rfl) (ls' := [some (.ref (77)), none]) rfl ?_
    obtain rfl := Option.some.inj h
    exact hE _ rfl
  · rw [if_neg hb3] at h
    refine Rc.run tb_246 1 (pc' := 10) (ls' := [some (.ref (77)), some (.int (x1))]) (st' := [.ref (77)]) rfl rfl ?_
    refine Rc.getR tb_246 rfl rfl ob_77 (by decide +kernel) tg_77_1 (by decide) ?_
    refine Rc.run tb_246 2 (pc' := 15) (ls' := [some (.ref (77)), some (.int (x1))]) (st' := [.ref (77), .int (x1), .ref (79)]) rfl rfl ?_
    refine Rc.getR tb_246 rfl rfl ob_77 (by decide +kernel) tg_77_0 (by decide) ?_
    refine Rc.run tb_246 1 (pc' := 19) (ls' := [some (.ref (77)), some (.int (x1))]) (st' := [.int (x1), .ref (78), .int (x1), .ref (79)]) rfl rfl ?_
    by_cases hb2 : inb x1 366 = true
    · rw [if_pos hb2] at h
      refine Rc.iald tb_246 rfl rfl ia_78 hb2 ?_
      by_cases hb1 : inb x1 366 = true
      · rw [if_pos hb1] at h
        refine Rc.iast tb_246 rfl rfl ia_79 hb1 ?_
        refine Rc.run tb_246 2 (pc' := 2) (ls' := [some (.ref (77)), some (.int (x1 + 1))]) (st' := []) rfl rfl ?_
        refine Rc.mask (b := 3) ((tb_246.2 2).trans rfl) (ls' := [some (.ref (77)), some (.int (x1 + 1))]) rfl ?_
        obtain rfl := Option.some.inj h
        exact hP _ rfl
      · rw [if_neg hb1] at h
        cases h
    · rw [if_neg hb2] at h
      cases h
theorem TL_246_2 {X : AX} {d : Nat} (hd : 0 ≤ d) {x1 : Int32} {M : IM} {v : Option Value} {M' : IM} {r : Int32 × IM} (h : L_246_2 x1 M = some r) (hE : (fun (x1, M) => Rc X d 246 27 [some (.ref (77)), none] [] M v M') r) : Rc X d 246 2 [some (.ref (77)), some (.int (x1))] [] M v M' := by
  exact loopN_rc (P := fun (x1, M) => Rc X d 246 2 [some (.ref (77)), some (.int (x1))] [] M v M') (E := fun (x1, M) => Rc X d 246 27 [some (.ref (77)), none] [] M v M') (TB_246_2 (X := X) hd) FU _ r h hE
theorem TJ_246_27 {X : AX} {d : Nat} (hd : 0 ≤ d) {M : IM} {v : Option Value} {M' : IM} {o : Int32 × IM} (h : J_246_27 M = some o) (hC : v = some (.int o.1) ∧ M' = o.2) : Rc X d 246 27 [some (.ref (77)), none] [] M v M' := by
  unfold J_246_27 at h
  refine Rc.run tb_246 2 (pc' := 29) (ls' := [some (.ref (77)), none]) (st' := [.ref (77), .ref (77)]) rfl rfl ?_
  refine Rc.getI tb_246 rfl rfl ob_77 (by decide +kernel) tg_77_2 ?_
  refine Rc.run tb_246 2 (pc' := 34) (ls' := [some (.ref (77)), none]) (st' := [.int ((M 77 2) + 1), .ref (77)]) rfl rfl ?_
  refine Rc.putI tb_246 rfl rfl ob_77 (by decide +kernel) tg_77_2 rfl ?_
  refine Rc.run tb_246 1 (pc' := 38) (ls' := [some (.ref (77)), none]) (st' := [.ref (77)]) rfl rfl ?_
  refine Rc.getI tb_246 rfl rfl ob_77 (by decide +kernel) tg_77_2 ?_
  obtain rfl := Option.some.inj h
  obtain ⟨rfl, rfl⟩ := hC
  exact Rc.iret (ins := .ireturn) tb_246 rfl mR_246
theorem TF_246 {X : AX} {d : Nat} (hd : 0 ≤ d) {M : IM} {v : Option Value} {M' : IM} {o : Int32 × IM} (h : F_246 M = some o) (hC : v = some (.int o.1) ∧ M' = o.2) : Rc X d 246 0 [some (.ref (77)), none] [] M v M' := by
  unfold F_246 at h
  refine Rc.run tb_246 2 (pc' := 2) (ls' := [some (.ref (77)), some (.int (0))]) (st' := []) rfl rfl ?_
  refine Rc.mask (b := 3) ((tb_246.2 2).trans rfl) (ls' := [some (.ref (77)), some (.int (0))]) rfl ?_
  cases hl4 : L_246_2 0 M with
  | none => rw [hl4] at h; cases h
  | some r4 =>
    obtain ⟨x1_4, M4⟩ := r4
    rw [hl4] at h
    dsimp only at h
    refine TL_246_2 (X := X) (d := d) (by omega) hl4 ?_
    refine Rc.mask (b := 1) ((tb_246.2 27).trans rfl) (ls' := [some (.ref (77)), none]) rfl ?_
    exact TJ_246_27 (X := X) (d := d) (by omega) h hC
theorem T_246 {X : AX} {d : Nat} (hd : 0 ≤ d) {M : IM} {x : Int32} {M1 : IM} (h : F_246 M = some (x, M1)) : Rc X d 246 0 [some (.ref (77)), none] [] M (some (.int x)) M1 := TF_246 hd h ⟨rfl, rfl⟩
/-! 247: NineDemandsModel.restore -/
def B_247_16 : (Int32 × IM) → Option ((Int32 × IM) ⊕ (Int32 × IM)) := fun (x1, M) => if (366 : Int32) ≤ x1 then (some (Sum.inr (x1, M))) else (if inb x1 366 = true then (if inb x1 366 = true then (some (Sum.inl (x1 + 1, iset M 78 x1.toNatClampNeg (M 79 x1.toNatClampNeg)))) else none) else none)
def L_247_16 (x1 : Int32) (M : IM) : Option (Int32 × IM) := loopN (B_247_16) FU (x1, M)
def J_247_41 (M : IM) : Option (Int32 × IM) := some ((M 78 (0 : Int32).toNatClampNeg, M))
def F_247 (M : IM) : Option (Int32 × IM) := if M 77 2 = 0 then (match F_156 ((-1000002) : Int32) M with | none => none | some (c1, M1) => (some ((c1, M1)))) else (match L_247_16 0 M with | none => none | some (x1_5, M5) => (J_247_41 M5))
theorem TB_247_16 {X : AX} {d : Nat} (hd : 1 ≤ d) {v : Option Value} {M' : IM} : ∀ (s : Int32 × IM) (o : (Int32 × IM) ⊕ (Int32 × IM)), B_247_16 s = some o → (∀ s', o = .inl s' → (fun (x1, M) => Rc X d 247 16 [some (.ref (77)), some (.int (x1))] [] M v M') s') → (∀ r, o = .inr r → (fun (x1, M) => Rc X d 247 41 [some (.ref (77)), none] [] M v M') r) → (fun (x1, M) => Rc X d 247 16 [some (.ref (77)), some (.int (x1))] [] M v M') s := by
  rintro ⟨x1, M⟩ o h hP hE
  show Rc X d 247 16 [some (.ref (77)), some (.int (x1))] [] M v M'
  obtain ⟨d, rfl⟩ : ∃ e, d = e + 1 := ⟨d - 1, by omega⟩
  unfold B_247_16 at h
  dsimp only at h hP hE
  refine Rc.run tb_247 2 (pc' := 20) (ls' := [some (.ref (77)), some (.int (x1))]) (st' := [.int (366), .int (x1)]) rfl rfl ?_
  refine Rc.icmp_ge (pc1 := 41) tb_247 rfl rfl (by decide) (by decide) (fun hb4 => ?_) (fun hb4 => ?_)
  · rw [if_pos hb4] at h
    refine Rc.mask (b := 1) ((tb_247.2 41).trans rfl) (ls' := [some (.ref (77)), none]) rfl ?_
    obtain rfl := Option.some.inj h
    exact hE _ rfl
  · rw [if_neg hb4] at h
    refine Rc.run tb_247 1 (pc' := 24) (ls' := [some (.ref (77)), some (.int (x1))]) (st' := [.ref (77)]) rfl rfl ?_
    refine Rc.getR tb_247 rfl rfl ob_77 (by decide +kernel) tg_77_0 (by decide) ?_
    refine Rc.run tb_247 2 (pc' := 29) (ls' := [some (.ref (77)), some (.int (x1))]) (st' := [.ref (77), .int (x1), .ref (78)]) rfl rfl ?_
    refine Rc.getR tb_247 rfl rfl ob_77 (by decide +kernel) tg_77_1 (by decide) ?_
    refine Rc.run tb_247 1 (pc' := 33) (ls' := [some (.ref (77)), some (.int (x1))]) (st' := [.int (x1), .ref (79), .int (x1), .ref (78)]) rfl rfl ?_
    by_cases hb3 : inb x1 366 = true
    · rw [if_pos hb3] at h
      refine Rc.iald tb_247 rfl rfl ia_79 hb3 ?_
      by_cases hb2 : inb x1 366 = true
      · rw [if_pos hb2] at h
        refine Rc.iast tb_247 rfl rfl ia_78 hb2 ?_
        refine Rc.run tb_247 2 (pc' := 16) (ls' := [some (.ref (77)), some (.int (x1 + 1))]) (st' := []) rfl rfl ?_
        refine Rc.mask (b := 3) ((tb_247.2 16).trans rfl) (ls' := [some (.ref (77)), some (.int (x1 + 1))]) rfl ?_
        obtain rfl := Option.some.inj h
        exact hP _ rfl
      · rw [if_neg hb2] at h
        cases h
    · rw [if_neg hb3] at h
      cases h
theorem TL_247_16 {X : AX} {d : Nat} (hd : 1 ≤ d) {x1 : Int32} {M : IM} {v : Option Value} {M' : IM} {r : Int32 × IM} (h : L_247_16 x1 M = some r) (hE : (fun (x1, M) => Rc X d 247 41 [some (.ref (77)), none] [] M v M') r) : Rc X d 247 16 [some (.ref (77)), some (.int (x1))] [] M v M' := by
  exact loopN_rc (P := fun (x1, M) => Rc X d 247 16 [some (.ref (77)), some (.int (x1))] [] M v M') (E := fun (x1, M) => Rc X d 247 41 [some (.ref (77)), none] [] M v M') (TB_247_16 (X := X) hd) FU _ r h hE
theorem TJ_247_41 {X : AX} {d : Nat} (hd : 1 ≤ d) {M : IM} {v : Option Value} {M' : IM} {o : Int32 × IM} (h : J_247_41 M = some o) (hC : v = some (.int o.1) ∧ M' = o.2) : Rc X d 247 41 [some (.ref (77)), none] [] M v M' := by
  obtain ⟨d, rfl⟩ : ∃ e, d = e + 1 := ⟨d - 1, by omega⟩
  unfold J_247_41 at h
  refine Rc.run tb_247 1 (pc' := 42) (ls' := [some (.ref (77)), none]) (st' := [.ref (77)]) rfl rfl ?_
  refine Rc.getR tb_247 rfl rfl ob_77 (by decide +kernel) tg_77_0 (by decide) ?_
  refine Rc.run tb_247 1 (pc' := 46) (ls' := [some (.ref (77)), none]) (st' := [.int (0), .ref (78)]) rfl rfl ?_
  refine Rc.iald tb_247 rfl rfl ia_78 (by decide) ?_
  obtain rfl := Option.some.inj h
  obtain ⟨rfl, rfl⟩ := hC
  exact Rc.iret (ins := .ireturn) tb_247 rfl mR_247
theorem TF_247 {X : AX} {d : Nat} (hd : 1 ≤ d) {M : IM} {v : Option Value} {M' : IM} {o : Int32 × IM} (h : F_247 M = some o) (hC : v = some (.int o.1) ∧ M' = o.2) : Rc X d 247 0 [some (.ref (77)), none] [] M v M' := by
  obtain ⟨d, rfl⟩ : ∃ e, d = e + 1 := ⟨d - 1, by omega⟩
  unfold F_247 at h
  refine Rc.run tb_247 1 (pc' := 1) (ls' := [some (.ref (77)), none]) (st' := [.ref (77)]) rfl rfl ?_
  refine Rc.getI tb_247 rfl rfl ob_77 (by decide +kernel) tg_77_2 ?_
  refine Rc.if_ne (pc1 := 14) tb_247 rfl rfl (by decide) (by decide) (fun hb7 => ?_) (fun hb7 => ?_)
  · rw [if_pos hb7] at h
    refine Rc.run tb_247 2 (pc' := 10) (ls' := [some (.ref (77)), none]) (st' := [.int ((-1000002)), .ref (77)]) rfl rfl ?_
    cases hc1 : F_156 ((-1000002) : Int32) M with
    | none => rw [hc1] at h; cases h
    | some r1 =>
      obtain ⟨c1, M1⟩ := r1
      rw [hc1] at h
      dsimp only at h
      have hq1 := T_156 (X := X) (d := d) (by omega) (M := M) hc1
      refine Rc.callV tb_247 rfl rfl rfl mS_156 mP_156 mL_156 mO_156 rfl rfl ob_77 rfl rfl hq1 ?_
      obtain rfl := Option.some.inj h
      obtain ⟨rfl, rfl⟩ := hC
      exact Rc.iret (ins := .ireturn) tb_247 rfl mR_247
  · rw [if_neg hb7] at h
    refine Rc.run tb_247 2 (pc' := 16) (ls' := [some (.ref (77)), some (.int (0))]) (st' := []) rfl rfl ?_
    refine Rc.mask (b := 3) ((tb_247.2 16).trans rfl) (ls' := [some (.ref (77)), some (.int (0))]) rfl ?_
    cases hl5 : L_247_16 0 M with
    | none => rw [hl5] at h; cases h
    | some r5 =>
      obtain ⟨x1_5, M5⟩ := r5
      rw [hl5] at h
      dsimp only at h
      refine TL_247_16 (X := X) (d := d + 1) (by omega) hl5 ?_
      refine Rc.mask (b := 1) ((tb_247.2 41).trans rfl) (ls' := [some (.ref (77)), none]) rfl ?_
      exact TJ_247_41 (X := X) (d := d + 1) (by omega) h hC
theorem T_247 {X : AX} {d : Nat} (hd : 1 ≤ d) {M : IM} {x : Int32} {M1 : IM} (h : F_247 M = some (x, M1)) : Rc X d 247 0 [some (.ref (77)), none] [] M (some (.int x)) M1 := TF_247 hd h ⟨rfl, rfl⟩
/-! 248: NineDemandsModel.tell -/
def F_248 (a1 : Int32) (M : IM) : Option (Int32 × IM) := if M 78 (2 : Int32).toNatClampNeg = 20 then (match F_156 ((-1000004) : Int32) M with | none => none | some (c1, M1) => (some ((c1, M1)))) else (if inb (90 + (M 78 (2 : Int32).toNatClampNeg)) 366 = true then (some (((iset (iset M 78 (90 + (M 78 (2 : Int32).toNatClampNeg)).toNatClampNeg a1) 78 (2 : Int32).toNatClampNeg (((iset M 78 (90 + (M 78 (2 : Int32).toNatClampNeg)).toNatClampNeg a1) 78 (2 : Int32).toNatClampNeg) + 1)) 78 (2 : Int32).toNatClampNeg, iset (iset M 78 (90 + (M 78 (2 : Int32).toNatClampNeg)).toNatClampNeg a1) 78 (2 : Int32).toNatClampNeg (((iset M 78 (90 + (M 78 (2 : Int32).toNatClampNeg)).toNatClampNeg a1) 78 (2 : Int32).toNatClampNeg) + 1)))) else none)
theorem TF_248 {X : AX} {d : Nat} (hd : 1 ≤ d) {a1 : Int32} {M : IM} {v : Option Value} {M' : IM} {o : Int32 × IM} (h : F_248 a1 M = some o) (hC : v = some (.int o.1) ∧ M' = o.2) : Rc X d 248 0 [some (.ref (77)), some (.int (a1))] [] M v M' := by
  obtain ⟨d, rfl⟩ : ∃ e, d = e + 1 := ⟨d - 1, by omega⟩
  unfold F_248 at h
  refine Rc.run tb_248 1 (pc' := 1) (ls' := [some (.ref (77)), some (.int (a1))]) (st' := [.ref (77)]) rfl rfl ?_
  refine Rc.getR tb_248 rfl rfl ob_77 (by decide +kernel) tg_77_0 (by decide) ?_
  refine Rc.run tb_248 1 (pc' := 5) (ls' := [some (.ref (77)), some (.int (a1))]) (st' := [.int (2), .ref (78)]) rfl rfl ?_
  refine Rc.iald tb_248 rfl rfl ia_78 (by decide) ?_
  refine Rc.run tb_248 1 (pc' := 8) (ls' := [some (.ref (77)), some (.int (a1))]) (st' := [.int (20), .int (M 78 (2 : Int32).toNatClampNeg)]) rfl rfl ?_
  refine Rc.icmp_ne (pc1 := 18) tb_248 rfl rfl (by decide) (by decide) (fun hb7 => ?_) (fun hb7 => ?_)
  · rw [if_pos hb7] at h
    refine Rc.run tb_248 2 (pc' := 14) (ls' := [some (.ref (77)), some (.int (a1))]) (st' := [.int ((-1000004)), .ref (77)]) rfl rfl ?_
    cases hc1 : F_156 ((-1000004) : Int32) M with
    | none => rw [hc1] at h; cases h
    | some r1 =>
      obtain ⟨c1, M1⟩ := r1
      rw [hc1] at h
      dsimp only at h
      have hq1 := T_156 (X := X) (d := d) (by omega) (M := M) hc1
      refine Rc.callV tb_248 rfl rfl rfl mS_156 mP_156 mL_156 mO_156 rfl rfl ob_77 rfl rfl hq1 ?_
      obtain rfl := Option.some.inj h
      obtain ⟨rfl, rfl⟩ := hC
      exact Rc.iret (ins := .ireturn) tb_248 rfl mR_248
  · rw [if_neg hb7] at h
    refine Rc.run tb_248 1 (pc' := 19) (ls' := [some (.ref (77)), some (.int (a1))]) (st' := [.ref (77)]) rfl rfl ?_
    refine Rc.getR tb_248 rfl rfl ob_77 (by decide +kernel) tg_77_0 (by decide) ?_
    refine Rc.run tb_248 2 (pc' := 25) (ls' := [some (.ref (77)), some (.int (a1))]) (st' := [.ref (77), .int (90), .ref (78)]) rfl rfl ?_
    refine Rc.getR tb_248 rfl rfl ob_77 (by decide +kernel) tg_77_0 (by decide) ?_
    refine Rc.run tb_248 1 (pc' := 29) (ls' := [some (.ref (77)), some (.int (a1))]) (st' := [.int (2), .ref (78), .int (90), .ref (78)]) rfl rfl ?_
    refine Rc.iald tb_248 rfl rfl ia_78 (by decide) ?_
    refine Rc.run tb_248 2 (pc' := 32) (ls' := [some (.ref (77)), some (.int (a1))]) (st' := [.int (a1), .int (90 + (M 78 (2 : Int32).toNatClampNeg)), .ref (78)]) rfl rfl ?_
    by_cases hb5 : inb (90 + (M 78 (2 : Int32).toNatClampNeg)) 366 = true
    · rw [if_pos hb5] at h
      refine Rc.iast tb_248 rfl rfl ia_78 hb5 ?_
      refine Rc.run tb_248 1 (pc' := 34) (ls' := [some (.ref (77)), some (.int (a1))]) (st' := [.ref (77)]) rfl rfl ?_
      refine Rc.getR tb_248 rfl rfl ob_77 (by decide +kernel) tg_77_0 (by decide) ?_
      refine Rc.run tb_248 2 (pc' := 39) (ls' := [some (.ref (77)), some (.int (a1))]) (st' := [.int (2), .ref (78), .int (2), .ref (78)]) rfl rfl ?_
      refine Rc.iald tb_248 rfl rfl ia_78 (by decide) ?_
      refine Rc.run tb_248 2 (pc' := 42) (ls' := [some (.ref (77)), some (.int (a1))]) (st' := [.int (((iset M 78 (90 + (M 78 (2 : Int32).toNatClampNeg)).toNatClampNeg a1) 78 (2 : Int32).toNatClampNeg) + 1), .int (2), .ref (78)]) rfl rfl ?_
      refine Rc.iast tb_248 rfl rfl ia_78 (by decide) ?_
      refine Rc.run tb_248 1 (pc' := 44) (ls' := [some (.ref (77)), some (.int (a1))]) (st' := [.ref (77)]) rfl rfl ?_
      refine Rc.getR tb_248 rfl rfl ob_77 (by decide +kernel) tg_77_0 (by decide) ?_
      refine Rc.run tb_248 1 (pc' := 48) (ls' := [some (.ref (77)), some (.int (a1))]) (st' := [.int (2), .ref (78)]) rfl rfl ?_
      refine Rc.iald tb_248 rfl rfl ia_78 (by decide) ?_
      obtain rfl := Option.some.inj h
      obtain ⟨rfl, rfl⟩ := hC
      exact Rc.iret (ins := .ireturn) tb_248 rfl mR_248
    · rw [if_neg hb5] at h
      cases h
theorem T_248 {X : AX} {d : Nat} (hd : 1 ≤ d) {a1 : Int32} {M : IM} {x : Int32} {M1 : IM} (h : F_248 a1 M = some (x, M1)) : Rc X d 248 0 [some (.ref (77)), some (.int (a1))] [] M (some (.int x)) M1 := TF_248 hd h ⟨rfl, rfl⟩
/-! 250: NineDemandsModel.count -/
def J_250_89_64 (x3 : Int32) (s0 : Int32) (s1 : Int32) (M : IM) : Option ((Int32 × Int32) ⊕ (Int32 × Int32)) := some (Sum.inl (s1 + s0, x3 + 1))
def B_250_64 (M : IM) : (Int32 × Int32) → Option ((Int32 × Int32) ⊕ (Int32 × Int32)) := fun (x2, x3) => if (12 : Int32) ≤ x3 then (some (Sum.inr (x2, x3))) else (if inb (10 + x3) 366 = true then (if M 78 (10 + x3).toNatClampNeg = 3 then (J_250_89_64 x3 (1 : Int32) x2 M) else (J_250_89_64 x3 (0 : Int32) x2 M)) else none)
def L_250_64 (M : IM) (x2 : Int32) (x3 : Int32) : Option (Int32 × Int32) := loopN (B_250_64 M) FU (x2, x3)
def F_250 (a1 : Int32) (M : IM) : Option (Int32 × IM) := if a1 = 0 then (some ((M 78 (0 : Int32).toNatClampNeg, M))) else (if a1 = 1 then (match F_228 (((1 : Int32) <<< ((M 78 (0 : Int32).toNatClampNeg) &&& 31)) - 1) M with | none => none | some c14 => (some ((c14, M)))) else (if a1 = 2 then (match L_250_64 M 0 0 with | none => none | some (x2_13, x3_13) => (some ((x2_13, M)))) else (if a1 = 3 then (some ((M 78 (1 : Int32).toNatClampNeg, M))) else (if a1 = 4 then (some ((M 78 (2 : Int32).toNatClampNeg, M))) else (if a1 = 5 then (some ((M 77 27, M))) else (match F_156 ((-1000001) : Int32) M with | none => none | some (c1, M1) => (some ((c1, M1)))))))))
theorem TJ_250_89_64 {X : AX} {d : Nat} (hd : 2 ≤ d) {x3 : Int32} {s0 : Int32} {s1 : Int32} {M : IM} (hs0 : s0 = 0 ∨ s0 = 1) {v : Option Value} {M' : IM} {o : (Int32 × Int32) ⊕ (Int32 × Int32)} (h : J_250_89_64 x3 s0 s1 M = some o) (hP : ∀ s', o = .inl s' → (fun (x2, x3) => Rc X d 250 64 [some (.ref (77)), none, some (.int (x2)), some (.int (x3))] [] M v M') s') (hE : ∀ r, o = .inr r → (fun (x2, x3) => Rc X d 250 97 [none, none, some (.int (x2)), none] [] M v M') r) : Rc X d 250 89 [some (.ref (77)), none, none, some (.int (x3))] [.int (s0), .int (s1)] M v M' := by
  obtain ⟨d, rfl⟩ : ∃ e, d = e + 1 := ⟨d - 1, by omega⟩
  unfold J_250_89_64 at h
  dsimp only at hP hE
  refine Rc.run tb_250 4 (pc' := 64) (ls' := [some (.ref (77)), none, some (.int (s1 + s0)), some (.int (x3 + 1))]) (st' := []) rfl rfl ?_
  refine Rc.mask (b := 13) ((tb_250.2 64).trans rfl) (ls' := [some (.ref (77)), none, some (.int (s1 + s0)), some (.int (x3 + 1))]) rfl ?_
  obtain rfl := Option.some.inj h
  exact hP _ rfl
theorem TB_250_64 {X : AX} {d : Nat} (hd : 2 ≤ d) {M : IM} {v : Option Value} {M' : IM} : ∀ (s : Int32 × Int32) (o : (Int32 × Int32) ⊕ (Int32 × Int32)), B_250_64 M s = some o → (∀ s', o = .inl s' → (fun (x2, x3) => Rc X d 250 64 [some (.ref (77)), none, some (.int (x2)), some (.int (x3))] [] M v M') s') → (∀ r, o = .inr r → (fun (x2, x3) => Rc X d 250 97 [none, none, some (.int (x2)), none] [] M v M') r) → (fun (x2, x3) => Rc X d 250 64 [some (.ref (77)), none, some (.int (x2)), some (.int (x3))] [] M v M') s := by
  rintro ⟨x2, x3⟩ o h hP hE
  show Rc X d 250 64 [some (.ref (77)), none, some (.int (x2)), some (.int (x3))] [] M v M'
  obtain ⟨d, rfl⟩ : ∃ e, d = e + 1 := ⟨d - 1, by omega⟩
  unfold B_250_64 at h
  dsimp only at h hP hE
  refine Rc.run tb_250 2 (pc' := 67) (ls' := [some (.ref (77)), none, some (.int (x2)), some (.int (x3))]) (st' := [.int (12), .int (x3)]) rfl rfl ?_
  refine Rc.icmp_ge (pc1 := 97) tb_250 rfl rfl (by decide) (by decide) (fun hb12 => ?_) (fun hb12 => ?_)
  · rw [if_pos hb12] at h
    refine Rc.mask (b := 4) ((tb_250.2 97).trans rfl) (ls' := [none, none, some (.int (x2)), none]) rfl ?_
    obtain rfl := Option.some.inj h
    exact hE _ rfl
  · rw [if_neg hb12] at h
    refine Rc.run tb_250 2 (pc' := 72) (ls' := [some (.ref (77)), none, some (.int (x2)), some (.int (x3))]) (st' := [.ref (77), .int (x2)]) rfl rfl ?_
    refine Rc.getR tb_250 rfl rfl ob_77 (by decide +kernel) tg_77_0 (by decide) ?_
    refine Rc.run tb_250 3 (pc' := 79) (ls' := [some (.ref (77)), none, some (.int (x2)), some (.int (x3))]) (st' := [.int (10 + x3), .ref (78), .int (x2)]) rfl rfl ?_
    by_cases hb11 : inb (10 + x3) 366 = true
    · rw [if_pos hb11] at h
      refine Rc.iald tb_250 rfl rfl ia_78 hb11 ?_
      refine Rc.run tb_250 1 (pc' := 81) (ls' := [some (.ref (77)), none, some (.int (x2)), some (.int (x3))]) (st' := [.int (3), .int (M 78 (10 + x3).toNatClampNeg), .int (x2)]) rfl rfl ?_
      refine Rc.icmp_ne (pc1 := 88) tb_250 rfl rfl (by decide) (by decide) (fun hb10 => ?_) (fun hb10 => ?_)
      · rw [if_pos hb10] at h
        refine Rc.run tb_250 2 (pc' := 89) (ls' := [some (.ref (77)), none, some (.int (x2)), some (.int (x3))]) (st' := [.int (1), .int (x2)]) rfl rfl ?_
        refine Rc.mask (b := 9) ((tb_250.2 89).trans rfl) (ls' := [some (.ref (77)), none, none, some (.int (x3))]) rfl ?_
        exact TJ_250_89_64 (X := X) (d := d + 1) (by omega) (Or.inr rfl) h hP hE
      · rw [if_neg hb10] at h
        refine Rc.run tb_250 1 (pc' := 89) (ls' := [some (.ref (77)), none, some (.int (x2)), some (.int (x3))]) (st' := [.int (0), .int (x2)]) rfl rfl ?_
        refine Rc.mask (b := 9) ((tb_250.2 89).trans rfl) (ls' := [some (.ref (77)), none, none, some (.int (x3))]) rfl ?_
        exact TJ_250_89_64 (X := X) (d := d + 1) (by omega) (Or.inl rfl) h hP hE
    · rw [if_neg hb11] at h
      cases h
theorem TL_250_64 {X : AX} {d : Nat} (hd : 2 ≤ d) {M : IM} {x2 : Int32} {x3 : Int32} {v : Option Value} {M' : IM} {r : Int32 × Int32} (h : L_250_64 M x2 x3 = some r) (hE : (fun (x2, x3) => Rc X d 250 97 [none, none, some (.int (x2)), none] [] M v M') r) : Rc X d 250 64 [some (.ref (77)), none, some (.int (x2)), some (.int (x3))] [] M v M' := by
  exact loopN_rc (P := fun (x2, x3) => Rc X d 250 64 [some (.ref (77)), none, some (.int (x2)), some (.int (x3))] [] M v M') (E := fun (x2, x3) => Rc X d 250 97 [none, none, some (.int (x2)), none] [] M v M') (TB_250_64 (X := X) hd) FU _ r h hE
theorem TF_250 {X : AX} {d : Nat} (hd : 2 ≤ d) {a1 : Int32} {M : IM} {v : Option Value} {M' : IM} {o : Int32 × IM} (h : F_250 a1 M = some o) (hC : v = some (.int o.1) ∧ M' = o.2) : Rc X d 250 0 [some (.ref (77)), some (.int (a1)), none, none] [] M v M' := by
  obtain ⟨d, rfl⟩ : ∃ e, d = e + 1 := ⟨d - 1, by omega⟩
  unfold F_250 at h
  refine Rc.run tb_250 3 (pc' := 3) (ls' := [some (.ref (77)), some (.int (a1)), some (.int (0)), none]) (st' := [.int (a1)]) rfl rfl ?_
  by_cases hk2 : a1 = 0
  · rw [if_pos hk2] at h
    refine Rc.table (off := 37) (pc1 := 40) tb_250 rfl rfl (by decide) (tsw_at (k := 0) (by rw [hk2]; decide) (by decide +kernel)) (by decide) (by decide) ?_
    refine Rc.run tb_250 1 (pc' := 41) (ls' := [some (.ref (77)), some (.int (a1)), some (.int (0)), none]) (st' := [.ref (77)]) rfl rfl ?_
    refine Rc.getR tb_250 rfl rfl ob_77 (by decide +kernel) tg_77_0 (by decide) ?_
    refine Rc.run tb_250 1 (pc' := 45) (ls' := [some (.ref (77)), some (.int (a1)), some (.int (0)), none]) (st' := [.int (0), .ref (78)]) rfl rfl ?_
    refine Rc.iald tb_250 rfl rfl ia_78 (by decide) ?_
    obtain rfl := Option.some.inj h
    obtain ⟨rfl, rfl⟩ := hC
    exact Rc.iret (ins := .ireturn) tb_250 rfl mR_250
  · rw [if_neg hk2] at h
    by_cases hk3 : a1 = 1
    · rw [if_pos hk3] at h
      refine Rc.table (off := 44) (pc1 := 47) tb_250 rfl rfl (by decide) (tsw_at (k := 1) (by rw [hk3]; decide) (by decide +kernel)) (by decide) (by decide) ?_
      refine Rc.run tb_250 3 (pc' := 50) (ls' := [some (.ref (77)), some (.int (a1)), some (.int (0)), none]) (st' := [.ref (77), .int (1), .ref (77)]) rfl rfl ?_
      refine Rc.getR tb_250 rfl rfl ob_77 (by decide +kernel) tg_77_0 (by decide) ?_
      refine Rc.run tb_250 1 (pc' := 54) (ls' := [some (.ref (77)), some (.int (a1)), some (.int (0)), none]) (st' := [.int (0), .ref (78), .int (1), .ref (77)]) rfl rfl ?_
      refine Rc.iald tb_250 rfl rfl ia_78 (by decide) ?_
      refine Rc.run tb_250 3 (pc' := 58) (ls' := [some (.ref (77)), some (.int (a1)), some (.int (0)), none]) (st' := [.int (((1 : Int32) <<< ((M 78 (0 : Int32).toNatClampNeg) &&& 31)) - 1), .ref (77)]) rfl rfl ?_
      cases hc14 : F_228 (((1 : Int32) <<< ((M 78 (0 : Int32).toNatClampNeg) &&& 31)) - 1) M with
      | none => rw [hc14] at h; cases h
      | some c14 =>
        rw [hc14] at h
        dsimp only at h
        have hq14 := T_228 (X := X) (d := d) (by omega) (M := M) hc14
        refine Rc.callV tb_250 rfl rfl rfl mS_228 mP_228 mL_228 mO_228 rfl rfl ob_77 rfl rfl hq14 ?_
        obtain rfl := Option.some.inj h
        obtain ⟨rfl, rfl⟩ := hC
        exact Rc.iret (ins := .ireturn) tb_250 rfl mR_250
    · rw [if_neg hk3] at h
      by_cases hk4 : a1 = 2
      · rw [if_pos hk4] at h
        refine Rc.table (off := 59) (pc1 := 62) tb_250 rfl rfl (by decide) (tsw_at (k := 2) (by rw [hk4]; decide) (by decide +kernel)) (by decide) (by decide) ?_
        refine Rc.run tb_250 2 (pc' := 64) (ls' := [some (.ref (77)), some (.int (a1)), some (.int (0)), some (.int (0))]) (st' := []) rfl rfl ?_
        refine Rc.mask (b := 13) ((tb_250.2 64).trans rfl) (ls' := [some (.ref (77)), none, some (.int (0)), some (.int (0))]) rfl ?_
        cases hl13 : L_250_64 M 0 0 with
        | none => rw [hl13] at h; cases h
        | some r13 =>
          obtain ⟨x2_13, x3_13⟩ := r13
          rw [hl13] at h
          dsimp only at h
          refine TL_250_64 (X := X) (d := d + 1) (by omega) hl13 ?_
          refine Rc.run tb_250 1 (pc' := 98) (ls' := [none, none, some (.int (x2_13)), none]) (st' := [.int (x2_13)]) rfl rfl ?_
          obtain rfl := Option.some.inj h
          obtain ⟨rfl, rfl⟩ := hC
          exact Rc.iret (ins := .ireturn) tb_250 rfl mR_250
      · rw [if_neg hk4] at h
        by_cases hk5 : a1 = 3
        · rw [if_pos hk5] at h
          refine Rc.table (off := 96) (pc1 := 99) tb_250 rfl rfl (by decide) (tsw_at (k := 3) (by rw [hk5]; decide) (by decide +kernel)) (by decide) (by decide) ?_
          refine Rc.run tb_250 1 (pc' := 100) (ls' := [some (.ref (77)), some (.int (a1)), some (.int (0)), none]) (st' := [.ref (77)]) rfl rfl ?_
          refine Rc.getR tb_250 rfl rfl ob_77 (by decide +kernel) tg_77_0 (by decide) ?_
          refine Rc.run tb_250 1 (pc' := 104) (ls' := [some (.ref (77)), some (.int (a1)), some (.int (0)), none]) (st' := [.int (1), .ref (78)]) rfl rfl ?_
          refine Rc.iald tb_250 rfl rfl ia_78 (by decide) ?_
          obtain rfl := Option.some.inj h
          obtain ⟨rfl, rfl⟩ := hC
          exact Rc.iret (ins := .ireturn) tb_250 rfl mR_250
        · rw [if_neg hk5] at h
          by_cases hk6 : a1 = 4
          · rw [if_pos hk6] at h
            refine Rc.table (off := 103) (pc1 := 106) tb_250 rfl rfl (by decide) (tsw_at (k := 4) (by rw [hk6]; decide) (by decide +kernel)) (by decide) (by decide) ?_
            refine Rc.run tb_250 1 (pc' := 107) (ls' := [some (.ref (77)), some (.int (a1)), some (.int (0)), none]) (st' := [.ref (77)]) rfl rfl ?_
            refine Rc.getR tb_250 rfl rfl ob_77 (by decide +kernel) tg_77_0 (by decide) ?_
            refine Rc.run tb_250 1 (pc' := 111) (ls' := [some (.ref (77)), some (.int (a1)), some (.int (0)), none]) (st' := [.int (2), .ref (78)]) rfl rfl ?_
            refine Rc.iald tb_250 rfl rfl ia_78 (by decide) ?_
            obtain rfl := Option.some.inj h
            obtain ⟨rfl, rfl⟩ := hC
            exact Rc.iret (ins := .ireturn) tb_250 rfl mR_250
          · rw [if_neg hk6] at h
            by_cases hk7 : a1 = 5
            · rw [if_pos hk7] at h
              refine Rc.table (off := 110) (pc1 := 113) tb_250 rfl rfl (by decide) (tsw_at (k := 5) (by rw [hk7]; decide) (by decide +kernel)) (by decide) (by decide) ?_
              refine Rc.run tb_250 1 (pc' := 114) (ls' := [some (.ref (77)), some (.int (a1)), some (.int (0)), none]) (st' := [.ref (77)]) rfl rfl ?_
              refine Rc.getI tb_250 rfl rfl ob_77 (by decide +kernel) tg_77_27 ?_
              obtain rfl := Option.some.inj h
              obtain ⟨rfl, rfl⟩ := hC
              exact Rc.iret (ins := .ireturn) tb_250 rfl mR_250
            · rw [if_neg hk7] at h
              refine Rc.table (off := 115) (pc1 := 118) tb_250 rfl rfl (by decide) (tsw_df [0, 1, 2, 3, 4, 5] (by decide +kernel) (fun k hk => by simp only [List.mem_cons, List.not_mem_nil, or_false] at hk; rcases hk with rfl | rfl | rfl | rfl | rfl | rfl <;> assumption)) (by decide) (by decide) ?_
              refine Rc.run tb_250 2 (pc' := 121) (ls' := [some (.ref (77)), some (.int (a1)), some (.int (0)), none]) (st' := [.int ((-1000001)), .ref (77)]) rfl rfl ?_
              cases hc1 : F_156 ((-1000001) : Int32) M with
              | none => rw [hc1] at h; cases h
              | some r1 =>
                obtain ⟨c1, M1⟩ := r1
                rw [hc1] at h
                dsimp only at h
                have hq1 := T_156 (X := X) (d := d) (by omega) (M := M) hc1
                refine Rc.callV tb_250 rfl rfl rfl mS_156 mP_156 mL_156 mO_156 rfl rfl ob_77 rfl rfl hq1 ?_
                obtain rfl := Option.some.inj h
                obtain ⟨rfl, rfl⟩ := hC
                exact Rc.iret (ins := .ireturn) tb_250 rfl mR_250
theorem T_250 {X : AX} {d : Nat} (hd : 2 ≤ d) {a1 : Int32} {M : IM} {x : Int32} {M1 : IM} (h : F_250 a1 M = some (x, M1)) : Rc X d 250 0 [some (.ref (77)), some (.int (a1)), none, none] [] M (some (.int x)) M1 := TF_250 hd h ⟨rfl, rfl⟩
/-! 251: NineDemandsModel.told -/
def F_251 (a1 : Int32) (M : IM) : Option (Int32 × IM) := if F_157 a1 (1 : Int32) (5 : Int32) = 0 then (match F_156 ((-1000001) : Int32) M with | none => none | some (c2, M2) => (some ((c2, M2)))) else (if inb a1 6 = true then (some ((M 80 a1.toNatClampNeg, M))) else none)
theorem TF_251 {X : AX} {d : Nat} (hd : 1 ≤ d) {a1 : Int32} {M : IM} {v : Option Value} {M' : IM} {o : Int32 × IM} (h : F_251 a1 M = some o) (hC : v = some (.int o.1) ∧ M' = o.2) : Rc X d 251 0 [some (.ref (77)), some (.int (a1))] [] M v M' := by
  obtain ⟨d, rfl⟩ : ∃ e, d = e + 1 := ⟨d - 1, by omega⟩
  unfold F_251 at h
  refine Rc.run tb_251 3 (pc' := 3) (ls' := [some (.ref (77)), some (.int (a1))]) (st' := [.int (5), .int (1), .int (a1)]) rfl rfl ?_
  have hq1 := T_157 (X := X) (d := d) (by omega) a1 (1 : Int32) (5 : Int32) M
  have hz1 := Rc.bool mR_157 hq1
  refine Rc.callS tb_251 rfl rfl rfl mS_157 mP_157 mL_157 rfl rfl rfl hq1 ?_
  refine Rc.if_eq (pc1 := 18) tb_251 rfl rfl (by decide) (by decide) (fun hb4 => ?_) (fun hb4 => ?_)
  · rw [if_pos hb4] at h
    refine Rc.run tb_251 2 (pc' := 21) (ls' := [some (.ref (77)), some (.int (a1))]) (st' := [.int ((-1000001)), .ref (77)]) rfl rfl ?_
    cases hc2 : F_156 ((-1000001) : Int32) M with
    | none => rw [hc2] at h; cases h
    | some r2 =>
      obtain ⟨c2, M2⟩ := r2
      rw [hc2] at h
      dsimp only at h
      have hq2 := T_156 (X := X) (d := d) (by omega) (M := M) hc2
      refine Rc.callV tb_251 rfl rfl rfl mS_156 mP_156 mL_156 mO_156 rfl rfl ob_77 rfl rfl hq2 ?_
      obtain rfl := Option.some.inj h
      obtain ⟨rfl, rfl⟩ := hC
      exact Rc.iret (ins := .ireturn) tb_251 rfl mR_251
  · rw [if_neg hb4] at h
    refine Rc.run tb_251 1 (pc' := 10) (ls' := [some (.ref (77)), some (.int (a1))]) (st' := [.ref (77)]) rfl rfl ?_
    refine Rc.getR tb_251 rfl rfl ob_77 (by decide +kernel) tg_77_3 (by decide) ?_
    refine Rc.run tb_251 1 (pc' := 14) (ls' := [some (.ref (77)), some (.int (a1))]) (st' := [.int (a1), .ref (80)]) rfl rfl ?_
    by_cases hb3 : inb a1 6 = true
    · rw [if_pos hb3] at h
      refine Rc.iald tb_251 rfl rfl ia_80 hb3 ?_
      refine Rc.run tb_251 1 (pc' := 24) (ls' := [some (.ref (77)), some (.int (a1))]) (st' := [.int (M 80 a1.toNatClampNeg)]) rfl rfl ?_
      obtain rfl := Option.some.inj h
      obtain ⟨rfl, rfl⟩ := hC
      exact Rc.iret (ins := .ireturn) tb_251 rfl mR_251
    · rw [if_neg hb3] at h
      cases h
theorem T_251 {X : AX} {d : Nat} (hd : 1 ≤ d) {a1 : Int32} {M : IM} {x : Int32} {M1 : IM} (h : F_251 a1 M = some (x, M1)) : Rc X d 251 0 [some (.ref (77)), some (.int (a1))] [] M (some (.int x)) M1 := TF_251 hd h ⟨rfl, rfl⟩
