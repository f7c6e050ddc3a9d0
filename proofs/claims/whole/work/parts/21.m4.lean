/-! methods as functions, printed by wip/gen/emit.py -/
/-! 180: NineDemandsModel.compared -/
def J_180_50 (rk : IM → Option (IM)) (s0 : Int32) (M : IM) : Option (IM) := if s0 ≤ 0 then (some (M)) else (match F_181 rk M with | none => none | some M5 => (match F_177 s0 M5 with | none => none | some M6 => (some (M6))))
def F_180 (rk : IM → Option (IM)) (M : IM) : Option (IM) := (match F_181 rk M with | none => none | some M1 => (match F_176 (60 : Int32) M1 with | none => none | some (c2, M2) => (if c2 = 0 then (match F_176 (61 : Int32) M2 with | none => none | some (c3, M3) => (if c3 = 0 then (match F_176 (62 : Int32) M3 with | none => none | some (c4, M4) => (if c4 = 0 then (J_180_50 rk (0 : Int32) M4) else (J_180_50 rk (20004 : Int32) M4))) else (J_180_50 rk (20003 : Int32) M3))) else (J_180_50 rk (20002 : Int32) M2))))
theorem TJ_180_50 (Dk : Nat) (rk : IM → Option (IM)) (Hk : ∀ {X : AX} {d : Nat}, Dk ≤ d → ∀ {M : IM} {M1 : IM}, rk M = some M1 → Rc X d 184 0 [some (.ref (77)), none, none, none] [] M none M1) {X : AX} {d : Nat} (hd : Dk + 4 ≤ d) {s0 : Int32} {M : IM} {v : Option Value} {M' : IM} {o : IM} (h : J_180_50 rk s0 M = some o) (hC : v = none ∧ M' = o) : Rc X d 180 50 [some (.ref (77)), none] [.int (s0)] M v M' := by
  obtain ⟨d, rfl⟩ : ∃ e, d = e + 1 := ⟨d - 1, by omega⟩
  unfold J_180_50 at h
  refine Rc.run tb_180 2 (pc' := 52) (ls' := [some (.ref (77)), some (.int (s0))]) (st' := [.int (s0)]) rfl rfl ?_
  refine Rc.if_le (pc1 := 64) tb_180 rfl rfl (by decide) (by decide) (fun hb7 => ?_) (fun hb7 => ?_)
  · rw [if_pos hb7] at h
    obtain rfl := Option.some.inj h
    obtain ⟨rfl, rfl⟩ := hC
    exact Rc.vret tb_180 rfl mR_180
  · rw [if_neg hb7] at h
    refine Rc.run tb_180 1 (pc' := 56) (ls' := [some (.ref (77)), some (.int (s0))]) (st' := [.ref (77)]) rfl rfl ?_
    cases hc5 : F_181 rk M with
    | none => rw [hc5] at h; cases h
    | some M5 =>
      rw [hc5] at h
      dsimp only at h
      have hq5 := T_181 Dk rk Hk (X := X) (d := d) (by omega) (M := M) hc5
      refine Rc.callV tb_180 rfl rfl rfl mS_181 mP_181 mL_181 mO_181 rfl rfl ob_77 rfl rfl hq5 ?_
      refine Rc.run tb_180 2 (pc' := 61) (ls' := [some (.ref (77)), some (.int (s0))]) (st' := [.int (s0), .ref (77)]) rfl rfl ?_
      cases hc6 : F_177 s0 M5 with
      | none => rw [hc6] at h; cases h
      | some M6 =>
        rw [hc6] at h
        dsimp only at h
        have hq6 := T_177 (X := X) (d := d) (by omega) (M := M5) hc6
        refine Rc.callV tb_180 rfl rfl rfl mS_177 mP_177 mL_177 mO_177 rfl rfl ob_77 rfl rfl hq6 ?_
        obtain rfl := Option.some.inj h
        obtain ⟨rfl, rfl⟩ := hC
        exact Rc.vret tb_180 rfl mR_180
theorem TF_180 (Dk : Nat) (rk : IM → Option (IM)) (Hk : ∀ {X : AX} {d : Nat}, Dk ≤ d → ∀ {M : IM} {M1 : IM}, rk M = some M1 → Rc X d 184 0 [some (.ref (77)), none, none, none] [] M none M1) {X : AX} {d : Nat} (hd : Dk + 4 ≤ d) {M : IM} {v : Option Value} {M' : IM} {o : IM} (h : F_180 rk M = some o) (hC : v = none ∧ M' = o) : Rc X d 180 0 [some (.ref (77)), none] [] M v M' := by
  obtain ⟨d, rfl⟩ : ∃ e, d = e + 1 := ⟨d - 1, by omega⟩
  unfold F_180 at h
  refine Rc.run tb_180 1 (pc' := 1) (ls' := [some (.ref (77)), none]) (st' := [.ref (77)]) rfl rfl ?_
  cases hc1 : F_181 rk M with
  | none => rw [hc1] at h; cases h
  | some M1 =>
    rw [hc1] at h
    dsimp only at h
    have hq1 := T_181 Dk rk Hk (X := X) (d := d) (by omega) (M := M) hc1
    refine Rc.callV tb_180 rfl rfl rfl mS_181 mP_181 mL_181 mO_181 rfl rfl ob_77 rfl rfl hq1 ?_
    refine Rc.run tb_180 2 (pc' := 7) (ls' := [some (.ref (77)), none]) (st' := [.int (60), .ref (77)]) rfl rfl ?_
    cases hc2 : F_176 (60 : Int32) M1 with
    | none => rw [hc2] at h; cases h
    | some r2 =>
      obtain ⟨c2, M2⟩ := r2
      rw [hc2] at h
      dsimp only at h
      have hq2 := T_176 (X := X) (d := d) (by omega) (M := M1) hc2
      have hz2 := Rc.bool mR_176 hq2
      refine Rc.callV tb_180 rfl rfl rfl mS_176 mP_176 mL_176 mO_176 rfl rfl ob_77 rfl rfl hq2 ?_
      refine Rc.if_eq (pc1 := 19) tb_180 rfl rfl (by decide) (by decide) (fun hb10 => ?_) (fun hb10 => ?_)
      · rw [if_pos hb10] at h
        refine Rc.run tb_180 2 (pc' := 22) (ls' := [some (.ref (77)), none]) (st' := [.int (61), .ref (77)]) rfl rfl ?_
        cases hc3 : F_176 (61 : Int32) M2 with
        | none => rw [hc3] at h; cases h
        | some r3 =>
          obtain ⟨c3, M3⟩ := r3
          rw [hc3] at h
          dsimp only at h
          have hq3 := T_176 (X := X) (d := d) (by omega) (M := M2) hc3
          have hz3 := Rc.bool mR_176 hq3
          refine Rc.callV tb_180 rfl rfl rfl mS_176 mP_176 mL_176 mO_176 rfl rfl ob_77 rfl rfl hq3 ?_
          refine Rc.if_eq (pc1 := 34) tb_180 rfl rfl (by decide) (by decide) (fun hb9 => ?_) (fun hb9 => ?_)
          · rw [if_pos hb9] at h
            refine Rc.run tb_180 2 (pc' := 37) (ls' := [some (.ref (77)), none]) (st' := [.int (62), .ref (77)]) rfl rfl ?_
            cases hc4 : F_176 (62 : Int32) M3 with
            | none => rw [hc4] at h; cases h
            | some r4 =>
              obtain ⟨c4, M4⟩ := r4
              rw [hc4] at h
              dsimp only at h
              have hq4 := T_176 (X := X) (d := d) (by omega) (M := M3) hc4
              have hz4 := Rc.bool mR_176 hq4
              refine Rc.callV tb_180 rfl rfl rfl mS_176 mP_176 mL_176 mO_176 rfl rfl ob_77 rfl rfl hq4 ?_
              refine Rc.if_eq (pc1 := 49) tb_180 rfl rfl (by decide) (by decide) (fun hb8 => ?_) (fun hb8 => ?_)
              · rw [if_pos hb8] at h
                refine Rc.run tb_180 1 (pc' := 50) (ls' := [some (.ref (77)), none]) (st' := [.int (0)]) rfl rfl ?_
                refine Rc.mask (b := 1) ((tb_180.2 50).trans rfl) (ls' := [some (.ref (77)), none]) rfl ?_
                exact TJ_180_50 Dk rk Hk (X := X) (d := d + 1) (by omega) h hC
              · rw [if_neg hb8] at h
                refine Rc.run tb_180 2 (pc' := 50) (ls' := [some (.ref (77)), none]) (st' := [.int (20004)]) rfl rfl ?_
                refine Rc.mask (b := 1) ((tb_180.2 50).trans rfl) (ls' := [some (.ref (77)), none]) rfl ?_
                exact TJ_180_50 Dk rk Hk (X := X) (d := d + 1) (by omega) h hC
          · rw [if_neg hb9] at h
            refine Rc.run tb_180 2 (pc' := 50) (ls' := [some (.ref (77)), none]) (st' := [.int (20003)]) rfl rfl ?_
            refine Rc.mask (b := 1) ((tb_180.2 50).trans rfl) (ls' := [some (.ref (77)), none]) rfl ?_
            exact TJ_180_50 Dk rk Hk (X := X) (d := d + 1) (by omega) h hC
      · rw [if_neg hb10] at h
        refine Rc.run tb_180 2 (pc' := 50) (ls' := [some (.ref (77)), none]) (st' := [.int (20002)]) rfl rfl ?_
        refine Rc.mask (b := 1) ((tb_180.2 50).trans rfl) (ls' := [some (.ref (77)), none]) rfl ?_
        exact TJ_180_50 Dk rk Hk (X := X) (d := d + 1) (by omega) h hC
theorem T_180 (Dk : Nat) (rk : IM → Option (IM)) (Hk : ∀ {X : AX} {d : Nat}, Dk ≤ d → ∀ {M : IM} {M1 : IM}, rk M = some M1 → Rc X d 184 0 [some (.ref (77)), none, none, none] [] M none M1) {X : AX} {d : Nat} (hd : Dk + 4 ≤ d) {M : IM} {M1 : IM} (h : F_180 rk M = some M1) : Rc X d 180 0 [some (.ref (77)), none] [] M none M1 := TF_180 Dk rk Hk hd h ⟨rfl, rfl⟩
/-! 179: NineDemandsModel.both -/
def B_179_4 (rk : IM → Option (IM)) : (IM) → Option ((IM) ⊕ (IM)) := fun M => (match F_176 (38 : Int32) M with | none => none | some (c2, M2) => (if c2 = 0 then (some (Sum.inr M2)) else (match F_180 rk M2 with | none => none | some M3 => (match F_177 (20001 : Int32) M3 with | none => none | some M4 => (some (Sum.inl M4))))))
def L_179_4 (rk : IM → Option (IM)) (M : IM) : Option (IM) := loopN (B_179_4 rk) FU M
def F_179 (rk : IM → Option (IM)) (M : IM) : Option (IM) := (match F_180 rk M with | none => none | some M1 => (match L_179_4 rk M1 with | none => none | some M6 => (some (M6))))
theorem TB_179_4 (Dk : Nat) (rk : IM → Option (IM)) (Hk : ∀ {X : AX} {d : Nat}, Dk ≤ d → ∀ {M : IM} {M1 : IM}, rk M = some M1 → Rc X d 184 0 [some (.ref (77)), none, none, none] [] M none M1) {X : AX} {d : Nat} (hd : Dk + 5 ≤ d) {v : Option Value} {M' : IM} : ∀ (s : IM) (o : (IM) ⊕ (IM)), B_179_4 rk s = some o → (∀ s', o = .inl s' → (fun M => Rc X d 179 4 [some (.ref (77))] [] M v M') s') → (∀ r, o = .inr r → (fun M => Rc X d 179 27 [none] [] M v M') r) → (fun M => Rc X d 179 4 [some (.ref (77))] [] M v M') s := by
  intro M o h hP hE
  show Rc X d 179 4 [some (.ref (77))] [] M v M'
  obtain ⟨d, rfl⟩ : ∃ e, d = e + 1 := ⟨d - 1, by omega⟩
  unfold B_179_4 at h
  dsimp only at h hP hE
  refine Rc.run tb_179 2 (pc' := 7) (ls' := [some (.ref (77))]) (st' := [.int (38), .ref (77)]) rfl rfl ?_
  cases hc2 : F_176 (38 : Int32) M with
  | none => rw [hc2] at h; cases h
  | some r2 =>
    obtain ⟨c2, M2⟩ := r2
    rw [hc2] at h
    dsimp only at h
    have hq2 := T_176 (X := X) (d := d) (by omega) (M := M) hc2
    have hz2 := Rc.bool mR_176 hq2
    refine Rc.callV tb_179 rfl rfl rfl mS_176 mP_176 mL_176 mO_176 rfl rfl ob_77 rfl rfl hq2 ?_
    refine Rc.if_eq (pc1 := 27) tb_179 rfl rfl (by decide) (by decide) (fun hb5 => ?_) (fun hb5 => ?_)
    · rw [if_pos hb5] at h
      refine Rc.mask (b := 0) ((tb_179.2 27).trans rfl) (ls' := [none]) rfl ?_
      obtain rfl := Option.some.inj h
      exact hE _ rfl
    · rw [if_neg hb5] at h
      refine Rc.run tb_179 1 (pc' := 14) (ls' := [some (.ref (77))]) (st' := [.ref (77)]) rfl rfl ?_
      cases hc3 : F_180 rk M2 with
      | none => rw [hc3] at h; cases h
      | some M3 =>
        rw [hc3] at h
        dsimp only at h
        have hq3 := T_180 Dk rk Hk (X := X) (d := d) (by omega) (M := M2) hc3
        refine Rc.callV tb_179 rfl rfl rfl mS_180 mP_180 mL_180 mO_180 rfl rfl ob_77 rfl rfl hq3 ?_
        refine Rc.run tb_179 2 (pc' := 21) (ls' := [some (.ref (77))]) (st' := [.int (20001), .ref (77)]) rfl rfl ?_
        cases hc4 : F_177 (20001 : Int32) M3 with
        | none => rw [hc4] at h; cases h
        | some M4 =>
          rw [hc4] at h
          dsimp only at h
          have hq4 := T_177 (X := X) (d := d) (by omega) (M := M3) hc4
          refine Rc.callV tb_179 rfl rfl rfl mS_177 mP_177 mL_177 mO_177 rfl rfl ob_77 rfl rfl hq4 ?_
          refine Rc.run tb_179 1 (pc' := 4) (ls' := [some (.ref (77))]) (st' := []) rfl rfl ?_
          refine Rc.mask (b := 1) ((tb_179.2 4).trans rfl) (ls' := [some (.ref (77))]) rfl ?_
          obtain rfl := Option.some.inj h
          exact hP _ rfl
theorem TL_179_4 (Dk : Nat) (rk : IM → Option (IM)) (Hk : ∀ {X : AX} {d : Nat}, Dk ≤ d → ∀ {M : IM} {M1 : IM}, rk M = some M1 → Rc X d 184 0 [some (.ref (77)), none, none, none] [] M none M1) {X : AX} {d : Nat} (hd : Dk + 5 ≤ d) {M : IM} {v : Option Value} {M' : IM} {r : IM} (h : L_179_4 rk M = some r) (hE : (fun M => Rc X d 179 27 [none] [] M v M') r) : Rc X d 179 4 [some (.ref (77))] [] M v M' := by
  exact loopN_rc (P := fun M => Rc X d 179 4 [some (.ref (77))] [] M v M') (E := fun M => Rc X d 179 27 [none] [] M v M') (TB_179_4 Dk rk Hk (X := X) hd) FU _ r h hE
theorem TF_179 (Dk : Nat) (rk : IM → Option (IM)) (Hk : ∀ {X : AX} {d : Nat}, Dk ≤ d → ∀ {M : IM} {M1 : IM}, rk M = some M1 → Rc X d 184 0 [some (.ref (77)), none, none, none] [] M none M1) {X : AX} {d : Nat} (hd : Dk + 5 ≤ d) {M : IM} {v : Option Value} {M' : IM} {o : IM} (h : F_179 rk M = some o) (hC : v = none ∧ M' = o) : Rc X d 179 0 [some (.ref (77))] [] M v M' := by
  obtain ⟨d, rfl⟩ : ∃ e, d = e + 1 := ⟨d - 1, by omega⟩
  unfold F_179 at h
  refine Rc.run tb_179 1 (pc' := 1) (ls' := [some (.ref (77))]) (st' := [.ref (77)]) rfl rfl ?_
  cases hc1 : F_180 rk M with
  | none => rw [hc1] at h; cases h
  | some M1 =>
    rw [hc1] at h
    dsimp only at h
    have hq1 := T_180 Dk rk Hk (X := X) (d := d) (by omega) (M := M) hc1
    refine Rc.callV tb_179 rfl rfl rfl mS_180 mP_180 mL_180 mO_180 rfl rfl ob_77 rfl rfl hq1 ?_
    refine Rc.mask (b := 1) ((tb_179.2 4).trans rfl) (ls' := [some (.ref (77))]) rfl ?_
    cases hl6 : L_179_4 rk M1 with
    | none => rw [hl6] at h; cases h
    | some M6 =>
      rw [hl6] at h
      dsimp only at h
      refine TL_179_4 Dk rk Hk (X := X) (d := d + 1) (by omega) hl6 ?_
      obtain rfl := Option.some.inj h
      obtain ⟨rfl, rfl⟩ := hC
      exact Rc.vret tb_179 rfl mR_179
theorem T_179 (Dk : Nat) (rk : IM → Option (IM)) (Hk : ∀ {X : AX} {d : Nat}, Dk ≤ d → ∀ {M : IM} {M1 : IM}, rk M = some M1 → Rc X d 184 0 [some (.ref (77)), none, none, none] [] M none M1) {X : AX} {d : Nat} (hd : Dk + 5 ≤ d) {M : IM} {M1 : IM} (h : F_179 rk M = some M1) : Rc X d 179 0 [some (.ref (77))] [] M none M1 := TF_179 Dk rk Hk hd h ⟨rfl, rfl⟩
/-! 178: NineDemandsModel.either -/
def B_178_4 (rk : IM → Option (IM)) : (IM) → Option ((IM) ⊕ (IM)) := fun M => (match F_176 (124 : Int32) M with | none => none | some (c2, M2) => (if c2 = 0 then (some (Sum.inr M2)) else (match F_179 rk M2 with | none => none | some M3 => (match F_177 (20000 : Int32) M3 with | none => none | some M4 => (some (Sum.inl M4))))))
def L_178_4 (rk : IM → Option (IM)) (M : IM) : Option (IM) := loopN (B_178_4 rk) FU M
def F_178 (rk : IM → Option (IM)) (M : IM) : Option (IM) := (match F_179 rk M with | none => none | some M1 => (match L_178_4 rk M1 with | none => none | some M6 => (some (M6))))
theorem TB_178_4 (Dk : Nat) (rk : IM → Option (IM)) (Hk : ∀ {X : AX} {d : Nat}, Dk ≤ d → ∀ {M : IM} {M1 : IM}, rk M = some M1 → Rc X d 184 0 [some (.ref (77)), none, none, none] [] M none M1) {X : AX} {d : Nat} (hd : Dk + 6 ≤ d) {v : Option Value} {M' : IM} : ∀ (s : IM) (o : (IM) ⊕ (IM)), B_178_4 rk s = some o → (∀ s', o = .inl s' → (fun M => Rc X d 178 4 [some (.ref (77))] [] M v M') s') → (∀ r, o = .inr r → (fun M => Rc X d 178 27 [none] [] M v M') r) → (fun M => Rc X d 178 4 [some (.ref (77))] [] M v M') s := by
  intro M o h hP hE
  show Rc X d 178 4 [some (.ref (77))] [] M v M'
  obtain ⟨d, rfl⟩ : ∃ e, d = e + 1 := ⟨d - 1, by omega⟩
  unfold B_178_4 at h
  dsimp only at h hP hE
  refine Rc.run tb_178 2 (pc' := 7) (ls' := [some (.ref (77))]) (st' := [.int (124), .ref (77)]) rfl rfl ?_
  cases hc2 : F_176 (124 : Int32) M with
  | none => rw [hc2] at h; cases h
  | some r2 =>
    obtain ⟨c2, M2⟩ := r2
    rw [hc2] at h
    dsimp only at h
    have hq2 := T_176 (X := X) (d := d) (by omega) (M := M) hc2
    have hz2 := Rc.bool mR_176 hq2
    refine Rc.callV tb_178 rfl rfl rfl mS_176 mP_176 mL_176 mO_176 rfl rfl ob_77 rfl rfl hq2 ?_
    refine Rc.if_eq (pc1 := 27) tb_178 rfl rfl (by decide) (by decide) (fun hb5 => ?_) (fun hb5 => ?_)
    · rw [if_pos hb5] at h
      refine Rc.mask (b := 0) ((tb_178.2 27).trans rfl) (ls' := [none]) rfl ?_
      obtain rfl := Option.some.inj h
      exact hE _ rfl
    · rw [if_neg hb5] at h
      refine Rc.run tb_178 1 (pc' := 14) (ls' := [some (.ref (77))]) (st' := [.ref (77)]) rfl rfl ?_
      cases hc3 : F_179 rk M2 with
      | none => rw [hc3] at h; cases h
      | some M3 =>
        rw [hc3] at h
        dsimp only at h
        have hq3 := T_179 Dk rk Hk (X := X) (d := d) (by omega) (M := M2) hc3
        refine Rc.callV tb_178 rfl rfl rfl mS_179 mP_179 mL_179 mO_179 rfl rfl ob_77 rfl rfl hq3 ?_
        refine Rc.run tb_178 2 (pc' := 21) (ls' := [some (.ref (77))]) (st' := [.int (20000), .ref (77)]) rfl rfl ?_
        cases hc4 : F_177 (20000 : Int32) M3 with
        | none => rw [hc4] at h; cases h
        | some M4 =>
          rw [hc4] at h
          dsimp only at h
          have hq4 := T_177 (X := X) (d := d) (by omega) (M := M3) hc4
          refine Rc.callV tb_178 rfl rfl rfl mS_177 mP_177 mL_177 mO_177 rfl rfl ob_77 rfl rfl hq4 ?_
          refine Rc.run tb_178 1 (pc' := 4) (ls' := [some (.ref (77))]) (st' := []) rfl rfl ?_
          refine Rc.mask (b := 1) ((tb_178.2 4).trans rfl) (ls' := [some (.ref (77))]) rfl ?_
          obtain rfl := Option.some.inj h
          exact hP _ rfl
theorem TL_178_4 (Dk : Nat) (rk : IM → Option (IM)) (Hk : ∀ {X : AX} {d : Nat}, Dk ≤ d → ∀ {M : IM} {M1 : IM}, rk M = some M1 → Rc X d 184 0 [some (.ref (77)), none, none, none] [] M none M1) {X : AX} {d : Nat} (hd : Dk + 6 ≤ d) {M : IM} {v : Option Value} {M' : IM} {r : IM} (h : L_178_4 rk M = some r) (hE : (fun M => Rc X d 178 27 [none] [] M v M') r) : Rc X d 178 4 [some (.ref (77))] [] M v M' := by
  exact loopN_rc (P := fun M => Rc X d 178 4 [some (.ref (77))] [] M v M') (E := fun M => Rc X d 178 27 [none] [] M v M') (TB_178_4 Dk rk Hk (X := X) hd) FU _ r h hE
theorem TF_178 (Dk : Nat) (rk : IM → Option (IM)) (Hk : ∀ {X : AX} {d : Nat}, Dk ≤ d → ∀ {M : IM} {M1 : IM}, rk M = some M1 → Rc X d 184 0 [some (.ref (77)), none, none, none] [] M none M1) {X : AX} {d : Nat} (hd : Dk + 6 ≤ d) {M : IM} {v : Option Value} {M' : IM} {o : IM} (h : F_178 rk M = some o) (hC : v = none ∧ M' = o) : Rc X d 178 0 [some (.ref (77))] [] M v M' := by
  obtain ⟨d, rfl⟩ : ∃ e, d = e + 1 := ⟨d - 1, by omega⟩
  unfold F_178 at h
  refine Rc.run tb_178 1 (pc' := 1) (ls' := [some (.ref (77))]) (st' := [.ref (77)]) rfl rfl ?_
  cases hc1 : F_179 rk M with
  | none => rw [hc1] at h; cases h
  | some M1 =>
    rw [hc1] at h
    dsimp only at h
    have hq1 := T_179 Dk rk Hk (X := X) (d := d) (by omega) (M := M) hc1
    refine Rc.callV tb_178 rfl rfl rfl mS_179 mP_179 mL_179 mO_179 rfl rfl ob_77 rfl rfl hq1 ?_
    refine Rc.mask (b := 1) ((tb_178.2 4).trans rfl) (ls' := [some (.ref (77))]) rfl ?_
    cases hl6 : L_178_4 rk M1 with
    | none => rw [hl6] at h; cases h
    | some M6 =>
      rw [hl6] at h
      dsimp only at h
      refine TL_178_4 Dk rk Hk (X := X) (d := d + 1) (by omega) hl6 ?_
      obtain rfl := Option.some.inj h
      obtain ⟨rfl, rfl⟩ := hC
      exact Rc.vret tb_178 rfl mR_178
theorem T_178 (Dk : Nat) (rk : IM → Option (IM)) (Hk : ∀ {X : AX} {d : Nat}, Dk ≤ d → ∀ {M : IM} {M1 : IM}, rk M = some M1 → Rc X d 184 0 [some (.ref (77)), none, none, none] [] M none M1) {X : AX} {d : Nat} (hd : Dk + 6 ≤ d) {M : IM} {M1 : IM} (h : F_178 rk M = some M1) : Rc X d 178 0 [some (.ref (77))] [] M none M1 := TF_178 Dk rk Hk hd h ⟨rfl, rfl⟩
/-! 184: NineDemandsModel.one -/
def J_184_103 (rk : IM → Option (IM)) (M : IM) : Option (IM) := some (iset M 77 10 ((M 77 10) - 1))
def J_184_100 (rk : IM → Option (IM)) (s0 : Int32) (M : IM) : Option (IM) := J_184_103 rk (iset M 77 12 s0)
def J_184_31 (rk : IM → Option (IM)) (x1 : Int32) (s0 : Int32) (M : IM) : Option (IM) := if (iset M 77 12 s0) 77 12 = 0 then (if x1 = 33 then (match rk (iset (iset (iset M 77 12 s0) 77 10 (((iset M 77 12 s0) 77 10) + 1)) 77 9 (((iset (iset M 77 12 s0) 77 10 (((iset M 77 12 s0) 77 10) + 1)) 77 9) + 1)) with | none => none | some M2 => (match F_177 (20010 : Int32) M2 with | none => none | some M3 => (J_184_103 rk M3))) else (match F_178 rk (iset (iset (iset M 77 12 s0) 77 10 (((iset M 77 12 s0) 77 10) + 1)) 77 9 (((iset (iset M 77 12 s0) 77 10 (((iset M 77 12 s0) 77 10) + 1)) 77 9) + 1)) with | none => none | some M4 => (match F_176 (41 : Int32) M4 with | none => none | some (c5, M5) => (if c5 = 0 then (J_184_100 rk (1 : Int32) M5) else (J_184_100 rk (0 : Int32) M5))))) else (some (iset M 77 12 s0))
def J_184_17 (rk : IM → Option (IM)) (x1 : Int32) (M : IM) : Option (IM) := if M 77 10 = 5 then (J_184_31 rk x1 (1 : Int32) M) else (J_184_31 rk x1 (0 : Int32) M)
def J_184_227 (rk : IM → Option (IM)) (x2 : Int32) (s0 : Int32) (M : IM) : Option (IM) := if (iset M 77 12 s0) 77 12 = 0 then (match F_177 (10000 + x2) (iset M 77 12 s0) with | none => none | some M13 => (some (iset M13 77 9 ((M13 77 9) + 1)))) else (some (iset M 77 12 s0))
def J_184_222 (rk : IM → Option (IM)) (x2 : Int32) (M : IM) : Option (IM) := J_184_227 rk x2 (1 : Int32) M
def J_184_199 (rk : IM → Option (IM)) (s0 : Int32) (M : IM) : Option (IM) := if M 77 12 = 0 then (if F_157 s0 (0 : Int32) ((M 77 11) - 1) = 0 then (J_184_222 rk s0 M) else (J_184_227 rk s0 (0 : Int32) M)) else (J_184_222 rk s0 M)
def B_184_131 (rk : IM → Option (IM)) : (Int32 × Int32 × IM) → Option ((Int32 × Int32 × IM) ⊕ (Int32 × Int32 × IM)) := fun (x2, x3, M) => if (4 : Int32) ≤ x3 then (some (Sum.inr (x2, x3, M))) else (match F_175 M with | none => none | some c18 => (if F_157 c18 (48 : Int32) (57 : Int32) = 0 then (some (Sum.inr (x2, x3, M))) else (some (Sum.inl (((10 * x2) + c18) - 48, x3 + 1, iset M 77 9 ((M 77 9) + 1))))))
def L_184_131 (rk : IM → Option (IM)) (x2 : Int32) (x3 : Int32) (M : IM) : Option (Int32 × Int32 × IM) := loopN (B_184_131 rk) FU (x2, x3, M)
def J_184_179 (rk : IM → Option (IM)) (x2 : Int32) (M : IM) : Option (IM) := (match F_177 x2 M with | none => none | some M24 => (some (M24)))
def F_184 (rk : IM → Option (IM)) (M : IM) : Option (IM) := (match F_175 M with | none => none | some c1 => (if c1 = 33 then (J_184_17 rk c1 M) else (if c1 = 40 then (J_184_17 rk c1 M) else (if F_157 c1 (48 : Int32) (57 : Int32) = 0 then (if (0 : Int32) ≤ c1 then (J_184_199 rk (F_183 c1) M) else (J_184_199 rk ((-1) : Int32) M)) else (match L_184_131 rk 0 0 M with | none => none | some (x2_23, x3_23, M23) => (J_184_179 rk x2_23 M23))))))
theorem TJ_184_103 (Dk : Nat) (rk : IM → Option (IM)) (Hk : ∀ {X : AX} {d : Nat}, Dk ≤ d → ∀ {M : IM} {M1 : IM}, rk M = some M1 → Rc X d 184 0 [some (.ref (77)), none, none, none] [] M none M1) {X : AX} {d : Nat} (hd : Dk + 7 ≤ d) {M : IM} {v : Option Value} {M' : IM} {o : IM} (h : J_184_103 rk M = some o) (hC : v = none ∧ M' = o) : Rc X d 184 103 [some (.ref (77)), none, none, none] [] M v M' := by
  obtain ⟨d, rfl⟩ : ∃ e, d = e + 1 := ⟨d - 1, by omega⟩
  unfold J_184_103 at h
  refine Rc.run tb_184 2 (pc' := 105) (ls' := [some (.ref (77)), none, none, none]) (st' := [.ref (77), .ref (77)]) rfl rfl ?_
  refine Rc.getI tb_184 rfl rfl ob_77 (by decide +kernel) tg_77_10 ?_
  refine Rc.run tb_184 2 (pc' := 110) (ls' := [some (.ref (77)), none, none, none]) (st' := [.int ((M 77 10) - 1), .ref (77)]) rfl rfl ?_
  refine Rc.putI tb_184 rfl rfl ob_77 (by decide +kernel) tg_77_10 rfl ?_
  refine Rc.run tb_184 1 (pc' := 256) (ls' := [some (.ref (77)), none, none, none]) (st' := []) rfl rfl ?_
  obtain rfl := Option.some.inj h
  obtain ⟨rfl, rfl⟩ := hC
  exact Rc.vret tb_184 rfl mR_184
theorem TJ_184_100 (Dk : Nat) (rk : IM → Option (IM)) (Hk : ∀ {X : AX} {d : Nat}, Dk ≤ d → ∀ {M : IM} {M1 : IM}, rk M = some M1 → Rc X d 184 0 [some (.ref (77)), none, none, none] [] M none M1) {X : AX} {d : Nat} (hd : Dk + 7 ≤ d) {s0 : Int32} {M : IM} (hs0 : s0 = 0 ∨ s0 = 1) {v : Option Value} {M' : IM} {o : IM} (h : J_184_100 rk s0 M = some o) (hC : v = none ∧ M' = o) : Rc X d 184 100 [some (.ref (77)), none, none, none] [.int (s0), .ref (77)] M v M' := by
  obtain ⟨d, rfl⟩ : ∃ e, d = e + 1 := ⟨d - 1, by omega⟩
  unfold J_184_100 at h
  refine Rc.putI tb_184 rfl rfl ob_77 (by decide +kernel) tg_77_12 (fokZ hs0) ?_
  refine Rc.mask (b := 1) ((tb_184.2 103).trans rfl) (ls' := [some (.ref (77)), none, none, none]) rfl ?_
  exact TJ_184_103 Dk rk Hk (X := X) (d := d + 1) (by omega) h hC
theorem TJ_184_31 (Dk : Nat) (rk : IM → Option (IM)) (Hk : ∀ {X : AX} {d : Nat}, Dk ≤ d → ∀ {M : IM} {M1 : IM}, rk M = some M1 → Rc X d 184 0 [some (.ref (77)), none, none, none] [] M none M1) {X : AX} {d : Nat} (hd : Dk + 7 ≤ d) {x1 : Int32} {s0 : Int32} {M : IM} (hs0 : s0 = 0 ∨ s0 = 1) {v : Option Value} {M' : IM} {o : IM} (h : J_184_31 rk x1 s0 M = some o) (hC : v = none ∧ M' = o) : Rc X d 184 31 [some (.ref (77)), some (.int (x1)), none, none] [.int (s0), .ref (77)] M v M' := by
  obtain ⟨d, rfl⟩ : ∃ e, d = e + 1 := ⟨d - 1, by omega⟩
  unfold J_184_31 at h
  refine Rc.putI tb_184 rfl rfl ob_77 (by decide +kernel) tg_77_12 (fokZ hs0) ?_
  refine Rc.run tb_184 1 (pc' := 35) (ls' := [some (.ref (77)), some (.int (x1)), none, none]) (st' := [.ref (77)]) rfl rfl ?_
  refine Rc.getI tb_184 rfl rfl ob_77 (by decide +kernel) tg_77_12 ?_
  refine Rc.if_ne (pc1 := 256) tb_184 rfl rfl (by decide) (by decide) (fun hb8 => ?_) (fun hb8 => ?_)
  · rw [if_pos hb8] at h
    refine Rc.run tb_184 2 (pc' := 43) (ls' := [some (.ref (77)), some (.int (x1)), none, none]) (st' := [.ref (77), .ref (77)]) rfl rfl ?_
    refine Rc.getI tb_184 rfl rfl ob_77 (by decide +kernel) tg_77_10 ?_
    refine Rc.run tb_184 2 (pc' := 48) (ls' := [some (.ref (77)), some (.int (x1)), none, none]) (st' := [.int (((iset M 77 12 s0) 77 10) + 1), .ref (77)]) rfl rfl ?_
    refine Rc.putI tb_184 rfl rfl ob_77 (by decide +kernel) tg_77_10 rfl ?_
    refine Rc.run tb_184 2 (pc' := 53) (ls' := [some (.ref (77)), some (.int (x1)), none, none]) (st' := [.ref (77), .ref (77)]) rfl rfl ?_
    refine Rc.getI tb_184 rfl rfl ob_77 (by decide +kernel) tg_77_9 ?_
    refine Rc.run tb_184 2 (pc' := 58) (ls' := [some (.ref (77)), some (.int (x1)), none, none]) (st' := [.int (((iset (iset M 77 12 s0) 77 10 (((iset M 77 12 s0) 77 10) + 1)) 77 9) + 1), .ref (77)]) rfl rfl ?_
    refine Rc.putI tb_184 rfl rfl ob_77 (by decide +kernel) tg_77_9 rfl ?_
    refine Rc.run tb_184 2 (pc' := 64) (ls' := [some (.ref (77)), some (.int (x1)), none, none]) (st' := [.int (33), .int (x1)]) rfl rfl ?_
    refine Rc.icmp_ne (pc1 := 81) tb_184 rfl rfl (by decide) (by decide) (fun hb7 => ?_) (fun hb7 => ?_)
    · rw [if_pos hb7] at h
      refine Rc.run tb_184 1 (pc' := 68) (ls' := [some (.ref (77)), some (.int (x1)), none, none]) (st' := [.ref (77)]) rfl rfl ?_
      cases hc2 : rk (iset (iset (iset M 77 12 s0) 77 10 (((iset M 77 12 s0) 77 10) + 1)) 77 9 (((iset (iset M 77 12 s0) 77 10 (((iset M 77 12 s0) 77 10) + 1)) 77 9) + 1)) with
      | none => rw [hc2] at h; cases h
      | some M2 =>
        rw [hc2] at h
        dsimp only at h
        have hq2 := Hk (X := X) (d := d) (by omega) (M := iset (iset (iset M 77 12 s0) 77 10 (((iset M 77 12 s0) 77 10) + 1)) 77 9 (((iset (iset M 77 12 s0) 77 10 (((iset M 77 12 s0) 77 10) + 1)) 77 9) + 1)) hc2
        refine Rc.callV tb_184 rfl rfl rfl mS_184 mP_184 mL_184 mO_184 rfl rfl ob_77 rfl rfl hq2 ?_
        refine Rc.run tb_184 2 (pc' := 75) (ls' := [some (.ref (77)), some (.int (x1)), none, none]) (st' := [.int (20010), .ref (77)]) rfl rfl ?_
        cases hc3 : F_177 (20010 : Int32) M2 with
        | none => rw [hc3] at h; cases h
        | some M3 =>
          rw [hc3] at h
          dsimp only at h
          have hq3 := T_177 (X := X) (d := d) (by omega) (M := M2) hc3
          refine Rc.callV tb_184 rfl rfl rfl mS_177 mP_177 mL_177 mO_177 rfl rfl ob_77 rfl rfl hq3 ?_
          refine Rc.run tb_184 1 (pc' := 103) (ls' := [some (.ref (77)), some (.int (x1)), none, none]) (st' := []) rfl rfl ?_
          refine Rc.mask (b := 1) ((tb_184.2 103).trans rfl) (ls' := [some (.ref (77)), none, none, none]) rfl ?_
          exact TJ_184_103 Dk rk Hk (X := X) (d := d + 1) (by omega) h hC
    · rw [if_neg hb7] at h
      refine Rc.run tb_184 1 (pc' := 82) (ls' := [some (.ref (77)), some (.int (x1)), none, none]) (st' := [.ref (77)]) rfl rfl ?_
      cases hc4 : F_178 rk (iset (iset (iset M 77 12 s0) 77 10 (((iset M 77 12 s0) 77 10) + 1)) 77 9 (((iset (iset M 77 12 s0) 77 10 (((iset M 77 12 s0) 77 10) + 1)) 77 9) + 1)) with
      | none => rw [hc4] at h; cases h
      | some M4 =>
        rw [hc4] at h
        dsimp only at h
        have hq4 := T_178 Dk rk Hk (X := X) (d := d) (by omega) (M := iset (iset (iset M 77 12 s0) 77 10 (((iset M 77 12 s0) 77 10) + 1)) 77 9 (((iset (iset M 77 12 s0) 77 10 (((iset M 77 12 s0) 77 10) + 1)) 77 9) + 1)) hc4
        refine Rc.callV tb_184 rfl rfl rfl mS_178 mP_178 mL_178 mO_178 rfl rfl ob_77 rfl rfl hq4 ?_
        refine Rc.run tb_184 3 (pc' := 89) (ls' := [some (.ref (77)), some (.int (x1)), none, none]) (st' := [.int (41), .ref (77), .ref (77)]) rfl rfl ?_
        cases hc5 : F_176 (41 : Int32) M4 with
        | none => rw [hc5] at h; cases h
        | some r5 =>
          obtain ⟨c5, M5⟩ := r5
          rw [hc5] at h
          dsimp only at h
          have hq5 := T_176 (X := X) (d := d) (by omega) (M := M4) hc5
          have hz5 := Rc.bool mR_176 hq5
          refine Rc.callV tb_184 rfl rfl rfl mS_176 mP_176 mL_176 mO_176 rfl rfl ob_77 rfl rfl hq5 ?_
          refine Rc.if_ne (pc1 := 99) tb_184 rfl rfl (by decide) (by decide) (fun hb6 => ?_) (fun hb6 => ?_)
          · rw [if_pos hb6] at h
            refine Rc.run tb_184 2 (pc' := 100) (ls' := [some (.ref (77)), some (.int (x1)), none, none]) (st' := [.int (1), .ref (77)]) rfl rfl ?_
            refine Rc.mask (b := 1) ((tb_184.2 100).trans rfl) (ls' := [some (.ref (77)), none, none, none]) rfl ?_
            exact TJ_184_100 Dk rk Hk (X := X) (d := d + 1) (by omega) (Or.inr rfl) h hC
          · rw [if_neg hb6] at h
            refine Rc.run tb_184 1 (pc' := 100) (ls' := [some (.ref (77)), some (.int (x1)), none, none]) (st' := [.int (0), .ref (77)]) rfl rfl ?_
            refine Rc.mask (b := 1) ((tb_184.2 100).trans rfl) (ls' := [some (.ref (77)), none, none, none]) rfl ?_
            exact TJ_184_100 Dk rk Hk (X := X) (d := d + 1) (by omega) (Or.inl rfl) h hC
  · rw [if_neg hb8] at h
    obtain rfl := Option.some.inj h
    obtain ⟨rfl, rfl⟩ := hC
    exact Rc.vret tb_184 rfl mR_184
theorem TJ_184_17 (Dk : Nat) (rk : IM → Option (IM)) (Hk : ∀ {X : AX} {d : Nat}, Dk ≤ d → ∀ {M : IM} {M1 : IM}, rk M = some M1 → Rc X d 184 0 [some (.ref (77)), none, none, none] [] M none M1) {X : AX} {d : Nat} (hd : Dk + 7 ≤ d) {x1 : Int32} {M : IM} {v : Option Value} {M' : IM} {o : IM} (h : J_184_17 rk x1 M = some o) (hC : v = none ∧ M' = o) : Rc X d 184 17 [some (.ref (77)), some (.int (x1)), none, none] [] M v M' := by
  obtain ⟨d, rfl⟩ : ∃ e, d = e + 1 := ⟨d - 1, by omega⟩
  unfold J_184_17 at h
  refine Rc.run tb_184 2 (pc' := 19) (ls' := [some (.ref (77)), some (.int (x1)), none, none]) (st' := [.ref (77), .ref (77)]) rfl rfl ?_
  refine Rc.getI tb_184 rfl rfl ob_77 (by decide +kernel) tg_77_10 ?_
  refine Rc.run tb_184 1 (pc' := 23) (ls' := [some (.ref (77)), some (.int (x1)), none, none]) (st' := [.int (5), .int (M 77 10), .ref (77)]) rfl rfl ?_
  refine Rc.icmp_ne (pc1 := 30) tb_184 rfl rfl (by decide) (by decide) (fun hb9 => ?_) (fun hb9 => ?_)
  · rw [if_pos hb9] at h
    refine Rc.run tb_184 2 (pc' := 31) (ls' := [some (.ref (77)), some (.int (x1)), none, none]) (st' := [.int (1), .ref (77)]) rfl rfl ?_
    refine Rc.mask (b := 3) ((tb_184.2 31).trans rfl) (ls' := [some (.ref (77)), some (.int (x1)), none, none]) rfl ?_
    exact TJ_184_31 Dk rk Hk (X := X) (d := d + 1) (by omega) (Or.inr rfl) h hC
  · rw [if_neg hb9] at h
    refine Rc.run tb_184 1 (pc' := 31) (ls' := [some (.ref (77)), some (.int (x1)), none, none]) (st' := [.int (0), .ref (77)]) rfl rfl ?_
    refine Rc.mask (b := 3) ((tb_184.2 31).trans rfl) (ls' := [some (.ref (77)), some (.int (x1)), none, none]) rfl ?_
    exact TJ_184_31 Dk rk Hk (X := X) (d := d + 1) (by omega) (Or.inl rfl) h hC
theorem TJ_184_227 (Dk : Nat) (rk : IM → Option (IM)) (Hk : ∀ {X : AX} {d : Nat}, Dk ≤ d → ∀ {M : IM} {M1 : IM}, rk M = some M1 → Rc X d 184 0 [some (.ref (77)), none, none, none] [] M none M1) {X : AX} {d : Nat} (hd : Dk + 7 ≤ d) {x2 : Int32} {s0 : Int32} {M : IM} (hs0 : s0 = 0 ∨ s0 = 1) {v : Option Value} {M' : IM} {o : IM} (h : J_184_227 rk x2 s0 M = some o) (hC : v = none ∧ M' = o) : Rc X d 184 227 [some (.ref (77)), none, some (.int (x2)), none] [.int (s0), .ref (77)] M v M' := by
  obtain ⟨d, rfl⟩ : ∃ e, d = e + 1 := ⟨d - 1, by omega⟩
  unfold J_184_227 at h
  refine Rc.putI tb_184 rfl rfl ob_77 (by decide +kernel) tg_77_12 (fokZ hs0) ?_
  refine Rc.run tb_184 1 (pc' := 231) (ls' := [some (.ref (77)), none, some (.int (x2)), none]) (st' := [.ref (77)]) rfl rfl ?_
  refine Rc.getI tb_184 rfl rfl ob_77 (by decide +kernel) tg_77_12 ?_
  refine Rc.if_ne (pc1 := 256) tb_184 rfl rfl (by decide) (by decide) (fun hb14 => ?_) (fun hb14 => ?_)
  · rw [if_pos hb14] at h
    refine Rc.run tb_184 4 (pc' := 243) (ls' := [some (.ref (77)), none, some (.int (x2)), none]) (st' := [.int (10000 + x2), .ref (77)]) rfl rfl ?_
    cases hc13 : F_177 (10000 + x2) (iset M 77 12 s0) with
    | none => rw [hc13] at h; cases h
    | some M13 =>
      rw [hc13] at h
      dsimp only at h
      have hq13 := T_177 (X := X) (d := d) (by omega) (M := iset M 77 12 s0) hc13
      refine Rc.callV tb_184 rfl rfl rfl mS_177 mP_177 mL_177 mO_177 rfl rfl ob_77 rfl rfl hq13 ?_
      refine Rc.run tb_184 2 (pc' := 248) (ls' := [some (.ref (77)), none, some (.int (x2)), none]) (st' := [.ref (77), .ref (77)]) rfl rfl ?_
      refine Rc.getI tb_184 rfl rfl ob_77 (by decide +kernel) tg_77_9 ?_
      refine Rc.run tb_184 2 (pc' := 253) (ls' := [some (.ref (77)), none, some (.int (x2)), none]) (st' := [.int ((M13 77 9) + 1), .ref (77)]) rfl rfl ?_
      refine Rc.putI tb_184 rfl rfl ob_77 (by decide +kernel) tg_77_9 rfl ?_
      obtain rfl := Option.some.inj h
      obtain ⟨rfl, rfl⟩ := hC
      exact Rc.vret tb_184 rfl mR_184
  · rw [if_neg hb14] at h
    obtain rfl := Option.some.inj h
    obtain ⟨rfl, rfl⟩ := hC
    exact Rc.vret tb_184 rfl mR_184
theorem TJ_184_222 (Dk : Nat) (rk : IM → Option (IM)) (Hk : ∀ {X : AX} {d : Nat}, Dk ≤ d → ∀ {M : IM} {M1 : IM}, rk M = some M1 → Rc X d 184 0 [some (.ref (77)), none, none, none] [] M none M1) {X : AX} {d : Nat} (hd : Dk + 7 ≤ d) {x2 : Int32} {M : IM} {v : Option Value} {M' : IM} {o : IM} (h : J_184_222 rk x2 M = some o) (hC : v = none ∧ M' = o) : Rc X d 184 222 [some (.ref (77)), none, some (.int (x2)), none] [.ref (77)] M v M' := by
  obtain ⟨d, rfl⟩ : ∃ e, d = e + 1 := ⟨d - 1, by omega⟩
  unfold J_184_222 at h
  refine Rc.run tb_184 2 (pc' := 227) (ls' := [some (.ref (77)), none, some (.int (x2)), none]) (st' := [.int (1), .ref (77)]) rfl rfl ?_
  refine Rc.mask (b := 5) ((tb_184.2 227).trans rfl) (ls' := [some (.ref (77)), none, some (.int (x2)), none]) rfl ?_
  exact TJ_184_227 Dk rk Hk (X := X) (d := d + 1) (by omega) (Or.inr rfl) h hC
theorem TJ_184_199 (Dk : Nat) (rk : IM → Option (IM)) (Hk : ∀ {X : AX} {d : Nat}, Dk ≤ d → ∀ {M : IM} {M1 : IM}, rk M = some M1 → Rc X d 184 0 [some (.ref (77)), none, none, none] [] M none M1) {X : AX} {d : Nat} (hd : Dk + 7 ≤ d) {s0 : Int32} {M : IM} {v : Option Value} {M' : IM} {o : IM} (h : J_184_199 rk s0 M = some o) (hC : v = none ∧ M' = o) : Rc X d 184 199 [some (.ref (77)), none, none, none] [.int (s0)] M v M' := by
  obtain ⟨d, rfl⟩ : ∃ e, d = e + 1 := ⟨d - 1, by omega⟩
  unfold J_184_199 at h
  refine Rc.run tb_184 3 (pc' := 202) (ls' := [some (.ref (77)), none, some (.int (s0)), none]) (st' := [.ref (77), .ref (77)]) rfl rfl ?_
  refine Rc.getI tb_184 rfl rfl ob_77 (by decide +kernel) tg_77_12 ?_
  refine Rc.if_ne (pc1 := 222) tb_184 rfl rfl (by decide) (by decide) (fun hb16 => ?_) (fun hb16 => ?_)
  · rw [if_pos hb16] at h
    refine Rc.run tb_184 3 (pc' := 211) (ls' := [some (.ref (77)), none, some (.int (s0)), none]) (st' := [.ref (77), .int (0), .int (s0), .ref (77)]) rfl rfl ?_
    refine Rc.getI tb_184 rfl rfl ob_77 (by decide +kernel) tg_77_11 ?_
    refine Rc.run tb_184 2 (pc' := 216) (ls' := [some (.ref (77)), none, some (.int (s0)), none]) (st' := [.int ((M 77 11) - 1), .int (0), .int (s0), .ref (77)]) rfl rfl ?_
    have hq12 := T_157 (X := X) (d := d) (by omega) s0 (0 : Int32) ((M 77 11) - 1) M
    have hz12 := Rc.bool mR_157 hq12
    refine Rc.callS tb_184 rfl rfl rfl mS_157 mP_157 mL_157 rfl rfl rfl hq12 ?_
    refine Rc.if_ne (pc1 := 226) tb_184 rfl rfl (by decide) (by decide) (fun hb15 => ?_) (fun hb15 => ?_)
    · rw [if_pos hb15] at h
      refine Rc.mask (b := 5) ((tb_184.2 222).trans rfl) (ls' := [some (.ref (77)), none, some (.int (s0)), none]) rfl ?_
      exact TJ_184_222 Dk rk Hk (X := X) (d := d + 1) (by omega) h hC
    · rw [if_neg hb15] at h
      refine Rc.run tb_184 1 (pc' := 227) (ls' := [some (.ref (77)), none, some (.int (s0)), none]) (st' := [.int (0), .ref (77)]) rfl rfl ?_
      refine Rc.mask (b := 5) ((tb_184.2 227).trans rfl) (ls' := [some (.ref (77)), none, some (.int (s0)), none]) rfl ?_
      exact TJ_184_227 Dk rk Hk (X := X) (d := d + 1) (by omega) (Or.inl rfl) h hC
  · rw [if_neg hb16] at h
    refine Rc.mask (b := 5) ((tb_184.2 222).trans rfl) (ls' := [some (.ref (77)), none, some (.int (s0)), none]) rfl ?_
    exact TJ_184_222 Dk rk Hk (X := X) (d := d + 1) (by omega) h hC
theorem TB_184_131 (Dk : Nat) (rk : IM → Option (IM)) (Hk : ∀ {X : AX} {d : Nat}, Dk ≤ d → ∀ {M : IM} {M1 : IM}, rk M = some M1 → Rc X d 184 0 [some (.ref (77)), none, none, none] [] M none M1) {X : AX} {d : Nat} (hd : Dk + 7 ≤ d) {v : Option Value} {M' : IM} : ∀ (s : Int32 × Int32 × IM) (o : (Int32 × Int32 × IM) ⊕ (Int32 × Int32 × IM)), B_184_131 rk s = some o → (∀ s', o = .inl s' → (fun (x2, x3, M) => Rc X d 184 131 [some (.ref (77)), none, some (.int (x2)), some (.int (x3))] [] M v M') s') → (∀ r, o = .inr r → (fun (x2, x3, M) => Rc X d 184 179 [some (.ref (77)), none, some (.int (x2)), none] [] M v M') r) → (fun (x2, x3, M) => Rc X d 184 131 [some (.ref (77)), none, some (.int (x2)), some (.int (x3))] [] M v M') s := by
  rintro ⟨x2, x3, M⟩ o h hP hE
  show Rc X d 184 131 [some (.ref (77)), none, some (.int (x2)), some (.int (x3))] [] M v M'
  obtain ⟨d, rfl⟩ : ∃ e, d = e + 1 := ⟨d - 1, by omega⟩
  unfold B_184_131 at h
  dsimp only at h hP hE
  refine Rc.run tb_184 2 (pc' := 133) (ls' := [some (.ref (77)), none, some (.int (x2)), some (.int (x3))]) (st' := [.int (4), .int (x3)]) rfl rfl ?_
  refine Rc.icmp_ge (pc1 := 179) tb_184 rfl rfl (by decide) (by decide) (fun hb22 => ?_) (fun hb22 => ?_)
  · rw [if_pos hb22] at h
    refine Rc.mask (b := 5) ((tb_184.2 179).trans rfl) (ls' := [some (.ref (77)), none, some (.int (x2)), none]) rfl ?_
    obtain rfl := Option.some.inj h
    exact hE _ rfl
  · rw [if_neg hb22] at h
    refine Rc.run tb_184 1 (pc' := 137) (ls' := [some (.ref (77)), none, some (.int (x2)), some (.int (x3))]) (st' := [.ref (77)]) rfl rfl ?_
    cases hc18 : F_175 M with
    | none => rw [hc18] at h; cases h
    | some c18 =>
      rw [hc18] at h
      dsimp only at h
      have hq18 := T_175 (X := X) (d := d) (by omega) (M := M) hc18
      refine Rc.callV tb_184 rfl rfl rfl mS_175 mP_175 mL_175 mO_175 rfl rfl ob_77 rfl rfl hq18 ?_
      refine Rc.run tb_184 2 (pc' := 144) (ls' := [some (.ref (77)), none, some (.int (x2)), some (.int (x3))]) (st' := [.int (57), .int (48), .int (c18)]) rfl rfl ?_
      have hq19 := T_157 (X := X) (d := d) (by omega) c18 (48 : Int32) (57 : Int32) M
      have hz19 := Rc.bool mR_157 hq19
      refine Rc.callS tb_184 rfl rfl rfl mS_157 mP_157 mL_157 rfl rfl rfl hq19 ?_
      refine Rc.if_eq (pc1 := 179) tb_184 rfl rfl (by decide) (by decide) (fun hb21 => ?_) (fun hb21 => ?_)
      · rw [if_pos hb21] at h
        refine Rc.mask (b := 5) ((tb_184.2 179).trans rfl) (ls' := [some (.ref (77)), none, some (.int (x2)), none]) rfl ?_
        obtain rfl := Option.some.inj h
        exact hE _ rfl
      · rw [if_neg hb21] at h
        refine Rc.run tb_184 4 (pc' := 155) (ls' := [some (.ref (77)), none, some (.int (x2)), some (.int (x3))]) (st' := [.ref (77), .int (10 * x2)]) rfl rfl ?_
        refine Rc.callV tb_184 rfl rfl rfl mS_175 mP_175 mL_175 mO_175 rfl rfl ob_77 rfl rfl hq18 ?_
        refine Rc.run tb_184 6 (pc' := 165) (ls' := [some (.ref (77)), none, some (.int (((10 * x2) + c18) - 48)), some (.int (x3))]) (st' := [.ref (77), .ref (77)]) rfl rfl ?_
        refine Rc.getI tb_184 rfl rfl ob_77 (by decide +kernel) tg_77_9 ?_
        refine Rc.run tb_184 2 (pc' := 170) (ls' := [some (.ref (77)), none, some (.int (((10 * x2) + c18) - 48)), some (.int (x3))]) (st' := [.int ((M 77 9) + 1), .ref (77)]) rfl rfl ?_
        refine Rc.putI tb_184 rfl rfl ob_77 (by decide +kernel) tg_77_9 rfl ?_
        refine Rc.run tb_184 2 (pc' := 131) (ls' := [some (.ref (77)), none, some (.int (((10 * x2) + c18) - 48)), some (.int (x3 + 1))]) (st' := []) rfl rfl ?_
        refine Rc.mask (b := 13) ((tb_184.2 131).trans rfl) (ls' := [some (.ref (77)), none, some (.int (((10 * x2) + c18) - 48)), some (.int (x3 + 1))]) rfl ?_
        obtain rfl := Option.some.inj h
        exact hP _ rfl
theorem TL_184_131 (Dk : Nat) (rk : IM → Option (IM)) (Hk : ∀ {X : AX} {d : Nat}, Dk ≤ d → ∀ {M : IM} {M1 : IM}, rk M = some M1 → Rc X d 184 0 [some (.ref (77)), none, none, none] [] M none M1) {X : AX} {d : Nat} (hd : Dk + 7 ≤ d) {x2 : Int32} {x3 : Int32} {M : IM} {v : Option Value} {M' : IM} {r : Int32 × Int32 × IM} (h : L_184_131 rk x2 x3 M = some r) (hE : (fun (x2, x3, M) => Rc X d 184 179 [some (.ref (77)), none, some (.int (x2)), none] [] M v M') r) : Rc X d 184 131 [some (.ref (77)), none, some (.int (x2)), some (.int (x3))] [] M v M' := by
  exact loopN_rc (P := fun (x2, x3, M) => Rc X d 184 131 [some (.ref (77)), none, some (.int (x2)), some (.int (x3))] [] M v M') (E := fun (x2, x3, M) => Rc X d 184 179 [some (.ref (77)), none, some (.int (x2)), none] [] M v M') (TB_184_131 Dk rk Hk (X := X) hd) FU _ r h hE
theorem TJ_184_179 (Dk : Nat) (rk : IM → Option (IM)) (Hk : ∀ {X : AX} {d : Nat}, Dk ≤ d → ∀ {M : IM} {M1 : IM}, rk M = some M1 → Rc X d 184 0 [some (.ref (77)), none, none, none] [] M none M1) {X : AX} {d : Nat} (hd : Dk + 7 ≤ d) {x2 : Int32} {M : IM} {v : Option Value} {M' : IM} {o : IM} (h : J_184_179 rk x2 M = some o) (hC : v = none ∧ M' = o) : Rc X d 184 179 [some (.ref (77)), none, some (.int (x2)), none] [] M v M' := by
  obtain ⟨d, rfl⟩ : ∃ e, d = e + 1 := ⟨d - 1, by omega⟩
  unfold J_184_179 at h
  refine Rc.run tb_184 2 (pc' := 181) (ls' := [some (.ref (77)), none, some (.int (x2)), none]) (st' := [.int (x2), .ref (77)]) rfl rfl ?_
  cases hc24 : F_177 x2 M with
  | none => rw [hc24] at h; cases h
  | some M24 =>
    rw [hc24] at h
    dsimp only at h
    have hq24 := T_177 (X := X) (d := d) (by omega) (M := M) hc24
    refine Rc.callV tb_184 rfl rfl rfl mS_177 mP_177 mL_177 mO_177 rfl rfl ob_77 rfl rfl hq24 ?_
    refine Rc.run tb_184 1 (pc' := 256) (ls' := [some (.ref (77)), none, some (.int (x2)), none]) (st' := []) rfl rfl ?_
    obtain rfl := Option.some.inj h
    obtain ⟨rfl, rfl⟩ := hC
    exact Rc.vret tb_184 rfl mR_184
theorem TF_184 (Dk : Nat) (rk : IM → Option (IM)) (Hk : ∀ {X : AX} {d : Nat}, Dk ≤ d → ∀ {M : IM} {M1 : IM}, rk M = some M1 → Rc X d 184 0 [some (.ref (77)), none, none, none] [] M none M1) {X : AX} {d : Nat} (hd : Dk + 7 ≤ d) {M : IM} {v : Option Value} {M' : IM} {o : IM} (h : F_184 rk M = some o) (hC : v = none ∧ M' = o) : Rc X d 184 0 [some (.ref (77)), none, none, none] [] M v M' := by
  obtain ⟨d, rfl⟩ : ∃ e, d = e + 1 := ⟨d - 1, by omega⟩
  unfold F_184 at h
  refine Rc.run tb_184 1 (pc' := 1) (ls' := [some (.ref (77)), none, none, none]) (st' := [.ref (77)]) rfl rfl ?_
  cases hc1 : F_175 M with
  | none => rw [hc1] at h; cases h
  | some c1 =>
    rw [hc1] at h
    dsimp only at h
    have hq1 := T_175 (X := X) (d := d) (by omega) (M := M) hc1
    refine Rc.callV tb_184 rfl rfl rfl mS_175 mP_175 mL_175 mO_175 rfl rfl ob_77 rfl rfl hq1 ?_
    refine Rc.run tb_184 3 (pc' := 8) (ls' := [some (.ref (77)), some (.int (c1)), none, none]) (st' := [.int (33), .int (c1)]) rfl rfl ?_
    refine Rc.icmp_eq (pc1 := 17) tb_184 rfl rfl (by decide) (by decide) (fun hb27 => ?_) (fun hb27 => ?_)
    · rw [if_pos hb27] at h
      refine Rc.mask (b := 3) ((tb_184.2 17).trans rfl) (ls' := [some (.ref (77)), some (.int (c1)), none, none]) rfl ?_
      exact TJ_184_17 Dk rk Hk (X := X) (d := d + 1) (by omega) h hC
    · rw [if_neg hb27] at h
      refine Rc.run tb_184 2 (pc' := 14) (ls' := [some (.ref (77)), some (.int (c1)), none, none]) (st' := [.int (40), .int (c1)]) rfl rfl ?_
      refine Rc.icmp_ne (pc1 := 116) tb_184 rfl rfl (by decide) (by decide) (fun hb26 => ?_) (fun hb26 => ?_)
      · rw [if_pos hb26] at h
        refine Rc.mask (b := 3) ((tb_184.2 17).trans rfl) (ls' := [some (.ref (77)), some (.int (c1)), none, none]) rfl ?_
        exact TJ_184_17 Dk rk Hk (X := X) (d := d + 1) (by omega) h hC
      · rw [if_neg hb26] at h
        refine Rc.run tb_184 3 (pc' := 121) (ls' := [some (.ref (77)), some (.int (c1)), none, none]) (st' := [.int (57), .int (48), .int (c1)]) rfl rfl ?_
        have hq10 := T_157 (X := X) (d := d) (by omega) c1 (48 : Int32) (57 : Int32) M
        have hz10 := Rc.bool mR_157 hq10
        refine Rc.callS tb_184 rfl rfl rfl mS_157 mP_157 mL_157 rfl rfl rfl hq10 ?_
        refine Rc.if_eq (pc1 := 187) tb_184 rfl rfl (by decide) (by decide) (fun hb25 => ?_) (fun hb25 => ?_)
        · rw [if_pos hb25] at h
          refine Rc.run tb_184 1 (pc' := 188) (ls' := [some (.ref (77)), some (.int (c1)), none, none]) (st' := [.int (c1)]) rfl rfl ?_
          refine Rc.if_ge (pc1 := 195) tb_184 rfl rfl (by decide) (by decide) (fun hb17 => ?_) (fun hb17 => ?_)
          · rw [if_pos hb17] at h
            refine Rc.run tb_184 1 (pc' := 196) (ls' := [some (.ref (77)), some (.int (c1)), none, none]) (st' := [.int (c1)]) rfl rfl ?_
            have hq11 := T_183 (X := X) (d := d) (by omega) c1 M
            refine Rc.callS tb_184 rfl rfl rfl mS_183 mP_183 mL_183 rfl rfl rfl hq11 ?_
            refine Rc.mask (b := 1) ((tb_184.2 199).trans rfl) (ls' := [some (.ref (77)), none, none, none]) rfl ?_
            exact TJ_184_199 Dk rk Hk (X := X) (d := d + 1) (by omega) h hC
          · rw [if_neg hb17] at h
            refine Rc.run tb_184 2 (pc' := 199) (ls' := [some (.ref (77)), some (.int (c1)), none, none]) (st' := [.int ((-1))]) rfl rfl ?_
            refine Rc.mask (b := 1) ((tb_184.2 199).trans rfl) (ls' := [some (.ref (77)), none, none, none]) rfl ?_
            exact TJ_184_199 Dk rk Hk (X := X) (d := d + 1) (by omega) h hC
        · rw [if_neg hb25] at h
          refine Rc.run tb_184 4 (pc' := 131) (ls' := [some (.ref (77)), some (.int (c1)), some (.int (0)), some (.int (0))]) (st' := []) rfl rfl ?_
          refine Rc.mask (b := 13) ((tb_184.2 131).trans rfl) (ls' := [some (.ref (77)), none, some (.int (0)), some (.int (0))]) rfl ?_
          cases hl23 : L_184_131 rk 0 0 M with
          | none => rw [hl23] at h; cases h
          | some r23 =>
            obtain ⟨x2_23, x3_23, M23⟩ := r23
            rw [hl23] at h
            dsimp only at h
            refine TL_184_131 Dk rk Hk (X := X) (d := d + 1) (by omega) hl23 ?_
            refine Rc.mask (b := 5) ((tb_184.2 179).trans rfl) (ls' := [some (.ref (77)), none, some (.int (x2_23)), none]) rfl ?_
            exact TJ_184_179 Dk rk Hk (X := X) (d := d + 1) (by omega) h hC
theorem T_184 (Dk : Nat) (rk : IM → Option (IM)) (Hk : ∀ {X : AX} {d : Nat}, Dk ≤ d → ∀ {M : IM} {M1 : IM}, rk M = some M1 → Rc X d 184 0 [some (.ref (77)), none, none, none] [] M none M1) {X : AX} {d : Nat} (hd : Dk + 7 ≤ d) {M : IM} {M1 : IM} (h : F_184 rk M = some M1) : Rc X d 184 0 [some (.ref (77)), none, none, none] [] M none M1 := TF_184 Dk rk Hk hd h ⟨rfl, rfl⟩
def KK_184 : Nat → IM → Option (IM)
  | 0, _ => none
  | k + 1, M => F_184 (KK_184 k) M
theorem TKK_184 : ∀ (k : Nat), ∀ {X : AX} {d : Nat}, k * 7 ≤ d → ∀ {M : IM} {M1 : IM}, KK_184 k M = some M1 → Rc X d 184 0 [some (.ref (77)), none, none, none] [] M none M1
  | 0 => by intros; rename_i h; cases h
  | k + 1 => by intro hd; intros; rename_i h; exact T_184 (k * 7) (KK_184 k) (@TKK_184 k) (by omega) h
def K_184 (M : IM) : Option (IM) := KK_184 64 M
theorem TK_184 {X : AX} {d : Nat} (hd : 448 ≤ d)  {M : IM} {M1 : IM} (h : K_184 M = some M1) : Rc X d 184 0 [some (.ref (77)), none, none, none] [] M none M1 := TKK_184 64 (by omega) h
def K_178 (M : IM) : Option (IM) := F_178 (KK_184 64) M
theorem TK_178 {X : AX} {d : Nat} (hd : 454 ≤ d)  {M : IM} {M1 : IM} (h : K_178 M = some M1) : Rc X d 178 0 [some (.ref (77))] [] M none M1 := T_178 (64 * 7) (KK_184 64) (@TKK_184 64) (X := X) (d := d) (by omega) h
def K_179 (M : IM) : Option (IM) := F_179 (KK_184 64) M
theorem TK_179 {X : AX} {d : Nat} (hd : 453 ≤ d)  {M : IM} {M1 : IM} (h : K_179 M = some M1) : Rc X d 179 0 [some (.ref (77))] [] M none M1 := T_179 (64 * 7) (KK_184 64) (@TKK_184 64) (X := X) (d := d) (by omega) h
def K_180 (M : IM) : Option (IM) := F_180 (KK_184 64) M
theorem TK_180 {X : AX} {d : Nat} (hd : 452 ≤ d)  {M : IM} {M1 : IM} (h : K_180 M = some M1) : Rc X d 180 0 [some (.ref (77)), none] [] M none M1 := T_180 (64 * 7) (KK_184 64) (@TKK_184 64) (X := X) (d := d) (by omega) h
def K_181 (M : IM) : Option (IM) := F_181 (KK_184 64) M
theorem TK_181 {X : AX} {d : Nat} (hd : 451 ≤ d)  {M : IM} {M1 : IM} (h : K_181 M = some M1) : Rc X d 181 0 [some (.ref (77)), none] [] M none M1 := T_181 (64 * 7) (KK_184 64) (@TKK_184 64) (X := X) (d := d) (by omega) h
def K_182 (M : IM) : Option (IM) := F_182 (KK_184 64) M
theorem TK_182 {X : AX} {d : Nat} (hd : 450 ≤ d)  {M : IM} {M1 : IM} (h : K_182 M = some M1) : Rc X d 182 0 [some (.ref (77)), none] [] M none M1 := T_182 (64 * 7) (KK_184 64) (@TKK_184 64) (X := X) (d := d) (by omega) h
/-! 190: NineDemandsModel.law -/
def J_190_19 (M : IM) : Option (Int32 × IM) := (match F_156 ((-1000001) : Int32) M with | none => none | some (c2, M2) => (some ((c2, M2))))
def B_190_188 (x1 : Int32) (x3 : Int32) : (Int32 × IM) → Option ((Int32 × IM) ⊕ (Int32 × IM)) := fun (x4, M) => if inb (x1 + 1) 7 = true then (if M 81 (x1 + 1).toNatClampNeg ≤ x4 then (some (Sum.inr (x4, M))) else (if inb x1 7 = true then (match F_189 x1 x4 M with | none => none | some (c6, M6) => (if inb (((110 + (32 * x3)) + x4) - (M 81 x1.toNatClampNeg)) 366 = true then (some (Sum.inl (x4 + 1, iset M6 78 (((110 + (32 * x3)) + x4) - (M 81 x1.toNatClampNeg)).toNatClampNeg c6))) else none)) else none)) else none
def L_190_188 (x1 : Int32) (x3 : Int32) (x4 : Int32) (M : IM) : Option (Int32 × IM) := loopN (B_190_188 x1 x3) FU (x4, M)
def J_190_236 (x3 : Int32) (M : IM) : Option (Int32 × IM) := some ((x3, iset M 78 (0 : Int32).toNatClampNeg ((M 78 (0 : Int32).toNatClampNeg) + 1)))
def J_190_160 (x1 : Int32) (x2 : Int32) (x3 : Int32) (M : IM) : Option (Int32 × IM) := if inb (22 + x3) 366 = true then (if inb (30 + x3) 366 = true then (if inb x1 7 = true then (match L_190_188 x1 x3 ((iset (iset M 78 (22 + x3).toNatClampNeg x1) 78 (30 + x3).toNatClampNeg x2) 81 x1.toNatClampNeg) (iset (iset M 78 (22 + x3).toNatClampNeg x1) 78 (30 + x3).toNatClampNeg x2) with | none => none | some (x4_11, M11) => (J_190_236 x3 M11)) else none) else none) else none
def J_190_135 (x1 : Int32) (x2 : Int32) (x3 : Int32) (s0 : Int32) (M : IM) : Option (Int32 × IM) := if (iset (iset M 77 12 s0) 78 (1 : Int32).toNatClampNeg 0) 77 12 = 0 then (J_190_160 x1 x2 x3 (iset (iset M 77 12 s0) 78 (1 : Int32).toNatClampNeg 0)) else (some (((-10) - ((iset (iset M 77 12 s0) 78 (1 : Int32).toNatClampNeg 0) 77 9), iset (iset M 77 12 s0) 78 (1 : Int32).toNatClampNeg 0)))
def J_190_130 (x1 : Int32) (x2 : Int32) (x3 : Int32) (M : IM) : Option (Int32 × IM) := J_190_135 x1 x2 x3 (1 : Int32) M
def J_190_102 (x1 : Int32) (x2 : Int32) (x3 : Int32) (s0 : Int32) (M : IM) : Option (Int32 × IM) := (match K_178 (iset M 77 11 s0) with | none => none | some M5 => (if M5 77 12 = 0 then (if M5 78 (1 : Int32).toNatClampNeg ≤ M5 77 9 then (J_190_135 x1 x2 x3 (0 : Int32) M5) else (J_190_130 x1 x2 x3 M5)) else (J_190_130 x1 x2 x3 M5)))
def J_190_60 (x1 : Int32) (x2 : Int32) (x3 : Int32) (M : IM) : Option (Int32 × IM) := if x1 = 0 then (J_190_102 x1 x2 x3 (7 : Int32) (iset (iset (iset (iset M 77 9 0) 77 10 0) 77 12 0) 77 14 0)) else (if x1 = 4 then (J_190_102 x1 x2 x3 (9 : Int32) (iset (iset (iset (iset M 77 9 0) 77 10 0) 77 12 0) 77 14 0)) else (J_190_102 x1 x2 x3 (10 : Int32) (iset (iset (iset (iset M 77 9 0) 77 10 0) 77 12 0) 77 14 0)))
def F_190 (a1 : Int32) (a2 : Int32) (M : IM) : Option (Int32 × IM) := if F_157 a1 (0 : Int32) (5 : Int32) = 0 then (J_190_19 M) else (if F_157 a2 (0 : Int32) (99 : Int32) = 0 then (J_190_19 M) else (if M 78 (0 : Int32).toNatClampNeg = 8 then (match F_156 ((-1000004) : Int32) M with | none => none | some (c4, M4) => (some ((c4, M4)))) else (if a1 = 0 then (J_190_60 a1 a2 (M 78 (0 : Int32).toNatClampNeg) M) else (if a1 = 1 then (J_190_60 a1 a2 (M 78 (0 : Int32).toNatClampNeg) M) else (if a1 = 4 then (J_190_60 a1 a2 (M 78 (0 : Int32).toNatClampNeg) M) else (J_190_160 a1 a2 (M 78 (0 : Int32).toNatClampNeg) M))))))
theorem TJ_190_19 {X : AX} {d : Nat} (hd : 455 ≤ d) {M : IM} {v : Option Value} {M' : IM} {o : Int32 × IM} (h : J_190_19 M = some o) (hC : v = some (.int o.1) ∧ M' = o.2) : Rc X d 190 19 [some (.ref (77)), none, none, none, none] [] M v M' := by
  obtain ⟨d, rfl⟩ : ∃ e, d = e + 1 := ⟨d - 1, by omega⟩
  unfold J_190_19 at h
  refine Rc.run tb_190 2 (pc' := 22) (ls' := [some (.ref (77)), none, none, none, none]) (st' := [.int ((-1000001)), .ref (77)]) rfl rfl ?_
  cases hc2 : F_156 ((-1000001) : Int32) M with
  | none => rw [hc2] at h; cases h
  | some r2 =>
    obtain ⟨c2, M2⟩ := r2
    rw [hc2] at h
    dsimp only at h
    have hq2 := T_156 (X := X) (d := d) (by omega) (M := M) hc2
    refine Rc.callV tb_190 rfl rfl rfl mS_156 mP_156 mL_156 mO_156 rfl rfl ob_77 rfl rfl hq2 ?_
    obtain rfl := Option.some.inj h
    obtain ⟨rfl, rfl⟩ := hC
    exact Rc.iret (ins := .ireturn) tb_190 rfl mR_190
theorem TB_190_188 {X : AX} {d : Nat} (hd : 455 ≤ d) {x1 : Int32} {x3 : Int32} {v : Option Value} {M' : IM} : ∀ (s : Int32 × IM) (o : (Int32 × IM) ⊕ (Int32 × IM)), B_190_188 x1 x3 s = some o → (∀ s', o = .inl s' → (fun (x4, M) => Rc X d 190 188 [some (.ref (77)), some (.int (x1)), none, some (.int (x3)), some (.int (x4))] [] M v M') s') → (∀ r, o = .inr r → (fun (x4, M) => Rc X d 190 236 [some (.ref (77)), none, none, some (.int (x3)), none] [] M v M') r) → (fun (x4, M) => Rc X d 190 188 [some (.ref (77)), some (.int (x1)), none, some (.int (x3)), some (.int (x4))] [] M v M') s := by
  rintro ⟨x4, M⟩ o h hP hE
  show Rc X d 190 188 [some (.ref (77)), some (.int (x1)), none, some (.int (x3)), some (.int (x4))] [] M v M'
  obtain ⟨d, rfl⟩ : ∃ e, d = e + 1 := ⟨d - 1, by omega⟩
  unfold B_190_188 at h
  dsimp only at h hP hE
  refine Rc.run tb_190 2 (pc' := 191) (ls' := [some (.ref (77)), some (.int (x1)), none, some (.int (x3)), some (.int (x4))]) (st' := [.ref (77), .int (x4)]) rfl rfl ?_
  refine Rc.getR tb_190 rfl rfl ob_77 (by decide +kernel) tg_77_4 (by decide) ?_
  refine Rc.run tb_190 3 (pc' := 197) (ls' := [some (.ref (77)), some (.int (x1)), none, some (.int (x3)), some (.int (x4))]) (st' := [.int (x1 + 1), .ref (81), .int (x4)]) rfl rfl ?_
  by_cases hb10 : inb (x1 + 1) 7 = true
  · rw [if_pos hb10] at h
    refine Rc.iald tb_190 rfl rfl ia_81 hb10 ?_
    refine Rc.icmp_ge (pc1 := 236) tb_190 rfl rfl (by decide) (by decide) (fun hb9 => ?_) (fun hb9 => ?_)
    · rw [if_pos hb9] at h
      refine Rc.mask (b := 9) ((tb_190.2 236).trans rfl) (ls' := [some (.ref (77)), none, none, some (.int (x3)), none]) rfl ?_
      obtain rfl := Option.some.inj h
      exact hE _ rfl
    · rw [if_neg hb9] at h
      refine Rc.run tb_190 1 (pc' := 202) (ls' := [some (.ref (77)), some (.int (x1)), none, some (.int (x3)), some (.int (x4))]) (st' := [.ref (77)]) rfl rfl ?_
      refine Rc.getR tb_190 rfl rfl ob_77 (by decide +kernel) tg_77_0 (by decide) ?_
      refine Rc.run tb_190 8 (pc' := 216) (ls' := [some (.ref (77)), some (.int (x1)), none, some (.int (x3)), some (.int (x4))]) (st' := [.ref (77), .int ((110 + (32 * x3)) + x4), .ref (78)]) rfl rfl ?_
      refine Rc.getR tb_190 rfl rfl ob_77 (by decide +kernel) tg_77_4 (by decide) ?_
      refine Rc.run tb_190 1 (pc' := 220) (ls' := [some (.ref (77)), some (.int (x1)), none, some (.int (x3)), some (.int (x4))]) (st' := [.int (x1), .ref (81), .int ((110 + (32 * x3)) + x4), .ref (78)]) rfl rfl ?_
      by_cases hb8 : inb x1 7 = true
      · rw [if_pos hb8] at h
        refine Rc.iald tb_190 rfl rfl ia_81 hb8 ?_
        refine Rc.run tb_190 4 (pc' := 226) (ls' := [some (.ref (77)), some (.int (x1)), none, some (.int (x3)), some (.int (x4))]) (st' := [.int (x4), .int (x1), .ref (77), .int (((110 + (32 * x3)) + x4) - (M 81 x1.toNatClampNeg)), .ref (78)]) rfl rfl ?_
        cases hc6 : F_189 x1 x4 M with
        | none => rw [hc6] at h; cases h
        | some r6 =>
          obtain ⟨c6, M6⟩ := r6
          rw [hc6] at h
          dsimp only at h
          have hq6 := T_189 (X := X) (d := d) (by omega) (M := M) hc6
          refine Rc.callV tb_190 rfl rfl rfl mS_189 mP_189 mL_189 mO_189 rfl rfl ob_77 rfl rfl hq6 ?_
          by_cases hb7 : inb (((110 + (32 * x3)) + x4) - (M 81 x1.toNatClampNeg)) 366 = true
          · rw [if_pos hb7] at h
            refine Rc.iast tb_190 rfl rfl ia_78 hb7 ?_
            refine Rc.run tb_190 2 (pc' := 188) (ls' := [some (.ref (77)), some (.int (x1)), none, some (.int (x3)), some (.int (x4 + 1))]) (st' := []) rfl rfl ?_
            refine Rc.mask (b := 27) ((tb_190.2 188).trans rfl) (ls' := [some (.ref (77)), some (.int (x1)), none, some (.int (x3)), some (.int (x4 + 1))]) rfl ?_
            obtain rfl := Option.some.inj h
            exact hP _ rfl
          · rw [if_neg hb7] at h
            cases h
      · rw [if_neg hb8] at h
        cases h
  · rw [if_neg hb10] at h
    cases h
theorem TL_190_188 {X : AX} {d : Nat} (hd : 455 ≤ d) {x1 : Int32} {x3 : Int32} {x4 : Int32} {M : IM} {v : Option Value} {M' : IM} {r : Int32 × IM} (h : L_190_188 x1 x3 x4 M = some r) (hE : (fun (x4, M) => Rc X d 190 236 [some (.ref (77)), none, none, some (.int (x3)), none] [] M v M') r) : Rc X d 190 188 [some (.ref (77)), some (.int (x1)), none, some (.int (x3)), some (.int (x4))] [] M v M' := by
  exact loopN_rc (P := fun (x4, M) => Rc X d 190 188 [some (.ref (77)), some (.int (x1)), none, some (.int (x3)), some (.int (x4))] [] M v M') (E := fun (x4, M) => Rc X d 190 236 [some (.ref (77)), none, none, some (.int (x3)), none] [] M v M') (TB_190_188 (X := X) hd) FU _ r h hE
theorem TJ_190_236 {X : AX} {d : Nat} (hd : 455 ≤ d) {x3 : Int32} {M : IM} {v : Option Value} {M' : IM} {o : Int32 × IM} (h : J_190_236 x3 M = some o) (hC : v = some (.int o.1) ∧ M' = o.2) : Rc X d 190 236 [some (.ref (77)), none, none, some (.int (x3)), none] [] M v M' := by
  obtain ⟨d, rfl⟩ : ∃ e, d = e + 1 := ⟨d - 1, by omega⟩
  unfold J_190_236 at h
  refine Rc.run tb_190 1 (pc' := 237) (ls' := [some (.ref (77)), none, none, some (.int (x3)), none]) (st' := [.ref (77)]) rfl rfl ?_
  refine Rc.getR tb_190 rfl rfl ob_77 (by decide +kernel) tg_77_0 (by decide) ?_
  refine Rc.run tb_190 2 (pc' := 242) (ls' := [some (.ref (77)), none, none, some (.int (x3)), none]) (st' := [.int (0), .ref (78), .int (0), .ref (78)]) rfl rfl ?_
  refine Rc.iald tb_190 rfl rfl ia_78 (by decide) ?_
  refine Rc.run tb_190 2 (pc' := 245) (ls' := [some (.ref (77)), none, none, some (.int (x3)), none]) (st' := [.int ((M 78 (0 : Int32).toNatClampNeg) + 1), .int (0), .ref (78)]) rfl rfl ?_
  refine Rc.iast tb_190 rfl rfl ia_78 (by decide) ?_
  refine Rc.run tb_190 1 (pc' := 247) (ls' := [some (.ref (77)), none, none, some (.int (x3)), none]) (st' := [.int (x3)]) rfl rfl ?_
  obtain rfl := Option.some.inj h
  obtain ⟨rfl, rfl⟩ := hC
  exact Rc.iret (ins := .ireturn) tb_190 rfl mR_190
theorem TJ_190_160 {X : AX} {d : Nat} (hd : 455 ≤ d) {x1 : Int32} {x2 : Int32} {x3 : Int32} {M : IM} {v : Option Value} {M' : IM} {o : Int32 × IM} (h : J_190_160 x1 x2 x3 M = some o) (hC : v = some (.int o.1) ∧ M' = o.2) : Rc X d 190 160 [some (.ref (77)), some (.int (x1)), some (.int (x2)), some (.int (x3)), none] [] M v M' := by
  obtain ⟨d, rfl⟩ : ∃ e, d = e + 1 := ⟨d - 1, by omega⟩
  unfold J_190_160 at h
  refine Rc.run tb_190 1 (pc' := 161) (ls' := [some (.ref (77)), some (.int (x1)), some (.int (x2)), some (.int (x3)), none]) (st' := [.ref (77)]) rfl rfl ?_
  refine Rc.getR tb_190 rfl rfl ob_77 (by decide +kernel) tg_77_0 (by decide) ?_
  refine Rc.run tb_190 4 (pc' := 169) (ls' := [some (.ref (77)), some (.int (x1)), some (.int (x2)), some (.int (x3)), none]) (st' := [.int (x1), .int (22 + x3), .ref (78)]) rfl rfl ?_
  by_cases hb16 : inb (22 + x3) 366 = true
  · rw [if_pos hb16] at h
    refine Rc.iast tb_190 rfl rfl ia_78 hb16 ?_
    refine Rc.run tb_190 1 (pc' := 171) (ls' := [some (.ref (77)), some (.int (x1)), some (.int (x2)), some (.int (x3)), none]) (st' := [.ref (77)]) rfl rfl ?_
    refine Rc.getR tb_190 rfl rfl ob_77 (by decide +kernel) tg_77_0 (by decide) ?_
    refine Rc.run tb_190 4 (pc' := 179) (ls' := [some (.ref (77)), some (.int (x1)), some (.int (x2)), some (.int (x3)), none]) (st' := [.int (x2), .int (30 + x3), .ref (78)]) rfl rfl ?_
    by_cases hb15 : inb (30 + x3) 366 = true
    · rw [if_pos hb15] at h
      refine Rc.iast tb_190 rfl rfl ia_78 hb15 ?_
      refine Rc.run tb_190 1 (pc' := 181) (ls' := [some (.ref (77)), some (.int (x1)), some (.int (x2)), some (.int (x3)), none]) (st' := [.ref (77)]) rfl rfl ?_
      refine Rc.getR tb_190 rfl rfl ob_77 (by decide +kernel) tg_77_4 (by decide) ?_
      refine Rc.run tb_190 1 (pc' := 185) (ls' := [some (.ref (77)), some (.int (x1)), some (.int (x2)), some (.int (x3)), none]) (st' := [.int (x1), .ref (81)]) rfl rfl ?_
      by_cases hb14 : inb x1 7 = true
      · rw [if_pos hb14] at h
        refine Rc.iald tb_190 rfl rfl ia_81 hb14 ?_
        refine Rc.run tb_190 1 (pc' := 188) (ls' := [some (.ref (77)), some (.int (x1)), some (.int (x2)), some (.int (x3)), some (.int ((iset (iset M 78 (22 + x3).toNatClampNeg x1) 78 (30 + x3).toNatClampNeg x2) 81 x1.toNatClampNeg))]) (st' := []) rfl rfl ?_
        refine Rc.mask (b := 27) ((tb_190.2 188).trans rfl) (ls' := [some (.ref (77)), some (.int (x1)), none, some (.int (x3)), some (.int ((iset (iset M 78 (22 + x3).toNatClampNeg x1) 78 (30 + x3).toNatClampNeg x2) 81 x1.toNatClampNeg))]) rfl ?_
        cases hl11 : L_190_188 x1 x3 ((iset (iset M 78 (22 + x3).toNatClampNeg x1) 78 (30 + x3).toNatClampNeg x2) 81 x1.toNatClampNeg) (iset (iset M 78 (22 + x3).toNatClampNeg x1) 78 (30 + x3).toNatClampNeg x2) with
        | none => rw [hl11] at h; cases h
        | some r11 =>
          obtain ⟨x4_11, M11⟩ := r11
          rw [hl11] at h
          dsimp only at h
          refine TL_190_188 (X := X) (d := d + 1) (by omega) hl11 ?_
          refine Rc.mask (b := 9) ((tb_190.2 236).trans rfl) (ls' := [some (.ref (77)), none, none, some (.int (x3)), none]) rfl ?_
          exact TJ_190_236 (X := X) (d := d + 1) (by omega) h hC
      · rw [if_neg hb14] at h
        cases h
    · rw [if_neg hb15] at h
      cases h
  · rw [if_neg hb16] at h
    cases h
theorem TJ_190_135 {X : AX} {d : Nat} (hd : 455 ≤ d) {x1 : Int32} {x2 : Int32} {x3 : Int32} {s0 : Int32} {M : IM} (hs0 : s0 = 0 ∨ s0 = 1) {v : Option Value} {M' : IM} {o : Int32 × IM} (h : J_190_135 x1 x2 x3 s0 M = some o) (hC : v = some (.int o.1) ∧ M' = o.2) : Rc X d 190 135 [some (.ref (77)), some (.int (x1)), some (.int (x2)), some (.int (x3)), none] [.int (s0), .ref (77)] M v M' := by
  obtain ⟨d, rfl⟩ : ∃ e, d = e + 1 := ⟨d - 1, by omega⟩
  unfold J_190_135 at h
  refine Rc.putI tb_190 rfl rfl ob_77 (by decide +kernel) tg_77_12 (fokZ hs0) ?_
  refine Rc.run tb_190 1 (pc' := 139) (ls' := [some (.ref (77)), some (.int (x1)), some (.int (x2)), some (.int (x3)), none]) (st' := [.ref (77)]) rfl rfl ?_
  refine Rc.getR tb_190 rfl rfl ob_77 (by decide +kernel) tg_77_0 (by decide) ?_
  refine Rc.run tb_190 2 (pc' := 144) (ls' := [some (.ref (77)), some (.int (x1)), some (.int (x2)), some (.int (x3)), none]) (st' := [.int (0), .int (1), .ref (78)]) rfl rfl ?_
  refine Rc.iast tb_190 rfl rfl ia_78 (by decide) ?_
  refine Rc.run tb_190 1 (pc' := 146) (ls' := [some (.ref (77)), some (.int (x1)), some (.int (x2)), some (.int (x3)), none]) (st' := [.ref (77)]) rfl rfl ?_
  refine Rc.getI tb_190 rfl rfl ob_77 (by decide +kernel) tg_77_12 ?_
  refine Rc.if_eq (pc1 := 160) tb_190 rfl rfl (by decide) (by decide) (fun hb17 => ?_) (fun hb17 => ?_)
  · rw [if_pos hb17] at h
    refine Rc.mask (b := 15) ((tb_190.2 160).trans rfl) (ls' := [some (.ref (77)), some (.int (x1)), some (.int (x2)), some (.int (x3)), none]) rfl ?_
    exact TJ_190_160 (X := X) (d := d + 1) (by omega) h hC
  · rw [if_neg hb17] at h
    refine Rc.run tb_190 2 (pc' := 155) (ls' := [some (.ref (77)), some (.int (x1)), some (.int (x2)), some (.int (x3)), none]) (st' := [.ref (77), .int ((-10))]) rfl rfl ?_
    refine Rc.getI tb_190 rfl rfl ob_77 (by decide +kernel) tg_77_9 ?_
    refine Rc.run tb_190 1 (pc' := 159) (ls' := [some (.ref (77)), some (.int (x1)), some (.int (x2)), some (.int (x3)), none]) (st' := [.int ((-10) - ((iset (iset M 77 12 s0) 78 (1 : Int32).toNatClampNeg 0) 77 9))]) rfl rfl ?_
    obtain rfl := Option.some.inj h
    obtain ⟨rfl, rfl⟩ := hC
    exact Rc.iret (ins := .ireturn) tb_190 rfl mR_190
theorem TJ_190_130 {X : AX} {d : Nat} (hd : 455 ≤ d) {x1 : Int32} {x2 : Int32} {x3 : Int32} {M : IM} {v : Option Value} {M' : IM} {o : Int32 × IM} (h : J_190_130 x1 x2 x3 M = some o) (hC : v = some (.int o.1) ∧ M' = o.2) : Rc X d 190 130 [some (.ref (77)), some (.int (x1)), some (.int (x2)), some (.int (x3)), none] [.ref (77)] M v M' := by
  obtain ⟨d, rfl⟩ : ∃ e, d = e + 1 := ⟨d - 1, by omega⟩
  unfold J_190_130 at h
  refine Rc.run tb_190 2 (pc' := 135) (ls' := [some (.ref (77)), some (.int (x1)), some (.int (x2)), some (.int (x3)), none]) (st' := [.int (1), .ref (77)]) rfl rfl ?_
  refine Rc.mask (b := 15) ((tb_190.2 135).trans rfl) (ls' := [some (.ref (77)), some (.int (x1)), some (.int (x2)), some (.int (x3)), none]) rfl ?_
  exact TJ_190_135 (X := X) (d := d + 1) (by omega) (Or.inr rfl) h hC
theorem TJ_190_102 {X : AX} {d : Nat} (hd : 455 ≤ d) {x1 : Int32} {x2 : Int32} {x3 : Int32} {s0 : Int32} {M : IM} {v : Option Value} {M' : IM} {o : Int32 × IM} (h : J_190_102 x1 x2 x3 s0 M = some o) (hC : v = some (.int o.1) ∧ M' = o.2) : Rc X d 190 102 [some (.ref (77)), some (.int (x1)), some (.int (x2)), some (.int (x3)), none] [.int (s0), .ref (77)] M v M' := by
  obtain ⟨d, rfl⟩ : ∃ e, d = e + 1 := ⟨d - 1, by omega⟩
  unfold J_190_102 at h
  refine Rc.putI tb_190 rfl rfl ob_77 (by decide +kernel) tg_77_11 rfl ?_
  refine Rc.run tb_190 1 (pc' := 106) (ls' := [some (.ref (77)), some (.int (x1)), some (.int (x2)), some (.int (x3)), none]) (st' := [.ref (77)]) rfl rfl ?_
  cases hc5 : K_178 (iset M 77 11 s0) with
  | none => rw [hc5] at h; cases h
  | some M5 =>
    rw [hc5] at h
    dsimp only at h
    have hq5 := TK_178 (X := X) (d := d) (by omega) (M := iset M 77 11 s0) hc5
    refine Rc.callV tb_190 rfl rfl rfl mS_178 mP_178 mL_178 mO_178 rfl rfl ob_77 rfl rfl hq5 ?_
    refine Rc.run tb_190 2 (pc' := 111) (ls' := [some (.ref (77)), some (.int (x1)), some (.int (x2)), some (.int (x3)), none]) (st' := [.ref (77), .ref (77)]) rfl rfl ?_
    refine Rc.getI tb_190 rfl rfl ob_77 (by decide +kernel) tg_77_12 ?_
    refine Rc.if_ne (pc1 := 130) tb_190 rfl rfl (by decide) (by decide) (fun hb21 => ?_) (fun hb21 => ?_)
    · rw [if_pos hb21] at h
      refine Rc.run tb_190 1 (pc' := 118) (ls' := [some (.ref (77)), some (.int (x1)), some (.int (x2)), some (.int (x3)), none]) (st' := [.ref (77), .ref (77)]) rfl rfl ?_
      refine Rc.getI tb_190 rfl rfl ob_77 (by decide +kernel) tg_77_9 ?_
      refine Rc.run tb_190 1 (pc' := 122) (ls' := [some (.ref (77)), some (.int (x1)), some (.int (x2)), some (.int (x3)), none]) (st' := [.ref (77), .int (M5 77 9), .ref (77)]) rfl rfl ?_
      refine Rc.getR tb_190 rfl rfl ob_77 (by decide +kernel) tg_77_0 (by decide) ?_
      refine Rc.run tb_190 1 (pc' := 126) (ls' := [some (.ref (77)), some (.int (x1)), some (.int (x2)), some (.int (x3)), none]) (st' := [.int (1), .ref (78), .int (M5 77 9), .ref (77)]) rfl rfl ?_
      refine Rc.iald tb_190 rfl rfl ia_78 (by decide) ?_
      refine Rc.icmp_ge (pc1 := 134) tb_190 rfl rfl (by decide) (by decide) (fun hb19 => ?_) (fun hb19 => ?_)
      · rw [if_pos hb19] at h
        refine Rc.run tb_190 1 (pc' := 135) (ls' := [some (.ref (77)), some (.int (x1)), some (.int (x2)), some (.int (x3)), none]) (st' := [.int (0), .ref (77)]) rfl rfl ?_
        refine Rc.mask (b := 15) ((tb_190.2 135).trans rfl) (ls' := [some (.ref (77)), some (.int (x1)), some (.int (x2)), some (.int (x3)), none]) rfl ?_
        exact TJ_190_135 (X := X) (d := d + 1) (by omega) (Or.inl rfl) h hC
      · rw [if_neg hb19] at h
        refine Rc.mask (b := 15) ((tb_190.2 130).trans rfl) (ls' := [some (.ref (77)), some (.int (x1)), some (.int (x2)), some (.int (x3)), none]) rfl ?_
        exact TJ_190_130 (X := X) (d := d + 1) (by omega) h hC
    · rw [if_neg hb21] at h
      refine Rc.mask (b := 15) ((tb_190.2 130).trans rfl) (ls' := [some (.ref (77)), some (.int (x1)), some (.int (x2)), some (.int (x3)), none]) rfl ?_
      exact TJ_190_130 (X := X) (d := d + 1) (by omega) h hC
theorem TJ_190_60 {X : AX} {d : Nat} (hd : 455 ≤ d) {x1 : Int32} {x2 : Int32} {x3 : Int32} {M : IM} {v : Option Value} {M' : IM} {o : Int32 × IM} (h : J_190_60 x1 x2 x3 M = some o) (hC : v = some (.int o.1) ∧ M' = o.2) : Rc X d 190 60 [some (.ref (77)), some (.int (x1)), some (.int (x2)), some (.int (x3)), none] [] M v M' := by
  obtain ⟨d, rfl⟩ : ∃ e, d = e + 1 := ⟨d - 1, by omega⟩
  unfold J_190_60 at h
  refine Rc.run tb_190 2 (pc' := 62) (ls' := [some (.ref (77)), some (.int (x1)), some (.int (x2)), some (.int (x3)), none]) (st' := [.int (0), .ref (77)]) rfl rfl ?_
  refine Rc.putI tb_190 rfl rfl ob_77 (by decide +kernel) tg_77_9 rfl ?_
  refine Rc.run tb_190 2 (pc' := 67) (ls' := [some (.ref (77)), some (.int (x1)), some (.int (x2)), some (.int (x3)), none]) (st' := [.int (0), .ref (77)]) rfl rfl ?_
  refine Rc.putI tb_190 rfl rfl ob_77 (by decide +kernel) tg_77_10 rfl ?_
  refine Rc.run tb_190 2 (pc' := 72) (ls' := [some (.ref (77)), some (.int (x1)), some (.int (x2)), some (.int (x3)), none]) (st' := [.int (0), .ref (77)]) rfl rfl ?_
  refine Rc.putI tb_190 rfl rfl ob_77 (by decide +kernel) tg_77_12 (fokZ (Or.inl rfl)) ?_
  refine Rc.run tb_190 2 (pc' := 77) (ls' := [some (.ref (77)), some (.int (x1)), some (.int (x2)), some (.int (x3)), none]) (st' := [.int (0), .ref (77)]) rfl rfl ?_
  refine Rc.putI tb_190 rfl rfl ob_77 (by decide +kernel) tg_77_14 rfl ?_
  refine Rc.run tb_190 2 (pc' := 82) (ls' := [some (.ref (77)), some (.int (x1)), some (.int (x2)), some (.int (x3)), none]) (st' := [.int (x1), .ref (77)]) rfl rfl ?_
  refine Rc.if_ne (pc1 := 90) tb_190 rfl rfl (by decide) (by decide) (fun hb23 => ?_) (fun hb23 => ?_)
  · rw [if_pos hb23] at h
    refine Rc.run tb_190 2 (pc' := 102) (ls' := [some (.ref (77)), some (.int (x1)), some (.int (x2)), some (.int (x3)), none]) (st' := [.int (7), .ref (77)]) rfl rfl ?_
    refine Rc.mask (b := 15) ((tb_190.2 102).trans rfl) (ls' := [some (.ref (77)), some (.int (x1)), some (.int (x2)), some (.int (x3)), none]) rfl ?_
    exact TJ_190_102 (X := X) (d := d + 1) (by omega) h hC
  · rw [if_neg hb23] at h
    refine Rc.run tb_190 2 (pc' := 92) (ls' := [some (.ref (77)), some (.int (x1)), some (.int (x2)), some (.int (x3)), none]) (st' := [.int (4), .int (x1), .ref (77)]) rfl rfl ?_
    refine Rc.icmp_ne (pc1 := 100) tb_190 rfl rfl (by decide) (by decide) (fun hb22 => ?_) (fun hb22 => ?_)
    · rw [if_pos hb22] at h
      refine Rc.run tb_190 2 (pc' := 102) (ls' := [some (.ref (77)), some (.int (x1)), some (.int (x2)), some (.int (x3)), none]) (st' := [.int (9), .ref (77)]) rfl rfl ?_
      refine Rc.mask (b := 15) ((tb_190.2 102).trans rfl) (ls' := [some (.ref (77)), some (.int (x1)), some (.int (x2)), some (.int (x3)), none]) rfl ?_
      exact TJ_190_102 (X := X) (d := d + 1) (by omega) h hC
    · rw [if_neg hb22] at h
      refine Rc.run tb_190 1 (pc' := 102) (ls' := [some (.ref (77)), some (.int (x1)), some (.int (x2)), some (.int (x3)), none]) (st' := [.int (10), .ref (77)]) rfl rfl ?_
      refine Rc.mask (b := 15) ((tb_190.2 102).trans rfl) (ls' := [some (.ref (77)), some (.int (x1)), some (.int (x2)), some (.int (x3)), none]) rfl ?_
      exact TJ_190_102 (X := X) (d := d + 1) (by omega) h hC
theorem TF_190 {X : AX} {d : Nat} (hd : 455 ≤ d) {a1 : Int32} {a2 : Int32} {M : IM} {v : Option Value} {M' : IM} {o : Int32 × IM} (h : F_190 a1 a2 M = some o) (hC : v = some (.int o.1) ∧ M' = o.2) : Rc X d 190 0 [some (.ref (77)), some (.int (a1)), some (.int (a2)), none, none] [] M v M' := by
  obtain ⟨d, rfl⟩ : ∃ e, d = e + 1 := ⟨d - 1, by omega⟩
  unfold F_190 at h
  refine Rc.run tb_190 3 (pc' := 3) (ls' := [some (.ref (77)), some (.int (a1)), some (.int (a2)), none, none]) (st' := [.int (5), .int (0), .int (a1)]) rfl rfl ?_
  have hq1 := T_157 (X := X) (d := d) (by omega) a1 (0 : Int32) (5 : Int32) M
  have hz1 := Rc.bool mR_157 hq1
  refine Rc.callS tb_190 rfl rfl rfl mS_157 mP_157 mL_157 rfl rfl rfl hq1 ?_
  refine Rc.if_eq (pc1 := 19) tb_190 rfl rfl (by decide) (by decide) (fun hb30 => ?_) (fun hb30 => ?_)
  · rw [if_pos hb30] at h
    refine Rc.mask (b := 1) ((tb_190.2 19).trans rfl) (ls' := [some (.ref (77)), none, none, none, none]) rfl ?_
    exact TJ_190_19 (X := X) (d := d + 1) (by omega) h hC
  · rw [if_neg hb30] at h
    refine Rc.run tb_190 3 (pc' := 13) (ls' := [some (.ref (77)), some (.int (a1)), some (.int (a2)), none, none]) (st' := [.int (99), .int (0), .int (a2)]) rfl rfl ?_
    have hq3 := T_157 (X := X) (d := d) (by omega) a2 (0 : Int32) (99 : Int32) M
    have hz3 := Rc.bool mR_157 hq3
    refine Rc.callS tb_190 rfl rfl rfl mS_157 mP_157 mL_157 rfl rfl rfl hq3 ?_
    refine Rc.if_ne (pc1 := 26) tb_190 rfl rfl (by decide) (by decide) (fun hb29 => ?_) (fun hb29 => ?_)
    · rw [if_pos hb29] at h
      refine Rc.mask (b := 1) ((tb_190.2 19).trans rfl) (ls' := [some (.ref (77)), none, none, none, none]) rfl ?_
      exact TJ_190_19 (X := X) (d := d + 1) (by omega) h hC
    · rw [if_neg hb29] at h
      refine Rc.run tb_190 1 (pc' := 27) (ls' := [some (.ref (77)), some (.int (a1)), some (.int (a2)), none, none]) (st' := [.ref (77)]) rfl rfl ?_
      refine Rc.getR tb_190 rfl rfl ob_77 (by decide +kernel) tg_77_0 (by decide) ?_
      refine Rc.run tb_190 1 (pc' := 31) (ls' := [some (.ref (77)), some (.int (a1)), some (.int (a2)), none, none]) (st' := [.int (0), .ref (78)]) rfl rfl ?_
      refine Rc.iald tb_190 rfl rfl ia_78 (by decide) ?_
      refine Rc.run tb_190 3 (pc' := 36) (ls' := [some (.ref (77)), some (.int (a1)), some (.int (a2)), some (.int (M 78 (0 : Int32).toNatClampNeg)), none]) (st' := [.int (8), .int (M 78 (0 : Int32).toNatClampNeg)]) rfl rfl ?_
      refine Rc.icmp_ne (pc1 := 46) tb_190 rfl rfl (by decide) (by decide) (fun hb27 => ?_) (fun hb27 => ?_)
      · rw [if_pos hb27] at h
        refine Rc.run tb_190 2 (pc' := 42) (ls' := [some (.ref (77)), some (.int (a1)), some (.int (a2)), some (.int (M 78 (0 : Int32).toNatClampNeg)), none]) (st' := [.int ((-1000004)), .ref (77)]) rfl rfl ?_
        cases hc4 : F_156 ((-1000004) : Int32) M with
        | none => rw [hc4] at h; cases h
        | some r4 =>
          obtain ⟨c4, M4⟩ := r4
          rw [hc4] at h
          dsimp only at h
          have hq4 := T_156 (X := X) (d := d) (by omega) (M := M) hc4
          refine Rc.callV tb_190 rfl rfl rfl mS_156 mP_156 mL_156 mO_156 rfl rfl ob_77 rfl rfl hq4 ?_
          obtain rfl := Option.some.inj h
          obtain ⟨rfl, rfl⟩ := hC
          exact Rc.iret (ins := .ireturn) tb_190 rfl mR_190
      · rw [if_neg hb27] at h
        refine Rc.run tb_190 1 (pc' := 47) (ls' := [some (.ref (77)), some (.int (a1)), some (.int (a2)), some (.int (M 78 (0 : Int32).toNatClampNeg)), none]) (st' := [.int (a1)]) rfl rfl ?_
        refine Rc.if_eq (pc1 := 60) tb_190 rfl rfl (by decide) (by decide) (fun hb26 => ?_) (fun hb26 => ?_)
        · rw [if_pos hb26] at h
          refine Rc.mask (b := 15) ((tb_190.2 60).trans rfl) (ls' := [some (.ref (77)), some (.int (a1)), some (.int (a2)), some (.int (M 78 (0 : Int32).toNatClampNeg)), none]) rfl ?_
          exact TJ_190_60 (X := X) (d := d + 1) (by omega) h hC
        · rw [if_neg hb26] at h
          refine Rc.run tb_190 2 (pc' := 52) (ls' := [some (.ref (77)), some (.int (a1)), some (.int (a2)), some (.int (M 78 (0 : Int32).toNatClampNeg)), none]) (st' := [.int (1), .int (a1)]) rfl rfl ?_
          refine Rc.icmp_eq (pc1 := 60) tb_190 rfl rfl (by decide) (by decide) (fun hb25 => ?_) (fun hb25 => ?_)
          · rw [if_pos hb25] at h
            refine Rc.mask (b := 15) ((tb_190.2 60).trans rfl) (ls' := [some (.ref (77)), some (.int (a1)), some (.int (a2)), some (.int (M 78 (0 : Int32).toNatClampNeg)), none]) rfl ?_
            exact TJ_190_60 (X := X) (d := d + 1) (by omega) h hC
          · rw [if_neg hb25] at h
            refine Rc.run tb_190 2 (pc' := 57) (ls' := [some (.ref (77)), some (.int (a1)), some (.int (a2)), some (.int (M 78 (0 : Int32).toNatClampNeg)), none]) (st' := [.int (4), .int (a1)]) rfl rfl ?_
            refine Rc.icmp_ne (pc1 := 160) tb_190 rfl rfl (by decide) (by decide) (fun hb24 => ?_) (fun hb24 => ?_)
            · rw [if_pos hb24] at h
              refine Rc.mask (b := 15) ((tb_190.2 60).trans rfl) (ls' := [some (.ref (77)), some (.int (a1)), some (.int (a2)), some (.int (M 78 (0 : Int32).toNatClampNeg)), none]) rfl ?_
              exact TJ_190_60 (X := X) (d := d + 1) (by omega) h hC
            · rw [if_neg hb24] at h
              refine Rc.mask (b := 15) ((tb_190.2 160).trans rfl) (ls' := [some (.ref (77)), some (.int (a1)), some (.int (a2)), some (.int (M 78 (0 : Int32).toNatClampNeg)), none]) rfl ?_
              exact TJ_190_160 (X := X) (d := d + 1) (by omega) h hC
theorem T_190 {X : AX} {d : Nat} (hd : 455 ≤ d) {a1 : Int32} {a2 : Int32} {M : IM} {x : Int32} {M1 : IM} (h : F_190 a1 a2 M = some (x, M1)) : Rc X d 190 0 [some (.ref (77)), some (.int (a1)), some (.int (a2)), none, none] [] M (some (.int x)) M1 := TF_190 hd h ⟨rfl, rfl⟩
/-! 206: NineDemandsModel.seek -/
def J_206_62_27 (rk : Int32 → Int32 → IM → Option (Int32 × IM)) (x1 : Int32) (x2 : Int32) (x3 : Int32) (M : IM) : Option ((Int32 × IM) ⊕ ((Int32 × IM) ⊕ (Int32 × IM))) := some (Sum.inl (x3 + 1, M))
def B_206_27 (rk : Int32 → Int32 → IM → Option (Int32 × IM)) (x1 : Int32) (x2 : Int32) : (Int32 × IM) → Option ((Int32 × IM) ⊕ ((Int32 × IM) ⊕ (Int32 × IM))) := fun (x3, M) => if (3 : Int32) < x3 then (some (Sum.inr (Sum.inl (x3, M)))) else (match F_205 x1 x3 x2 M with | none => none | some c3 => (if c3 = 0 then (J_206_62_27 rk x1 x2 x3 M) else (if inb x1 12 = true then (match rk (x1 + 1) x2 (iset M 89 x1.toNatClampNeg x3) with | none => none | some (c4, M4) => (if c4 = 0 then (J_206_62_27 rk x1 x2 x3 M4) else (some (Sum.inr (Sum.inr (1, M4)))))) else none)))
def L_206_27 (rk : Int32 → Int32 → IM → Option (Int32 × IM)) (x1 : Int32) (x2 : Int32) (x3 : Int32) (M : IM) : Option ((Int32 × IM) ⊕ (Int32 × IM)) := loopN (B_206_27 rk x1 x2) FU (x3, M)
def F_206 (rk : Int32 → Int32 → IM → Option (Int32 × IM)) (a1 : Int32) (a2 : Int32) (M : IM) : Option (Int32 × IM) := if a1 = 12 then (some ((1, M))) else (if F_162 a2 a1 = 0 then (match rk (a1 + 1) a2 M with | none => none | some (c2, M2) => (some ((c2, M2)))) else (match L_206_27 rk a1 a2 1 M with | none => none | some (.inl (x3_9, M9)) => (some ((0, M9))) | some (.inr q) => some (q)))
theorem TJ_206_62_27 (Dk : Nat) (rk : Int32 → Int32 → IM → Option (Int32 × IM)) (Hk : ∀ {X : AX} {d : Nat}, Dk ≤ d → ∀ {a1 : Int32} {a2 : Int32} {M : IM} {x : Int32} {M1 : IM}, rk a1 a2 M = some (x, M1) → Rc X d 206 0 [some (.ref (77)), some (.int (a1)), some (.int (a2)), none] [] M (some (.int x)) M1) {X : AX} {d : Nat} (hd : Dk + 2 ≤ d) {x1 : Int32} {x2 : Int32} {x3 : Int32} {M : IM} {v : Option Value} {M' : IM} {o : (Int32 × IM) ⊕ ((Int32 × IM) ⊕ (Int32 × IM))} (h : J_206_62_27 rk x1 x2 x3 M = some o) (hP : ∀ s', o = .inl s' → (fun (x3, M) => Rc X d 206 27 [some (.ref (77)), some (.int (x1)), some (.int (x2)), some (.int (x3))] [] M v M') s') (hE : ∀ r, o = .inr r → (fun r => match r with | .inl (x3, M) => Rc X d 206 68 [none, none, none, none] [] M v M' | .inr q => v = some (.int q.1) ∧ M' = q.2) r) : Rc X d 206 62 [some (.ref (77)), some (.int (x1)), some (.int (x2)), some (.int (x3))] [] M v M' := by
  obtain ⟨d, rfl⟩ : ∃ e, d = e + 1 := ⟨d - 1, by omega⟩
  unfold J_206_62_27 at h
  dsimp only at hP hE
  refine Rc.run tb_206 2 (pc' := 27) (ls' := [some (.ref (77)), some (.int (x1)), some (.int (x2)), some (.int (x3 + 1))]) (st' := []) rfl rfl ?_
  refine Rc.mask (b := 15) ((tb_206.2 27).trans rfl) (ls' := [some (.ref (77)), some (.int (x1)), some (.int (x2)), some (.int (x3 + 1))]) rfl ?_
  obtain rfl := Option.some.inj h
  exact hP _ rfl
theorem TB_206_27 (Dk : Nat) (rk : Int32 → Int32 → IM → Option (Int32 × IM)) (Hk : ∀ {X : AX} {d : Nat}, Dk ≤ d → ∀ {a1 : Int32} {a2 : Int32} {M : IM} {x : Int32} {M1 : IM}, rk a1 a2 M = some (x, M1) → Rc X d 206 0 [some (.ref (77)), some (.int (a1)), some (.int (a2)), none] [] M (some (.int x)) M1) {X : AX} {d : Nat} (hd : Dk + 2 ≤ d) {x1 : Int32} {x2 : Int32} {v : Option Value} {M' : IM} : ∀ (s : Int32 × IM) (o : (Int32 × IM) ⊕ ((Int32 × IM) ⊕ (Int32 × IM))), B_206_27 rk x1 x2 s = some o → (∀ s', o = .inl s' → (fun (x3, M) => Rc X d 206 27 [some (.ref (77)), some (.int (x1)), some (.int (x2)), some (.int (x3))] [] M v M') s') → (∀ r, o = .inr r → (fun r => match r with | .inl (x3, M) => Rc X d 206 68 [none, none, none, none] [] M v M' | .inr q => v = some (.int q.1) ∧ M' = q.2) r) → (fun (x3, M) => Rc X d 206 27 [some (.ref (77)), some (.int (x1)), some (.int (x2)), some (.int (x3))] [] M v M') s := by
  rintro ⟨x3, M⟩ o h hP hE
  show Rc X d 206 27 [some (.ref (77)), some (.int (x1)), some (.int (x2)), some (.int (x3))] [] M v M'
  obtain ⟨d, rfl⟩ : ∃ e, d = e + 1 := ⟨d - 1, by omega⟩
  unfold B_206_27 at h
  dsimp only at h hP hE
  refine Rc.run tb_206 2 (pc' := 29) (ls' := [some (.ref (77)), some (.int (x1)), some (.int (x2)), some (.int (x3))]) (st' := [.int (3), .int (x3)]) rfl rfl ?_
  refine Rc.icmp_gt (pc1 := 68) tb_206 rfl rfl (by decide) (by decide) (fun hb8 => ?_) (fun hb8 => ?_)
  · rw [if_pos hb8] at h
    refine Rc.mask (b := 0) ((tb_206.2 68).trans rfl) (ls' := [none, none, none, none]) rfl ?_
    obtain rfl := Option.some.inj h
    exact hE _ rfl
  · rw [if_neg hb8] at h
    refine Rc.run tb_206 4 (pc' := 36) (ls' := [some (.ref (77)), some (.int (x1)), some (.int (x2)), some (.int (x3))]) (st' := [.int (x2), .int (x3), .int (x1), .ref (77)]) rfl rfl ?_
    cases hc3 : F_205 x1 x3 x2 M with
    | none => rw [hc3] at h; cases h
    | some c3 =>
      rw [hc3] at h
      dsimp only at h
      have hq3 := T_205 (X := X) (d := d) (by omega) (M := M) hc3
      have hz3 := Rc.bool mR_205 hq3
      refine Rc.callV tb_206 rfl rfl rfl mS_205 mP_205 mL_205 mO_205 rfl rfl ob_77 rfl rfl hq3 ?_
      refine Rc.if_eq (pc1 := 62) tb_206 rfl rfl (by decide) (by decide) (fun hb7 => ?_) (fun hb7 => ?_)
      · rw [if_pos hb7] at h
        refine Rc.mask (b := 15) ((tb_206.2 62).trans rfl) (ls' := [some (.ref (77)), some (.int (x1)), some (.int (x2)), some (.int (x3))]) rfl ?_
        exact TJ_206_62_27 Dk rk Hk (X := X) (d := d + 1) (by omega) h hP hE
      · rw [if_neg hb7] at h
        refine Rc.run tb_206 1 (pc' := 43) (ls' := [some (.ref (77)), some (.int (x1)), some (.int (x2)), some (.int (x3))]) (st' := [.ref (77)]) rfl rfl ?_
        refine Rc.getR tb_206 rfl rfl ob_77 (by decide +kernel) tg_77_21 (by decide) ?_
        refine Rc.run tb_206 2 (pc' := 48) (ls' := [some (.ref (77)), some (.int (x1)), some (.int (x2)), some (.int (x3))]) (st' := [.int (x3), .int (x1), .ref (89)]) rfl rfl ?_
        by_cases hb6 : inb x1 12 = true
        · rw [if_pos hb6] at h
          refine Rc.iast tb_206 rfl rfl ia_89 hb6 ?_
          refine Rc.run tb_206 5 (pc' := 54) (ls' := [some (.ref (77)), some (.int (x1)), some (.int (x2)), some (.int (x3))]) (st' := [.int (x2), .int (x1 + 1), .ref (77)]) rfl rfl ?_
          cases hc4 : rk (x1 + 1) x2 (iset M 89 x1.toNatClampNeg x3) with
          | none => rw [hc4] at h; cases h
          | some r4 =>
            obtain ⟨c4, M4⟩ := r4
            rw [hc4] at h
            dsimp only at h
            have hq4 := Hk (X := X) (d := d) (by omega) (M := iset M 89 x1.toNatClampNeg x3) hc4
            have hz4 := Rc.bool mR_206 hq4
            refine Rc.callV tb_206 rfl rfl rfl mS_206 mP_206 mL_206 mO_206 rfl rfl ob_77 rfl rfl hq4 ?_
            refine Rc.if_eq (pc1 := 62) tb_206 rfl rfl (by decide) (by decide) (fun hb5 => ?_) (fun hb5 => ?_)
            · rw [if_pos hb5] at h
              refine Rc.mask (b := 15) ((tb_206.2 62).trans rfl) (ls' := [some (.ref (77)), some (.int (x1)), some (.int (x2)), some (.int (x3))]) rfl ?_
              exact TJ_206_62_27 Dk rk Hk (X := X) (d := d + 1) (by omega) h hP hE
            · rw [if_neg hb5] at h
              refine Rc.run tb_206 1 (pc' := 61) (ls' := [some (.ref (77)), some (.int (x1)), some (.int (x2)), some (.int (x3))]) (st' := [.int (1)]) rfl rfl ?_
              obtain rfl := Option.some.inj h
              obtain ⟨rfl, rfl⟩ := hE _ rfl
              exact Rc.zret tb_206 rfl mR_206 (Or.inr rfl)
        · rw [if_neg hb6] at h
          cases h
theorem TL_206_27 (Dk : Nat) (rk : Int32 → Int32 → IM → Option (Int32 × IM)) (Hk : ∀ {X : AX} {d : Nat}, Dk ≤ d → ∀ {a1 : Int32} {a2 : Int32} {M : IM} {x : Int32} {M1 : IM}, rk a1 a2 M = some (x, M1) → Rc X d 206 0 [some (.ref (77)), some (.int (a1)), some (.int (a2)), none] [] M (some (.int x)) M1) {X : AX} {d : Nat} (hd : Dk + 2 ≤ d) {x1 : Int32} {x2 : Int32} {x3 : Int32} {M : IM} {v : Option Value} {M' : IM} {r : (Int32 × IM) ⊕ (Int32 × IM)} (h : L_206_27 rk x1 x2 x3 M = some r) (hE : (fun r => match r with | .inl (x3, M) => Rc X d 206 68 [none, none, none, none] [] M v M' | .inr q => v = some (.int q.1) ∧ M' = q.2) r) : Rc X d 206 27 [some (.ref (77)), some (.int (x1)), some (.int (x2)), some (.int (x3))] [] M v M' := by
  exact loopN_rc (P := fun (x3, M) => Rc X d 206 27 [some (.ref (77)), some (.int (x1)), some (.int (x2)), some (.int (x3))] [] M v M') (E := fun r => match r with | .inl (x3, M) => Rc X d 206 68 [none, none, none, none] [] M v M' | .inr q => v = some (.int q.1) ∧ M' = q.2) (TB_206_27 Dk rk Hk (X := X) hd) FU _ r h hE
theorem TF_206 (Dk : Nat) (rk : Int32 → Int32 → IM → Option (Int32 × IM)) (Hk : ∀ {X : AX} {d : Nat}, Dk ≤ d → ∀ {a1 : Int32} {a2 : Int32} {M : IM} {x : Int32} {M1 : IM}, rk a1 a2 M = some (x, M1) → Rc X d 206 0 [some (.ref (77)), some (.int (a1)), some (.int (a2)), none] [] M (some (.int x)) M1) {X : AX} {d : Nat} (hd : Dk + 2 ≤ d) {a1 : Int32} {a2 : Int32} {M : IM} {v : Option Value} {M' : IM} {o : Int32 × IM} (h : F_206 rk a1 a2 M = some o) (hC : v = some (.int o.1) ∧ M' = o.2) : Rc X d 206 0 [some (.ref (77)), some (.int (a1)), some (.int (a2)), none] [] M v M' := by
  obtain ⟨d, rfl⟩ : ∃ e, d = e + 1 := ⟨d - 1, by omega⟩
  unfold F_206 at h
  refine Rc.run tb_206 2 (pc' := 3) (ls' := [some (.ref (77)), some (.int (a1)), some (.int (a2)), none]) (st' := [.int (12), .int (a1)]) rfl rfl ?_
  refine Rc.icmp_ne (pc1 := 8) tb_206 rfl rfl (by decide) (by decide) (fun hb11 => ?_) (fun hb11 => ?_)
  · rw [if_pos hb11] at h
    refine Rc.run tb_206 1 (pc' := 7) (ls' := [some (.ref (77)), some (.int (a1)), some (.int (a2)), none]) (st' := [.int (1)]) rfl rfl ?_
    obtain rfl := Option.some.inj h
    obtain ⟨rfl, rfl⟩ := hC
    exact Rc.zret tb_206 rfl mR_206 (Or.inr rfl)
  · rw [if_neg hb11] at h
    refine Rc.run tb_206 2 (pc' := 10) (ls' := [some (.ref (77)), some (.int (a1)), some (.int (a2)), none]) (st' := [.int (a1), .int (a2)]) rfl rfl ?_
    have hq1 := T_162 (X := X) (d := d) (by omega) a2 a1 M
    have hz1 := Rc.bool mR_162 hq1
    refine Rc.callS tb_206 rfl rfl rfl mS_162 mP_162 mL_162 rfl rfl rfl hq1 ?_
    refine Rc.if_ne (pc1 := 25) tb_206 rfl rfl (by decide) (by decide) (fun hb10 => ?_) (fun hb10 => ?_)
    · rw [if_pos hb10] at h
      refine Rc.run tb_206 5 (pc' := 21) (ls' := [some (.ref (77)), some (.int (a1)), some (.int (a2)), none]) (st' := [.int (a2), .int (a1 + 1), .ref (77)]) rfl rfl ?_
      cases hc2 : rk (a1 + 1) a2 M with
      | none => rw [hc2] at h; cases h
      | some r2 =>
        obtain ⟨c2, M2⟩ := r2
        rw [hc2] at h
        dsimp only at h
        have hq2 := Hk (X := X) (d := d) (by omega) (M := M) hc2
        have hz2 := Rc.bool mR_206 hq2
        refine Rc.callV tb_206 rfl rfl rfl mS_206 mP_206 mL_206 mO_206 rfl rfl ob_77 rfl rfl hq2 ?_
        obtain rfl := Option.some.inj h
        obtain ⟨rfl, rfl⟩ := hC
        exact Rc.zret tb_206 rfl mR_206 hz2
    · rw [if_neg hb10] at h
      refine Rc.run tb_206 2 (pc' := 27) (ls' := [some (.ref (77)), some (.int (a1)), some (.int (a2)), some (.int (1))]) (st' := []) rfl rfl ?_
      refine Rc.mask (b := 15) ((tb_206.2 27).trans rfl) (ls' := [some (.ref (77)), some (.int (a1)), some (.int (a2)), some (.int (1))]) rfl ?_
      cases hl9 : L_206_27 rk a1 a2 1 M with
      | none => rw [hl9] at h; cases h
      | some rr9 =>
        rw [hl9] at h
        cases rr9 with
        | inl r9 =>
          obtain ⟨x3_9, M9⟩ := r9
          dsimp only at h
          refine TL_206_27 Dk rk Hk (X := X) (d := d + 1) (by omega) hl9 ?_
          refine Rc.run tb_206 1 (pc' := 69) (ls' := [none, none, none, none]) (st' := [.int (0)]) rfl rfl ?_
          obtain rfl := Option.some.inj h
          obtain ⟨rfl, rfl⟩ := hC
          exact Rc.zret tb_206 rfl mR_206 (Or.inl rfl)
        | inr q =>
          dsimp only at h
          refine TL_206_27 Dk rk Hk (X := X) (d := d + 1) (by omega) hl9 ?_
          obtain rfl := Option.some.inj h
          obtain ⟨rfl, rfl⟩ := hC
          exact ⟨rfl, rfl⟩
theorem T_206 (Dk : Nat) (rk : Int32 → Int32 → IM → Option (Int32 × IM)) (Hk : ∀ {X : AX} {d : Nat}, Dk ≤ d → ∀ {a1 : Int32} {a2 : Int32} {M : IM} {x : Int32} {M1 : IM}, rk a1 a2 M = some (x, M1) → Rc X d 206 0 [some (.ref (77)), some (.int (a1)), some (.int (a2)), none] [] M (some (.int x)) M1) {X : AX} {d : Nat} (hd : Dk + 2 ≤ d) {a1 : Int32} {a2 : Int32} {M : IM} {x : Int32} {M1 : IM} (h : F_206 rk a1 a2 M = some (x, M1)) : Rc X d 206 0 [some (.ref (77)), some (.int (a1)), some (.int (a2)), none] [] M (some (.int x)) M1 := TF_206 Dk rk Hk hd h ⟨rfl, rfl⟩
def KK_206 : Nat → Int32 → Int32 → IM → Option (Int32 × IM)
  | 0, _, _, _ => none
  | k + 1, a1, a2, M => F_206 (KK_206 k) a1 a2 M
theorem TKK_206 : ∀ (k : Nat), ∀ {X : AX} {d : Nat}, k * 2 ≤ d → ∀ {a1 : Int32} {a2 : Int32} {M : IM} {x : Int32} {M1 : IM}, KK_206 k a1 a2 M = some (x, M1) → Rc X d 206 0 [some (.ref (77)), some (.int (a1)), some (.int (a2)), none] [] M (some (.int x)) M1
  | 0 => by intros; rename_i h; cases h
  | k + 1 => by intro hd; intros; rename_i h; exact T_206 (k * 2) (KK_206 k) (@TKK_206 k) (by omega) h
def K_206 (a1 : Int32) (a2 : Int32) (M : IM) : Option (Int32 × IM) := KK_206 64 a1 a2 M
theorem TK_206 {X : AX} {d : Nat} (hd : 128 ≤ d)  {a1 : Int32} {a2 : Int32} {M : IM} {x : Int32} {M1 : IM} (h : K_206 a1 a2 M = some (x, M1)) : Rc X d 206 0 [some (.ref (77)), some (.int (a1)), some (.int (a2)), none] [] M (some (.int x)) M1 := TKK_206 64 (by omega) h
/-! 207: NineDemandsModel.fitsSome -/
def F_207 (a1 : Int32) (M : IM) : Option (Int32 × IM) := (match F_204 a1 M with | none => none | some M1 => (match K_206 (0 : Int32) (4095 : Int32) M1 with | none => none | some (c2, M2) => (some ((c2, M2)))))
theorem TF_207 {X : AX} {d : Nat} (hd : 129 ≤ d) {a1 : Int32} {M : IM} {v : Option Value} {M' : IM} {o : Int32 × IM} (h : F_207 a1 M = some o) (hC : v = some (.int o.1) ∧ M' = o.2) : Rc X d 207 0 [some (.ref (77)), some (.int (a1))] [] M v M' := by
  obtain ⟨d, rfl⟩ : ∃ e, d = e + 1 := ⟨d - 1, by omega⟩
  unfold F_207 at h
  refine Rc.run tb_207 2 (pc' := 2) (ls' := [some (.ref (77)), some (.int (a1))]) (st' := [.int (a1), .ref (77)]) rfl rfl ?_
  cases hc1 : F_204 a1 M with
  | none => rw [hc1] at h; cases h
  | some M1 =>
    rw [hc1] at h
    dsimp only at h
    have hq1 := T_204 (X := X) (d := d) (by omega) (M := M) hc1
    refine Rc.callV tb_207 rfl rfl rfl mS_204 mP_204 mL_204 mO_204 rfl rfl ob_77 rfl rfl hq1 ?_
    refine Rc.run tb_207 3 (pc' := 10) (ls' := [some (.ref (77)), some (.int (a1))]) (st' := [.int (4095), .int (0), .ref (77)]) rfl rfl ?_
    cases hc2 : K_206 (0 : Int32) (4095 : Int32) M1 with
    | none => rw [hc2] at h; cases h
    | some r2 =>
      obtain ⟨c2, M2⟩ := r2
      rw [hc2] at h
      dsimp only at h
      have hq2 := TK_206 (X := X) (d := d) (by omega) (M := M1) hc2
      have hz2 := Rc.bool mR_206 hq2
      refine Rc.callV tb_207 rfl rfl rfl mS_206 mP_206 mL_206 mO_206 rfl rfl ob_77 rfl rfl hq2 ?_
      obtain rfl := Option.some.inj h
      obtain ⟨rfl, rfl⟩ := hC
      exact Rc.zret tb_207 rfl mR_207 hz2
theorem T_207 {X : AX} {d : Nat} (hd : 129 ≤ d) {a1 : Int32} {M : IM} {x : Int32} {M1 : IM} (h : F_207 a1 M = some (x, M1)) : Rc X d 207 0 [some (.ref (77)), some (.int (a1))] [] M (some (.int x)) M1 := TF_207 hd h ⟨rfl, rfl⟩
/-! 208: NineDemandsModel.find -/
def J_208_15 (M : IM) : Option (Int32 × IM) := (match F_156 ((-1000001) : Int32) M with | none => none | some (c2, M2) => (some ((c2, M2))))
def F_208 (a1 : Int32) (a2 : Int32) (M : IM) : Option (Int32 × IM) := if F_161 a1 M = 0 then (J_208_15 M) else (if F_158 a2 = 0 then (J_208_15 M) else (match F_207 a1 M with | none => none | some (c4, M4) => (if c4 = 0 then (match F_156 ((-1000002) : Int32) M4 with | none => none | some (c5, M5) => (some ((c5, M5)))) else (if inb a2 12 = true then (some ((M4 89 a2.toNatClampNeg, M4))) else none))))
theorem TJ_208_15 {X : AX} {d : Nat} (hd : 130 ≤ d) {M : IM} {v : Option Value} {M' : IM} {o : Int32 × IM} (h : J_208_15 M = some o) (hC : v = some (.int o.1) ∧ M' = o.2) : Rc X d 208 15 [some (.ref (77)), none, none] [] M v M' := by
  obtain ⟨d, rfl⟩ : ∃ e, d = e + 1 := ⟨d - 1, by omega⟩
  unfold J_208_15 at h
  refine Rc.run tb_208 2 (pc' := 18) (ls' := [some (.ref (77)), none, none]) (st' := [.int ((-1000001)), .ref (77)]) rfl rfl ?_
  cases hc2 : F_156 ((-1000001) : Int32) M with
  | none => rw [hc2] at h; cases h
  | some r2 =>
    obtain ⟨c2, M2⟩ := r2
    rw [hc2] at h
    dsimp only at h
    have hq2 := T_156 (X := X) (d := d) (by omega) (M := M) hc2
    refine Rc.callV tb_208 rfl rfl rfl mS_156 mP_156 mL_156 mO_156 rfl rfl ob_77 rfl rfl hq2 ?_
    obtain rfl := Option.some.inj h
    obtain ⟨rfl, rfl⟩ := hC
    exact Rc.iret (ins := .ireturn) tb_208 rfl mR_208
theorem TF_208 {X : AX} {d : Nat} (hd : 130 ≤ d) {a1 : Int32} {a2 : Int32} {M : IM} {v : Option Value} {M' : IM} {o : Int32 × IM} (h : F_208 a1 a2 M = some o) (hC : v = some (.int o.1) ∧ M' = o.2) : Rc X d 208 0 [some (.ref (77)), some (.int (a1)), some (.int (a2))] [] M v M' := by
  obtain ⟨d, rfl⟩ : ∃ e, d = e + 1 := ⟨d - 1, by omega⟩
  unfold F_208 at h
  refine Rc.run tb_208 2 (pc' := 2) (ls' := [some (.ref (77)), some (.int (a1)), some (.int (a2))]) (st' := [.int (a1), .ref (77)]) rfl rfl ?_
  have hq1 := T_161 (X := X) (d := d) (by omega) a1 M
  have hz1 := Rc.bool mR_161 hq1
  refine Rc.callV tb_208 rfl rfl rfl mS_161 mP_161 mL_161 mO_161 rfl rfl ob_77 rfl rfl hq1 ?_
  refine Rc.if_eq (pc1 := 15) tb_208 rfl rfl (by decide) (by decide) (fun hb9 => ?_) (fun hb9 => ?_)
  · rw [if_pos hb9] at h
    refine Rc.mask (b := 1) ((tb_208.2 15).trans rfl) (ls' := [some (.ref (77)), none, none]) rfl ?_
    exact TJ_208_15 (X := X) (d := d + 1) (by omega) h hC
  · rw [if_neg hb9] at h
    refine Rc.run tb_208 1 (pc' := 9) (ls' := [some (.ref (77)), some (.int (a1)), some (.int (a2))]) (st' := [.int (a2)]) rfl rfl ?_
    have hq3 := T_158 (X := X) (d := d) (by omega) a2 M
    have hz3 := Rc.bool mR_158 hq3
    refine Rc.callS tb_208 rfl rfl rfl mS_158 mP_158 mL_158 rfl rfl rfl hq3 ?_
    refine Rc.if_ne (pc1 := 22) tb_208 rfl rfl (by decide) (by decide) (fun hb8 => ?_) (fun hb8 => ?_)
    · rw [if_pos hb8] at h
      refine Rc.mask (b := 1) ((tb_208.2 15).trans rfl) (ls' := [some (.ref (77)), none, none]) rfl ?_
      exact TJ_208_15 (X := X) (d := d + 1) (by omega) h hC
    · rw [if_neg hb8] at h
      refine Rc.run tb_208 2 (pc' := 24) (ls' := [some (.ref (77)), some (.int (a1)), some (.int (a2))]) (st' := [.int (a1), .ref (77)]) rfl rfl ?_
      cases hc4 : F_207 a1 M with
      | none => rw [hc4] at h; cases h
      | some r4 =>
        obtain ⟨c4, M4⟩ := r4
        rw [hc4] at h
        dsimp only at h
        have hq4 := T_207 (X := X) (d := d) (by omega) (M := M) hc4
        have hz4 := Rc.bool mR_207 hq4
        refine Rc.callV tb_208 rfl rfl rfl mS_207 mP_207 mL_207 mO_207 rfl rfl ob_77 rfl rfl hq4 ?_
        refine Rc.if_eq (pc1 := 39) tb_208 rfl rfl (by decide) (by decide) (fun hb7 => ?_) (fun hb7 => ?_)
        · rw [if_pos hb7] at h
          refine Rc.run tb_208 2 (pc' := 42) (ls' := [some (.ref (77)), some (.int (a1)), some (.int (a2))]) (st' := [.int ((-1000002)), .ref (77)]) rfl rfl ?_
          cases hc5 : F_156 ((-1000002) : Int32) M4 with
          | none => rw [hc5] at h; cases h
          | some r5 =>
            obtain ⟨c5, M5⟩ := r5
            rw [hc5] at h
            dsimp only at h
            have hq5 := T_156 (X := X) (d := d) (by omega) (M := M4) hc5
            refine Rc.callV tb_208 rfl rfl rfl mS_156 mP_156 mL_156 mO_156 rfl rfl ob_77 rfl rfl hq5 ?_
            obtain rfl := Option.some.inj h
            obtain ⟨rfl, rfl⟩ := hC
            exact Rc.iret (ins := .ireturn) tb_208 rfl mR_208
        · rw [if_neg hb7] at h
          refine Rc.run tb_208 1 (pc' := 31) (ls' := [some (.ref (77)), some (.int (a1)), some (.int (a2))]) (st' := [.ref (77)]) rfl rfl ?_
          refine Rc.getR tb_208 rfl rfl ob_77 (by decide +kernel) tg_77_21 (by decide) ?_
          refine Rc.run tb_208 1 (pc' := 35) (ls' := [some (.ref (77)), some (.int (a1)), some (.int (a2))]) (st' := [.int (a2), .ref (89)]) rfl rfl ?_
          by_cases hb6 : inb a2 12 = true
          · rw [if_pos hb6] at h
            refine Rc.iald tb_208 rfl rfl ia_89 hb6 ?_
            refine Rc.run tb_208 1 (pc' := 45) (ls' := [some (.ref (77)), some (.int (a1)), some (.int (a2))]) (st' := [.int (M4 89 a2.toNatClampNeg)]) rfl rfl ?_
            obtain rfl := Option.some.inj h
            obtain ⟨rfl, rfl⟩ := hC
            exact Rc.iret (ins := .ireturn) tb_208 rfl mR_208
          · rw [if_neg hb6] at h
            cases h
theorem T_208 {X : AX} {d : Nat} (hd : 130 ≤ d) {a1 : Int32} {a2 : Int32} {M : IM} {x : Int32} {M1 : IM} (h : F_208 a1 a2 M = some (x, M1)) : Rc X d 208 0 [some (.ref (77)), some (.int (a1)), some (.int (a2))] [] M (some (.int x)) M1 := TF_208 hd h ⟨rfl, rfl⟩
/-! 209: NineDemandsModel.write -/
def J_209_71_34 (x3 : Int32) (s0 : Int32) (s1 : Int32) (M : IM) : Option ((Int32 × Int32 × IM) ⊕ (Int32 × Int32 × IM)) := some (Sum.inl (s1 + s0, x3 + 1, M))
def B_209_34 : (Int32 × Int32 × IM) → Option ((Int32 × Int32 × IM) ⊕ (Int32 × Int32 × IM)) := fun (x2, x3, M) => if (12 : Int32) ≤ x3 then (some (Sum.inr (x2, x3, M))) else (if inb x3 12 = true then (if inb (10 + x3) 366 = true then (if inb x3 12 = true then (if (iset M 78 (10 + x3).toNatClampNeg (M 89 x3.toNatClampNeg)) 89 x3.toNatClampNeg = 3 then (J_209_71_34 x3 (1 : Int32) x2 (iset M 78 (10 + x3).toNatClampNeg (M 89 x3.toNatClampNeg))) else (J_209_71_34 x3 (0 : Int32) x2 (iset M 78 (10 + x3).toNatClampNeg (M 89 x3.toNatClampNeg)))) else none) else none) else none)
def L_209_34 (x2 : Int32) (x3 : Int32) (M : IM) : Option (Int32 × Int32 × IM) := loopN (B_209_34) FU (x2, x3, M)
def F_209 (a1 : Int32) (M : IM) : Option (Int32 × IM) := if F_161 a1 M = 0 then (match F_156 ((-1000001) : Int32) M with | none => none | some (c2, M2) => (some ((c2, M2)))) else (match F_207 a1 M with | none => none | some (c3, M3) => (if c3 = 0 then (match F_156 ((-1000002) : Int32) M3 with | none => none | some (c4, M4) => (some ((c4, M4)))) else (match L_209_34 0 0 M3 with | none => none | some (x2_10, x3_10, M10) => (some ((x2_10, M10))))))
theorem TJ_209_71_34 {X : AX} {d : Nat} (hd : 130 ≤ d) {x3 : Int32} {s0 : Int32} {s1 : Int32} {M : IM} (hs0 : s0 = 0 ∨ s0 = 1) {v : Option Value} {M' : IM} {o : (Int32 × Int32 × IM) ⊕ (Int32 × Int32 × IM)} (h : J_209_71_34 x3 s0 s1 M = some o) (hP : ∀ s', o = .inl s' → (fun (x2, x3, M) => Rc X d 209 34 [some (.ref (77)), none, some (.int (x2)), some (.int (x3))] [] M v M') s') (hE : ∀ r, o = .inr r → (fun (x2, x3, M) => Rc X d 209 79 [none, none, some (.int (x2)), none] [] M v M') r) : Rc X d 209 71 [some (.ref (77)), none, none, some (.int (x3))] [.int (s0), .int (s1)] M v M' := by
  obtain ⟨d, rfl⟩ : ∃ e, d = e + 1 := ⟨d - 1, by omega⟩
  unfold J_209_71_34 at h
  dsimp only at hP hE
  refine Rc.run tb_209 4 (pc' := 34) (ls' := [some (.ref (77)), none, some (.int (s1 + s0)), some (.int (x3 + 1))]) (st' := []) rfl rfl ?_
  refine Rc.mask (b := 13) ((tb_209.2 34).trans rfl) (ls' := [some (.ref (77)), none, some (.int (s1 + s0)), some (.int (x3 + 1))]) rfl ?_
  obtain rfl := Option.some.inj h
  exact hP _ rfl
theorem TB_209_34 {X : AX} {d : Nat} (hd : 130 ≤ d) {v : Option Value} {M' : IM} : ∀ (s : Int32 × Int32 × IM) (o : (Int32 × Int32 × IM) ⊕ (Int32 × Int32 × IM)), B_209_34 s = some o → (∀ s', o = .inl s' → (fun (x2, x3, M) => Rc X d 209 34 [some (.ref (77)), none, some (.int (x2)), some (.int (x3))] [] M v M') s') → (∀ r, o = .inr r → (fun (x2, x3, M) => Rc X d 209 79 [none, none, some (.int (x2)), none] [] M v M') r) → (fun (x2, x3, M) => Rc X d 209 34 [some (.ref (77)), none, some (.int (x2)), some (.int (x3))] [] M v M') s := by
  rintro ⟨x2, x3, M⟩ o h hP hE
  show Rc X d 209 34 [some (.ref (77)), none, some (.int (x2)), some (.int (x3))] [] M v M'
  obtain ⟨d, rfl⟩ : ∃ e, d = e + 1 := ⟨d - 1, by omega⟩
  unfold B_209_34 at h
  dsimp only at h hP hE
  refine Rc.run tb_209 2 (pc' := 37) (ls' := [some (.ref (77)), none, some (.int (x2)), some (.int (x3))]) (st' := [.int (12), .int (x3)]) rfl rfl ?_
  refine Rc.icmp_ge (pc1 := 79) tb_209 rfl rfl (by decide) (by decide) (fun hb9 => ?_) (fun hb9 => ?_)
  · rw [if_pos hb9] at h
    refine Rc.mask (b := 4) ((tb_209.2 79).trans rfl) (ls' := [none, none, some (.int (x2)), none]) rfl ?_
    obtain rfl := Option.some.inj h
    exact hE _ rfl
  · rw [if_neg hb9] at h
    refine Rc.run tb_209 1 (pc' := 41) (ls' := [some (.ref (77)), none, some (.int (x2)), some (.int (x3))]) (st' := [.ref (77)]) rfl rfl ?_
    refine Rc.getR tb_209 rfl rfl ob_77 (by decide +kernel) tg_77_0 (by decide) ?_
    refine Rc.run tb_209 4 (pc' := 49) (ls' := [some (.ref (77)), none, some (.int (x2)), some (.int (x3))]) (st' := [.ref (77), .int (10 + x3), .ref (78)]) rfl rfl ?_
    refine Rc.getR tb_209 rfl rfl ob_77 (by decide +kernel) tg_77_21 (by decide) ?_
    refine Rc.run tb_209 1 (pc' := 53) (ls' := [some (.ref (77)), none, some (.int (x2)), some (.int (x3))]) (st' := [.int (x3), .ref (89), .int (10 + x3), .ref (78)]) rfl rfl ?_
    by_cases hb8 : inb x3 12 = true
    · rw [if_pos hb8] at h
      refine Rc.iald tb_209 rfl rfl ia_89 hb8 ?_
      by_cases hb7 : inb (10 + x3) 366 = true
      · rw [if_pos hb7] at h
        refine Rc.iast tb_209 rfl rfl ia_78 hb7 ?_
        refine Rc.run tb_209 2 (pc' := 57) (ls' := [some (.ref (77)), none, some (.int (x2)), some (.int (x3))]) (st' := [.ref (77), .int (x2)]) rfl rfl ?_
        refine Rc.getR tb_209 rfl rfl ob_77 (by decide +kernel) tg_77_21 (by decide) ?_
        refine Rc.run tb_209 1 (pc' := 61) (ls' := [some (.ref (77)), none, some (.int (x2)), some (.int (x3))]) (st' := [.int (x3), .ref (89), .int (x2)]) rfl rfl ?_
        by_cases hb6 : inb x3 12 = true
        · rw [if_pos hb6] at h
          refine Rc.iald tb_209 rfl rfl ia_89 hb6 ?_
          refine Rc.run tb_209 1 (pc' := 63) (ls' := [some (.ref (77)), none, some (.int (x2)), some (.int (x3))]) (st' := [.int (3), .int ((iset M 78 (10 + x3).toNatClampNeg (M 89 x3.toNatClampNeg)) 89 x3.toNatClampNeg), .int (x2)]) rfl rfl ?_
          refine Rc.icmp_ne (pc1 := 70) tb_209 rfl rfl (by decide) (by decide) (fun hb5 => ?_) (fun hb5 => ?_)
          · rw [if_pos hb5] at h
            refine Rc.run tb_209 2 (pc' := 71) (ls' := [some (.ref (77)), none, some (.int (x2)), some (.int (x3))]) (st' := [.int (1), .int (x2)]) rfl rfl ?_
            refine Rc.mask (b := 9) ((tb_209.2 71).trans rfl) (ls' := [some (.ref (77)), none, none, some (.int (x3))]) rfl ?_
            exact TJ_209_71_34 (X := X) (d := d + 1) (by omega) (Or.inr rfl) h hP hE
          · rw [if_neg hb5] at h
            refine Rc.run tb_209 1 (pc' := 71) (ls' := [some (.ref (77)), none, some (.int (x2)), some (.int (x3))]) (st' := [.int (0), .int (x2)]) rfl rfl ?_
            refine Rc.mask (b := 9) ((tb_209.2 71).trans rfl) (ls' := [some (.ref (77)), none, none, some (.int (x3))]) rfl ?_
            exact TJ_209_71_34 (X := X) (d := d + 1) (by omega) (Or.inl rfl) h hP hE
        · rw [if_neg hb6] at h
          cases h
      · rw [if_neg hb7] at h
        cases h
    · rw [if_neg hb8] at h
      cases h
theorem TL_209_34 {X : AX} {d : Nat} (hd : 130 ≤ d) {x2 : Int32} {x3 : Int32} {M : IM} {v : Option Value} {M' : IM} {r : Int32 × Int32 × IM} (h : L_209_34 x2 x3 M = some r) (hE : (fun (x2, x3, M) => Rc X d 209 79 [none, none, some (.int (x2)), none] [] M v M') r) : Rc X d 209 34 [some (.ref (77)), none, some (.int (x2)), some (.int (x3))] [] M v M' := by
  exact loopN_rc (P := fun (x2, x3, M) => Rc X d 209 34 [some (.ref (77)), none, some (.int (x2)), some (.int (x3))] [] M v M') (E := fun (x2, x3, M) => Rc X d 209 79 [none, none, some (.int (x2)), none] [] M v M') (TB_209_34 (X := X) hd) FU _ r h hE
theorem TF_209 {X : AX} {d : Nat} (hd : 130 ≤ d) {a1 : Int32} {M : IM} {v : Option Value} {M' : IM} {o : Int32 × IM} (h : F_209 a1 M = some o) (hC : v = some (.int o.1) ∧ M' = o.2) : Rc X d 209 0 [some (.ref (77)), some (.int (a1)), none, none] [] M v M' := by
  obtain ⟨d, rfl⟩ : ∃ e, d = e + 1 := ⟨d - 1, by omega⟩
  unfold F_209 at h
  refine Rc.run tb_209 2 (pc' := 2) (ls' := [some (.ref (77)), some (.int (a1)), none, none]) (st' := [.int (a1), .ref (77)]) rfl rfl ?_
  have hq1 := T_161 (X := X) (d := d) (by omega) a1 M
  have hz1 := Rc.bool mR_161 hq1
  refine Rc.callV tb_209 rfl rfl rfl mS_161 mP_161 mL_161 mO_161 rfl rfl ob_77 rfl rfl hq1 ?_
  refine Rc.if_ne (pc1 := 15) tb_209 rfl rfl (by decide) (by decide) (fun hb12 => ?_) (fun hb12 => ?_)
  · rw [if_pos hb12] at h
    refine Rc.run tb_209 2 (pc' := 11) (ls' := [some (.ref (77)), some (.int (a1)), none, none]) (st' := [.int ((-1000001)), .ref (77)]) rfl rfl ?_
    cases hc2 : F_156 ((-1000001) : Int32) M with
    | none => rw [hc2] at h; cases h
    | some r2 =>
      obtain ⟨c2, M2⟩ := r2
      rw [hc2] at h
      dsimp only at h
      have hq2 := T_156 (X := X) (d := d) (by omega) (M := M) hc2
      refine Rc.callV tb_209 rfl rfl rfl mS_156 mP_156 mL_156 mO_156 rfl rfl ob_77 rfl rfl hq2 ?_
      obtain rfl := Option.some.inj h
      obtain ⟨rfl, rfl⟩ := hC
      exact Rc.iret (ins := .ireturn) tb_209 rfl mR_209
  · rw [if_neg hb12] at h
    refine Rc.run tb_209 2 (pc' := 17) (ls' := [some (.ref (77)), some (.int (a1)), none, none]) (st' := [.int (a1), .ref (77)]) rfl rfl ?_
    cases hc3 : F_207 a1 M with
    | none => rw [hc3] at h; cases h
    | some r3 =>
      obtain ⟨c3, M3⟩ := r3
      rw [hc3] at h
      dsimp only at h
      have hq3 := T_207 (X := X) (d := d) (by omega) (M := M) hc3
      have hz3 := Rc.bool mR_207 hq3
      refine Rc.callV tb_209 rfl rfl rfl mS_207 mP_207 mL_207 mO_207 rfl rfl ob_77 rfl rfl hq3 ?_
      refine Rc.if_ne (pc1 := 30) tb_209 rfl rfl (by decide) (by decide) (fun hb11 => ?_) (fun hb11 => ?_)
      · rw [if_pos hb11] at h
        refine Rc.run tb_209 2 (pc' := 26) (ls' := [some (.ref (77)), some (.int (a1)), none, none]) (st' := [.int ((-1000002)), .ref (77)]) rfl rfl ?_
        cases hc4 : F_156 ((-1000002) : Int32) M3 with
        | none => rw [hc4] at h; cases h
        | some r4 =>
          obtain ⟨c4, M4⟩ := r4
          rw [hc4] at h
          dsimp only at h
          have hq4 := T_156 (X := X) (d := d) (by omega) (M := M3) hc4
          refine Rc.callV tb_209 rfl rfl rfl mS_156 mP_156 mL_156 mO_156 rfl rfl ob_77 rfl rfl hq4 ?_
          obtain rfl := Option.some.inj h
          obtain ⟨rfl, rfl⟩ := hC
          exact Rc.iret (ins := .ireturn) tb_209 rfl mR_209
      · rw [if_neg hb11] at h
        refine Rc.run tb_209 4 (pc' := 34) (ls' := [some (.ref (77)), some (.int (a1)), some (.int (0)), some (.int (0))]) (st' := []) rfl rfl ?_
        refine Rc.mask (b := 13) ((tb_209.2 34).trans rfl) (ls' := [some (.ref (77)), none, some (.int (0)), some (.int (0))]) rfl ?_
        cases hl10 : L_209_34 0 0 M3 with
        | none => rw [hl10] at h; cases h
        | some r10 =>
          obtain ⟨x2_10, x3_10, M10⟩ := r10
          rw [hl10] at h
          dsimp only at h
          refine TL_209_34 (X := X) (d := d + 1) (by omega) hl10 ?_
          refine Rc.run tb_209 1 (pc' := 80) (ls' := [none, none, some (.int (x2_10)), none]) (st' := [.int (x2_10)]) rfl rfl ?_
          obtain rfl := Option.some.inj h
          obtain ⟨rfl, rfl⟩ := hC
          exact Rc.iret (ins := .ireturn) tb_209 rfl mR_209
theorem T_209 {X : AX} {d : Nat} (hd : 130 ≤ d) {a1 : Int32} {M : IM} {x : Int32} {M1 : IM} (h : F_209 a1 M = some (x, M1)) : Rc X d 209 0 [some (.ref (77)), some (.int (a1)), none, none] [] M (some (.int x)) M1 := TF_209 hd h ⟨rfl, rfl⟩
/-! 211: NineDemandsModel.countFrom -/
def B_211_30 (rk : Int32 → IM → Option (Int64 × IM)) (x2 : Int32) (x3 : Int32) (x4 : Int32) (M : IM) : (Int32 × Int32) → Option ((Int32 × Int32) ⊕ (Int32 × Int32)) := fun (x5, x6) => if (12 : Int32) ≤ x6 then (some (Sum.inr (x5, x6))) else (if x5 = 0 then (some (Sum.inr (x5, x6))) else (if inb ((12 * x3) + x6) 144 = true then (if inb x6 12 = true then (some (Sum.inl (F_162 (M 88 ((12 * x3) + x6).toNatClampNeg) (((3 * x4) + (M 89 x6.toNatClampNeg)) - 4), x6 + 1))) else none) else none))
def L_211_30 (rk : Int32 → IM → Option (Int64 × IM)) (x2 : Int32) (x3 : Int32) (x4 : Int32) (M : IM) (x5 : Int32) (x6 : Int32) : Option (Int32 × Int32) := loopN (B_211_30 rk x2 x3 x4 M) FU (x5, x6)
def J_211_99_18 (rk : Int32 → IM → Option (Int64 × IM)) (x3 : Int32) (x4 : Int32) (s0 : Int32) (s1 : Int32) (M : IM) : Option ((Int32 × Int32) ⊕ (Int32 × Int32)) := some (Sum.inl (s1 ||| s0, x4 + 1))
def J_211_79_18 (rk : Int32 → IM → Option (Int64 × IM)) (x2 : Int32) (x3 : Int32) (x4 : Int32) (x5 : Int32) (M : IM) : Option ((Int32 × Int32) ⊕ (Int32 × Int32)) := if x5 = 0 then (J_211_99_18 rk x3 x4 (0 : Int32) x2 M) else (J_211_99_18 rk x3 x4 ((1 : Int32) <<< ((((3 * x3) + x4) - 1) &&& 31)) x2 M)
def B_211_18 (rk : Int32 → IM → Option (Int64 × IM)) (x3 : Int32) (M : IM) : (Int32 × Int32) → Option ((Int32 × Int32) ⊕ (Int32 × Int32)) := fun (x2, x4) => if (3 : Int32) < x4 then (some (Sum.inr (x2, x4))) else (match L_211_30 rk x2 x3 x4 M 1 4 with | none => none | some (x5_6, x6_6) => (J_211_79_18 rk x2 x3 x4 x5_6 M))
def L_211_18 (rk : Int32 → IM → Option (Int64 × IM)) (x3 : Int32) (M : IM) (x2 : Int32) (x4 : Int32) : Option (Int32 × Int32) := loopN (B_211_18 rk x3 M) FU (x2, x4)
def J_211_107_10 (rk : Int32 → IM → Option (Int64 × IM)) (x2 : Int32) (x3 : Int32) (M : IM) : Option ((Int32 × Int32) ⊕ (Int32 × Int32)) := some (Sum.inl (x2, x3 + 1))
def B_211_10 (rk : Int32 → IM → Option (Int64 × IM)) (M : IM) : (Int32 × Int32) → Option ((Int32 × Int32) ⊕ (Int32 × Int32)) := fun (x2, x3) => if (4 : Int32) ≤ x3 then (some (Sum.inr (x2, x3))) else (match L_211_18 rk x3 M x2 1 with | none => none | some (x2_9, x4_9) => (J_211_107_10 rk x2_9 x3 M))
def L_211_10 (rk : Int32 → IM → Option (Int64 × IM)) (M : IM) (x2 : Int32) (x3 : Int32) : Option (Int32 × Int32) := loopN (B_211_10 rk M) FU (x2, x3)
def J_211_113 (rk : Int32 → IM → Option (Int64 × IM)) (x2 : Int32) (M : IM) : Option (Int64 × IM) := (match F_210 x2 M with | none => none | some (c12, M12) => (some ((c12.toInt64, M12))))
def J_211_162_125 (rk : Int32 → IM → Option (Int64 × IM)) (x1 : Int32) (w2 : Int64) (x4 : Int32) (M : IM) : Option ((Int64 × Int32 × IM) ⊕ (Int64 × Int32 × IM)) := some (Sum.inl (w2, x4 + 1, M))
def B_211_125 (rk : Int32 → IM → Option (Int64 × IM)) (x1 : Int32) : (Int64 × Int32 × IM) → Option ((Int64 × Int32 × IM) ⊕ (Int64 × Int32 × IM)) := fun (w2, x4, M) => if (3 : Int32) < x4 then (some (Sum.inr (w2, x4, M))) else (match F_205 x1 x4 (4080 : Int32) M with | none => none | some c13 => (if c13 = 0 then (J_211_162_125 rk x1 w2 x4 M) else (if inb x1 12 = true then (match rk (x1 + 1) (iset M 89 x1.toNatClampNeg x4) with | none => none | some (c14, M14) => (J_211_162_125 rk x1 (w2 + c14) x4 M14)) else none)))
def L_211_125 (rk : Int32 → IM → Option (Int64 × IM)) (x1 : Int32) (w2 : Int64) (x4 : Int32) (M : IM) : Option (Int64 × Int32 × IM) := loopN (B_211_125 rk x1) FU (w2, x4, M)
def F_211 (rk : Int32 → IM → Option (Int64 × IM)) (a1 : Int32) (M : IM) : Option (Int64 × IM) := if a1 = 12 then (match L_211_10 rk M 0 0 with | none => none | some (x2_11, x3_11) => (J_211_113 rk x2_11 M)) else (match L_211_125 rk a1 0 1 M with | none => none | some (w2_18, x4_18, M18) => (some ((w2_18, M18))))
theorem TB_211_30 (Dk : Nat) (rk : Int32 → IM → Option (Int64 × IM)) (Hk : ∀ {X : AX} {d : Nat}, Dk ≤ d → ∀ {a1 : Int32} {M : IM} {x : Int64} {M1 : IM}, rk a1 M = some (x, M1) → Rc X d 211 0 [some (.ref (77)), some (.int (a1)), none, none, none, none, none] [] M (some (.long x)) M1) {X : AX} {d : Nat} (hd : Dk + 3 ≤ d) {x2 : Int32} {x3 : Int32} {x4 : Int32} {M : IM} {v : Option Value} {M' : IM} : ∀ (s : Int32 × Int32) (o : (Int32 × Int32) ⊕ (Int32 × Int32)), B_211_30 rk x2 x3 x4 M s = some o → (∀ s', o = .inl s' → (fun (x5, x6) => (x5 = 0 ∨ x5 = 1) → Rc X d 211 30 [some (.ref (77)), none, some (.int (x2)), some (.int (x3)), some (.int (x4)), some (.int (x5)), some (.int (x6))] [] M v M') s') → (∀ r, o = .inr r → (fun (x5, x6) => (x5 = 0 ∨ x5 = 1) → Rc X d 211 79 [some (.ref (77)), none, some (.int (x2)), some (.int (x3)), some (.int (x4)), some (.int (x5)), none] [] M v M') r) → (fun (x5, x6) => (x5 = 0 ∨ x5 = 1) → Rc X d 211 30 [some (.ref (77)), none, some (.int (x2)), some (.int (x3)), some (.int (x4)), some (.int (x5)), some (.int (x6))] [] M v M') s := by
  rintro ⟨x5, x6⟩ o h hP hE
  intro hx5
  show Rc X d 211 30 [some (.ref (77)), none, some (.int (x2)), some (.int (x3)), some (.int (x4)), some (.int (x5)), some (.int (x6))] [] M v M'
  obtain ⟨d, rfl⟩ : ∃ e, d = e + 1 := ⟨d - 1, by omega⟩
  unfold B_211_30 at h
  dsimp only at h hP hE
  refine Rc.run tb_211 2 (pc' := 34) (ls' := [some (.ref (77)), none, some (.int (x2)), some (.int (x3)), some (.int (x4)), some (.int (x5)), some (.int (x6))]) (st' := [.int (12), .int (x6)]) rfl rfl ?_
  refine Rc.icmp_ge (pc1 := 79) tb_211 rfl rfl (by decide) (by decide) (fun hb5 => ?_) (fun hb5 => ?_)
  · rw [if_pos hb5] at h
    refine Rc.mask (b := 61) ((tb_211.2 79).trans rfl) (ls' := [some (.ref (77)), none, some (.int (x2)), some (.int (x3)), some (.int (x4)), some (.int (x5)), none]) rfl ?_
    obtain rfl := Option.some.inj h
    exact hE _ rfl hx5
  · rw [if_neg hb5] at h
    refine Rc.run tb_211 1 (pc' := 39) (ls' := [some (.ref (77)), none, some (.int (x2)), some (.int (x3)), some (.int (x4)), some (.int (x5)), some (.int (x6))]) (st' := [.int (x5)]) rfl rfl ?_
    refine Rc.if_eq (pc1 := 79) tb_211 rfl rfl (by decide) (by decide) (fun hb4 => ?_) (fun hb4 => ?_)
    · rw [if_pos hb4] at h
      refine Rc.mask (b := 61) ((tb_211.2 79).trans rfl) (ls' := [some (.ref (77)), none, some (.int (x2)), some (.int (x3)), some (.int (x4)), some (.int (x5)), none]) rfl ?_
      obtain rfl := Option.some.inj h
      exact hE _ rfl hx5
    · rw [if_neg hb4] at h
      refine Rc.run tb_211 1 (pc' := 43) (ls' := [some (.ref (77)), none, some (.int (x2)), some (.int (x3)), some (.int (x4)), some (.int (x5)), some (.int (x6))]) (st' := [.ref (77)]) rfl rfl ?_
      refine Rc.getR tb_211 rfl rfl ob_77 (by decide +kernel) tg_77_20 (by decide) ?_
      refine Rc.run tb_211 5 (pc' := 53) (ls' := [some (.ref (77)), none, some (.int (x2)), some (.int (x3)), some (.int (x4)), some (.int (x5)), some (.int (x6))]) (st' := [.int ((12 * x3) + x6), .ref (88)]) rfl rfl ?_
      by_cases hb3 : inb ((12 * x3) + x6) 144 = true
      · rw [if_pos hb3] at h
        refine Rc.iald tb_211 rfl rfl ia_88 hb3 ?_
        refine Rc.run tb_211 4 (pc' := 59) (ls' := [some (.ref (77)), none, some (.int (x2)), some (.int (x3)), some (.int (x4)), some (.int (x5)), some (.int (x6))]) (st' := [.ref (77), .int (3 * x4), .int (M 88 ((12 * x3) + x6).toNatClampNeg)]) rfl rfl ?_
        refine Rc.getR tb_211 rfl rfl ob_77 (by decide +kernel) tg_77_21 (by decide) ?_
        refine Rc.run tb_211 1 (pc' := 64) (ls' := [some (.ref (77)), none, some (.int (x2)), some (.int (x3)), some (.int (x4)), some (.int (x5)), some (.int (x6))]) (st' := [.int (x6), .ref (89), .int (3 * x4), .int (M 88 ((12 * x3) + x6).toNatClampNeg)]) rfl rfl ?_
        by_cases hb2 : inb x6 12 = true
        · rw [if_pos hb2] at h
          refine Rc.iald tb_211 rfl rfl ia_89 hb2 ?_
          refine Rc.run tb_211 3 (pc' := 68) (ls' := [some (.ref (77)), none, some (.int (x2)), some (.int (x3)), some (.int (x4)), some (.int (x5)), some (.int (x6))]) (st' := [.int (((3 * x4) + (M 89 x6.toNatClampNeg)) - 4), .int (M 88 ((12 * x3) + x6).toNatClampNeg)]) rfl rfl ?_
          have hq1 := T_162 (X := X) (d := d) (by omega) (M 88 ((12 * x3) + x6).toNatClampNeg) (((3 * x4) + (M 89 x6.toNatClampNeg)) - 4) M
          have hz1 := Rc.bool mR_162 hq1
          refine Rc.callS tb_211 rfl rfl rfl mS_162 mP_162 mL_162 rfl rfl rfl hq1 ?_
          refine Rc.run tb_211 3 (pc' := 30) (ls' := [some (.ref (77)), none, some (.int (x2)), some (.int (x3)), some (.int (x4)), some (.int (F_162 (M 88 ((12 * x3) + x6).toNatClampNeg) (((3 * x4) + (M 89 x6.toNatClampNeg)) - 4))), some (.int (x6 + 1))]) (st' := []) rfl rfl ?_
          refine Rc.mask (b := 125) ((tb_211.2 30).trans rfl) (ls' := [some (.ref (77)), none, some (.int (x2)), some (.int (x3)), some (.int (x4)), some (.int (F_162 (M 88 ((12 * x3) + x6).toNatClampNeg) (((3 * x4) + (M 89 x6.toNatClampNeg)) - 4))), some (.int (x6 + 1))]) rfl ?_
          obtain rfl := Option.some.inj h
          exact hP _ rfl hz1
        · rw [if_neg hb2] at h
          cases h
      · rw [if_neg hb3] at h
        cases h
theorem TL_211_30 (Dk : Nat) (rk : Int32 → IM → Option (Int64 × IM)) (Hk : ∀ {X : AX} {d : Nat}, Dk ≤ d → ∀ {a1 : Int32} {M : IM} {x : Int64} {M1 : IM}, rk a1 M = some (x, M1) → Rc X d 211 0 [some (.ref (77)), some (.int (a1)), none, none, none, none, none] [] M (some (.long x)) M1) {X : AX} {d : Nat} (hd : Dk + 3 ≤ d) {x2 : Int32} {x3 : Int32} {x4 : Int32} {M : IM} {x5 : Int32} {x6 : Int32} (hx5 : x5 = 0 ∨ x5 = 1) {v : Option Value} {M' : IM} {r : Int32 × Int32} (h : L_211_30 rk x2 x3 x4 M x5 x6 = some r) (hE : (fun (x5, x6) => (x5 = 0 ∨ x5 = 1) → Rc X d 211 79 [some (.ref (77)), none, some (.int (x2)), some (.int (x3)), some (.int (x4)), some (.int (x5)), none] [] M v M') r) : Rc X d 211 30 [some (.ref (77)), none, some (.int (x2)), some (.int (x3)), some (.int (x4)), some (.int (x5)), some (.int (x6))] [] M v M' := by
  exact loopN_rc (P := fun (x5, x6) => (x5 = 0 ∨ x5 = 1) → Rc X d 211 30 [some (.ref (77)), none, some (.int (x2)), some (.int (x3)), some (.int (x4)), some (.int (x5)), some (.int (x6))] [] M v M') (E := fun (x5, x6) => (x5 = 0 ∨ x5 = 1) → Rc X d 211 79 [some (.ref (77)), none, some (.int (x2)), some (.int (x3)), some (.int (x4)), some (.int (x5)), none] [] M v M') (TB_211_30 Dk rk Hk (X := X) hd) FU _ r h hE hx5
theorem TJ_211_99_18 (Dk : Nat) (rk : Int32 → IM → Option (Int64 × IM)) (Hk : ∀ {X : AX} {d : Nat}, Dk ≤ d → ∀ {a1 : Int32} {M : IM} {x : Int64} {M1 : IM}, rk a1 M = some (x, M1) → Rc X d 211 0 [some (.ref (77)), some (.int (a1)), none, none, none, none, none] [] M (some (.long x)) M1) {X : AX} {d : Nat} (hd : Dk + 3 ≤ d) {x3 : Int32} {x4 : Int32} {s0 : Int32} {s1 : Int32} {M : IM} {v : Option Value} {M' : IM} {o : (Int32 × Int32) ⊕ (Int32 × Int32)} (h : J_211_99_18 rk x3 x4 s0 s1 M = some o) (hP : ∀ s', o = .inl s' → (fun (x2, x4) => Rc X d 211 18 [some (.ref (77)), none, some (.int (x2)), some (.int (x3)), some (.int (x4)), none, none] [] M v M') s') (hE : ∀ r, o = .inr r → (fun (x2, x4) => Rc X d 211 107 [some (.ref (77)), none, some (.int (x2)), some (.int (x3)), none, none, none] [] M v M') r) : Rc X d 211 99 [some (.ref (77)), none, none, some (.int (x3)), some (.int (x4)), none, none] [.int (s0), .int (s1)] M v M' := by
  obtain ⟨d, rfl⟩ : ∃ e, d = e + 1 := ⟨d - 1, by omega⟩
  unfold J_211_99_18 at h
  dsimp only at hP hE
  refine Rc.run tb_211 4 (pc' := 18) (ls' := [some (.ref (77)), none, some (.int (s1 ||| s0)), some (.int (x3)), some (.int (x4 + 1)), none, none]) (st' := []) rfl rfl ?_
  refine Rc.mask (b := 29) ((tb_211.2 18).trans rfl) (ls' := [some (.ref (77)), none, some (.int (s1 ||| s0)), some (.int (x3)), some (.int (x4 + 1)), none, none]) rfl ?_
  obtain rfl := Option.some.inj h
  exact hP _ rfl
theorem TJ_211_79_18 (Dk : Nat) (rk : Int32 → IM → Option (Int64 × IM)) (Hk : ∀ {X : AX} {d : Nat}, Dk ≤ d → ∀ {a1 : Int32} {M : IM} {x : Int64} {M1 : IM}, rk a1 M = some (x, M1) → Rc X d 211 0 [some (.ref (77)), some (.int (a1)), none, none, none, none, none] [] M (some (.long x)) M1) {X : AX} {d : Nat} (hd : Dk + 3 ≤ d) {x2 : Int32} {x3 : Int32} {x4 : Int32} {x5 : Int32} {M : IM} (hx5 : x5 = 0 ∨ x5 = 1) {v : Option Value} {M' : IM} {o : (Int32 × Int32) ⊕ (Int32 × Int32)} (h : J_211_79_18 rk x2 x3 x4 x5 M = some o) (hP : ∀ s', o = .inl s' → (fun (x2, x4) => Rc X d 211 18 [some (.ref (77)), none, some (.int (x2)), some (.int (x3)), some (.int (x4)), none, none] [] M v M') s') (hE : ∀ r, o = .inr r → (fun (x2, x4) => Rc X d 211 107 [some (.ref (77)), none, some (.int (x2)), some (.int (x3)), none, none, none] [] M v M') r) : Rc X d 211 79 [some (.ref (77)), none, some (.int (x2)), some (.int (x3)), some (.int (x4)), some (.int (x5)), none] [] M v M' := by
  obtain ⟨d, rfl⟩ : ∃ e, d = e + 1 := ⟨d - 1, by omega⟩
  unfold J_211_79_18 at h
  dsimp only at hP hE
  refine Rc.run tb_211 2 (pc' := 82) (ls' := [some (.ref (77)), none, some (.int (x2)), some (.int (x3)), some (.int (x4)), some (.int (x5)), none]) (st' := [.int (x5), .int (x2)]) rfl rfl ?_
  refine Rc.if_eq (pc1 := 98) tb_211 rfl rfl (by decide) (by decide) (fun hb7 => ?_) (fun hb7 => ?_)
  · rw [if_pos hb7] at h
    refine Rc.run tb_211 1 (pc' := 99) (ls' := [some (.ref (77)), none, some (.int (x2)), some (.int (x3)), some (.int (x4)), some (.int (x5)), none]) (st' := [.int (0), .int (x2)]) rfl rfl ?_
    refine Rc.mask (b := 25) ((tb_211.2 99).trans rfl) (ls' := [some (.ref (77)), none, none, some (.int (x3)), some (.int (x4)), none, none]) rfl ?_
    exact TJ_211_99_18 Dk rk Hk (X := X) (d := d + 1) (by omega) h hP hE
  · rw [if_neg hb7] at h
    refine Rc.run tb_211 10 (pc' := 99) (ls' := [some (.ref (77)), none, some (.int (x2)), some (.int (x3)), some (.int (x4)), some (.int (x5)), none]) (st' := [.int ((1 : Int32) <<< ((((3 * x3) + x4) - 1) &&& 31)), .int (x2)]) rfl rfl ?_
    refine Rc.mask (b := 25) ((tb_211.2 99).trans rfl) (ls' := [some (.ref (77)), none, none, some (.int (x3)), some (.int (x4)), none, none]) rfl ?_
    exact TJ_211_99_18 Dk rk Hk (X := X) (d := d + 1) (by omega) h hP hE
theorem TB_211_18 (Dk : Nat) (rk : Int32 → IM → Option (Int64 × IM)) (Hk : ∀ {X : AX} {d : Nat}, Dk ≤ d → ∀ {a1 : Int32} {M : IM} {x : Int64} {M1 : IM}, rk a1 M = some (x, M1) → Rc X d 211 0 [some (.ref (77)), some (.int (a1)), none, none, none, none, none] [] M (some (.long x)) M1) {X : AX} {d : Nat} (hd : Dk + 3 ≤ d) {x3 : Int32} {M : IM} {v : Option Value} {M' : IM} : ∀ (s : Int32 × Int32) (o : (Int32 × Int32) ⊕ (Int32 × Int32)), B_211_18 rk x3 M s = some o → (∀ s', o = .inl s' → (fun (x2, x4) => Rc X d 211 18 [some (.ref (77)), none, some (.int (x2)), some (.int (x3)), some (.int (x4)), none, none] [] M v M') s') → (∀ r, o = .inr r → (fun (x2, x4) => Rc X d 211 107 [some (.ref (77)), none, some (.int (x2)), some (.int (x3)), none, none, none] [] M v M') r) → (fun (x2, x4) => Rc X d 211 18 [some (.ref (77)), none, some (.int (x2)), some (.int (x3)), some (.int (x4)), none, none] [] M v M') s := by
  rintro ⟨x2, x4⟩ o h hP hE
  show Rc X d 211 18 [some (.ref (77)), none, some (.int (x2)), some (.int (x3)), some (.int (x4)), none, none] [] M v M'
  obtain ⟨d, rfl⟩ : ∃ e, d = e + 1 := ⟨d - 1, by omega⟩
  unfold B_211_18 at h
  dsimp only at h hP hE
  refine Rc.run tb_211 2 (pc' := 21) (ls' := [some (.ref (77)), none, some (.int (x2)), some (.int (x3)), some (.int (x4)), none, none]) (st' := [.int (3), .int (x4)]) rfl rfl ?_
  refine Rc.icmp_gt (pc1 := 107) tb_211 rfl rfl (by decide) (by decide) (fun hb8 => ?_) (fun hb8 => ?_)
  · rw [if_pos hb8] at h
    refine Rc.mask (b := 13) ((tb_211.2 107).trans rfl) (ls' := [some (.ref (77)), none, some (.int (x2)), some (.int (x3)), none, none, none]) rfl ?_
    obtain rfl := Option.some.inj h
    exact hE _ rfl
  · rw [if_neg hb8] at h
    refine Rc.run tb_211 4 (pc' := 30) (ls' := [some (.ref (77)), none, some (.int (x2)), some (.int (x3)), some (.int (x4)), some (.int (1)), some (.int (4))]) (st' := []) rfl rfl ?_
    refine Rc.mask (b := 125) ((tb_211.2 30).trans rfl) (ls' := [some (.ref (77)), none, some (.int (x2)), some (.int (x3)), some (.int (x4)), some (.int (1)), some (.int (4))]) rfl ?_
    cases hl6 : L_211_30 rk x2 x3 x4 M 1 4 with
    | none => rw [hl6] at h; cases h
    | some r6 =>
      obtain ⟨x5_6, x6_6⟩ := r6
      rw [hl6] at h
      dsimp only at h
      refine TL_211_30 Dk rk Hk (X := X) (d := d + 1) (by omega) (Or.inr rfl) hl6 ?_
      intro hz_x5_6
      refine Rc.mask (b := 61) ((tb_211.2 79).trans rfl) (ls' := [some (.ref (77)), none, some (.int (x2)), some (.int (x3)), some (.int (x4)), some (.int (x5_6)), none]) rfl ?_
      exact TJ_211_79_18 Dk rk Hk (X := X) (d := d + 1) (by omega) hz_x5_6 h hP hE
theorem TL_211_18 (Dk : Nat) (rk : Int32 → IM → Option (Int64 × IM)) (Hk : ∀ {X : AX} {d : Nat}, Dk ≤ d → ∀ {a1 : Int32} {M : IM} {x : Int64} {M1 : IM}, rk a1 M = some (x, M1) → Rc X d 211 0 [some (.ref (77)), some (.int (a1)), none, none, none, none, none] [] M (some (.long x)) M1) {X : AX} {d : Nat} (hd : Dk + 3 ≤ d) {x3 : Int32} {M : IM} {x2 : Int32} {x4 : Int32} {v : Option Value} {M' : IM} {r : Int32 × Int32} (h : L_211_18 rk x3 M x2 x4 = some r) (hE : (fun (x2, x4) => Rc X d 211 107 [some (.ref (77)), none, some (.int (x2)), some (.int (x3)), none, none, none] [] M v M') r) : Rc X d 211 18 [some (.ref (77)), none, some (.int (x2)), some (.int (x3)), some (.int (x4)), none, none] [] M v M' := by
  exact loopN_rc (P := fun (x2, x4) => Rc X d 211 18 [some (.ref (77)), none, some (.int (x2)), some (.int (x3)), some (.int (x4)), none, none] [] M v M') (E := fun (x2, x4) => Rc X d 211 107 [some (.ref (77)), none, some (.int (x2)), some (.int (x3)), none, none, none] [] M v M') (TB_211_18 Dk rk Hk (X := X) hd) FU _ r h hE
theorem TJ_211_107_10 (Dk : Nat) (rk : Int32 → IM → Option (Int64 × IM)) (Hk : ∀ {X : AX} {d : Nat}, Dk ≤ d → ∀ {a1 : Int32} {M : IM} {x : Int64} {M1 : IM}, rk a1 M = some (x, M1) → Rc X d 211 0 [some (.ref (77)), some (.int (a1)), none, none, none, none, none] [] M (some (.long x)) M1) {X : AX} {d : Nat} (hd : Dk + 3 ≤ d) {x2 : Int32} {x3 : Int32} {M : IM} {v : Option Value} {M' : IM} {o : (Int32 × Int32) ⊕ (Int32 × Int32)} (h : J_211_107_10 rk x2 x3 M = some o) (hP : ∀ s', o = .inl s' → (fun (x2, x3) => Rc X d 211 10 [some (.ref (77)), none, some (.int (x2)), some (.int (x3)), none, none, none] [] M v M') s') (hE : ∀ r, o = .inr r → (fun (x2, x3) => Rc X d 211 113 [some (.ref (77)), none, some (.int (x2)), none, none, none, none] [] M v M') r) : Rc X d 211 107 [some (.ref (77)), none, some (.int (x2)), some (.int (x3)), none, none, none] [] M v M' := by
  obtain ⟨d, rfl⟩ : ∃ e, d = e + 1 := ⟨d - 1, by omega⟩
  unfold J_211_107_10 at h
  dsimp only at hP hE
  refine Rc.run tb_211 2 (pc' := 10) (ls' := [some (.ref (77)), none, some (.int (x2)), some (.int (x3 + 1)), none, none, none]) (st' := []) rfl rfl ?_
  refine Rc.mask (b := 13) ((tb_211.2 10).trans rfl) (ls' := [some (.ref (77)), none, some (.int (x2)), some (.int (x3 + 1)), none, none, none]) rfl ?_
  obtain rfl := Option.some.inj h
  exact hP _ rfl
theorem TB_211_10 (Dk : Nat) (rk : Int32 → IM → Option (Int64 × IM)) (Hk : ∀ {X : AX} {d : Nat}, Dk ≤ d → ∀ {a1 : Int32} {M : IM} {x : Int64} {M1 : IM}, rk a1 M = some (x, M1) → Rc X d 211 0 [some (.ref (77)), some (.int (a1)), none, none, none, none, none] [] M (some (.long x)) M1) {X : AX} {d : Nat} (hd : Dk + 3 ≤ d) {M : IM} {v : Option Value} {M' : IM} : ∀ (s : Int32 × Int32) (o : (Int32 × Int32) ⊕ (Int32 × Int32)), B_211_10 rk M s = some o → (∀ s', o = .inl s' → (fun (x2, x3) => Rc X d 211 10 [some (.ref (77)), none, some (.int (x2)), some (.int (x3)), none, none, none] [] M v M') s') → (∀ r, o = .inr r → (fun (x2, x3) => Rc X d 211 113 [some (.ref (77)), none, some (.int (x2)), none, none, none, none] [] M v M') r) → (fun (x2, x3) => Rc X d 211 10 [some (.ref (77)), none, some (.int (x2)), some (.int (x3)), none, none, none] [] M v M') s := by
  rintro ⟨x2, x3⟩ o h hP hE
  show Rc X d 211 10 [some (.ref (77)), none, some (.int (x2)), some (.int (x3)), none, none, none] [] M v M'
  obtain ⟨d, rfl⟩ : ∃ e, d = e + 1 := ⟨d - 1, by omega⟩
  unfold B_211_10 at h
  dsimp only at h hP hE
  refine Rc.run tb_211 2 (pc' := 12) (ls' := [some (.ref (77)), none, some (.int (x2)), some (.int (x3)), none, none, none]) (st' := [.int (4), .int (x3)]) rfl rfl ?_
  refine Rc.icmp_ge (pc1 := 113) tb_211 rfl rfl (by decide) (by decide) (fun hb10 => ?_) (fun hb10 => ?_)
  · rw [if_pos hb10] at h
    refine Rc.mask (b := 5) ((tb_211.2 113).trans rfl) (ls' := [some (.ref (77)), none, some (.int (x2)), none, none, none, none]) rfl ?_
    obtain rfl := Option.some.inj h
    exact hE _ rfl
  · rw [if_neg hb10] at h
    refine Rc.run tb_211 2 (pc' := 18) (ls' := [some (.ref (77)), none, some (.int (x2)), some (.int (x3)), some (.int (1)), none, none]) (st' := []) rfl rfl ?_
    refine Rc.mask (b := 29) ((tb_211.2 18).trans rfl) (ls' := [some (.ref (77)), none, some (.int (x2)), some (.int (x3)), some (.int (1)), none, none]) rfl ?_
    cases hl9 : L_211_18 rk x3 M x2 1 with
    | none => rw [hl9] at h; cases h
    | some r9 =>
      obtain ⟨x2_9, x4_9⟩ := r9
      rw [hl9] at h
      dsimp only at h
      refine TL_211_18 Dk rk Hk (X := X) (d := d + 1) (by omega) hl9 ?_
      refine Rc.mask (b := 13) ((tb_211.2 107).trans rfl) (ls' := [some (.ref (77)), none, some (.int (x2_9)), some (.int (x3)), none, none, none]) rfl ?_
      exact TJ_211_107_10 Dk rk Hk (X := X) (d := d + 1) (by omega) h hP hE
theorem TL_211_10 (Dk : Nat) (rk : Int32 → IM → Option (Int64 × IM)) (Hk : ∀ {X : AX} {d : Nat}, Dk ≤ d → ∀ {a1 : Int32} {M : IM} {x : Int64} {M1 : IM}, rk a1 M = some (x, M1) → Rc X d 211 0 [some (.ref (77)), some (.int (a1)), none, none, none, none, none] [] M (some (.long x)) M1) {X : AX} {d : Nat} (hd : Dk + 3 ≤ d) {M : IM} {x2 : Int32} {x3 : Int32} {v : Option Value} {M' : IM} {r : Int32 × Int32} (h : L_211_10 rk M x2 x3 = some r) (hE : (fun (x2, x3) => Rc X d 211 113 [some (.ref (77)), none, some (.int (x2)), none, none, none, none] [] M v M') r) : Rc X d 211 10 [some (.ref (77)), none, some (.int (x2)), some (.int (x3)), none, none, none] [] M v M' := by
  exact loopN_rc (P := fun (x2, x3) => Rc X d 211 10 [some (.ref (77)), none, some (.int (x2)), some (.int (x3)), none, none, none] [] M v M') (E := fun (x2, x3) => Rc X d 211 113 [some (.ref (77)), none, some (.int (x2)), none, none, none, none] [] M v M') (TB_211_10 Dk rk Hk (X := X) hd) FU _ r h hE
theorem TJ_211_113 (Dk : Nat) (rk : Int32 → IM → Option (Int64 × IM)) (Hk : ∀ {X : AX} {d : Nat}, Dk ≤ d → ∀ {a1 : Int32} {M : IM} {x : Int64} {M1 : IM}, rk a1 M = some (x, M1) → Rc X d 211 0 [some (.ref (77)), some (.int (a1)), none, none, none, none, none] [] M (some (.long x)) M1) {X : AX} {d : Nat} (hd : Dk + 3 ≤ d) {x2 : Int32} {M : IM} {v : Option Value} {M' : IM} {o : Int64 × IM} (h : J_211_113 rk x2 M = some o) (hC : v = some (.long o.1) ∧ M' = o.2) : Rc X d 211 113 [some (.ref (77)), none, some (.int (x2)), none, none, none, none] [] M v M' := by
  obtain ⟨d, rfl⟩ : ∃ e, d = e + 1 := ⟨d - 1, by omega⟩
  unfold J_211_113 at h
  refine Rc.run tb_211 2 (pc' := 115) (ls' := [some (.ref (77)), none, some (.int (x2)), none, none, none, none]) (st' := [.int (x2), .ref (77)]) rfl rfl ?_
  cases hc12 : F_210 x2 M with
  | none => rw [hc12] at h; cases h
  | some r12 =>
    obtain ⟨c12, M12⟩ := r12
    rw [hc12] at h
    dsimp only at h
    have hq12 := T_210 (X := X) (d := d) (by omega) (M := M) hc12
    refine Rc.callV tb_211 rfl rfl rfl mS_210 mP_210 mL_210 mO_210 rfl rfl ob_77 rfl rfl hq12 ?_
    refine Rc.run tb_211 1 (pc' := 119) (ls' := [some (.ref (77)), none, some (.int (x2)), none, none, none, none]) (st' := [.long (c12.toInt64)]) rfl rfl ?_
    obtain rfl := Option.some.inj h
    obtain ⟨rfl, rfl⟩ := hC
    exact Rc.lret tb_211 rfl mR_211
theorem TJ_211_162_125 (Dk : Nat) (rk : Int32 → IM → Option (Int64 × IM)) (Hk : ∀ {X : AX} {d : Nat}, Dk ≤ d → ∀ {a1 : Int32} {M : IM} {x : Int64} {M1 : IM}, rk a1 M = some (x, M1) → Rc X d 211 0 [some (.ref (77)), some (.int (a1)), none, none, none, none, none] [] M (some (.long x)) M1) {X : AX} {d : Nat} (hd : Dk + 3 ≤ d) {x1 : Int32} {w2 : Int64} {x4 : Int32} {M : IM} {v : Option Value} {M' : IM} {o : (Int64 × Int32 × IM) ⊕ (Int64 × Int32 × IM)} (h : J_211_162_125 rk x1 w2 x4 M = some o) (hP : ∀ s', o = .inl s' → (fun (w2, x4, M) => Rc X d 211 125 [some (.ref (77)), some (.int (x1)), some (.long (w2)), none, some (.int (x4)), none, none] [] M v M') s') (hE : ∀ r, o = .inr r → (fun (w2, x4, M) => Rc X d 211 168 [none, none, some (.long (w2)), none, none, none, none] [] M v M') r) : Rc X d 211 162 [some (.ref (77)), some (.int (x1)), some (.long (w2)), none, some (.int (x4)), none, none] [] M v M' := by
  obtain ⟨d, rfl⟩ : ∃ e, d = e + 1 := ⟨d - 1, by omega⟩
  unfold J_211_162_125 at h
  dsimp only at hP hE
  refine Rc.run tb_211 2 (pc' := 125) (ls' := [some (.ref (77)), some (.int (x1)), some (.long (w2)), none, some (.int (x4 + 1)), none, none]) (st' := []) rfl rfl ?_
  refine Rc.mask (b := 23) ((tb_211.2 125).trans rfl) (ls' := [some (.ref (77)), some (.int (x1)), some (.long (w2)), none, some (.int (x4 + 1)), none, none]) rfl ?_
  obtain rfl := Option.some.inj h
  exact hP _ rfl
theorem TB_211_125 (Dk : Nat) (rk : Int32 → IM → Option (Int64 × IM)) (Hk : ∀ {X : AX} {d : Nat}, Dk ≤ d → ∀ {a1 : Int32} {M : IM} {x : Int64} {M1 : IM}, rk a1 M = some (x, M1) → Rc X d 211 0 [some (.ref (77)), some (.int (a1)), none, none, none, none, none] [] M (some (.long x)) M1) {X : AX} {d : Nat} (hd : Dk + 3 ≤ d) {x1 : Int32} {v : Option Value} {M' : IM} : ∀ (s : Int64 × Int32 × IM) (o : (Int64 × Int32 × IM) ⊕ (Int64 × Int32 × IM)), B_211_125 rk x1 s = some o → (∀ s', o = .inl s' → (fun (w2, x4, M) => Rc X d 211 125 [some (.ref (77)), some (.int (x1)), some (.long (w2)), none, some (.int (x4)), none, none] [] M v M') s') → (∀ r, o = .inr r → (fun (w2, x4, M) => Rc X d 211 168 [none, none, some (.long (w2)), none, none, none, none] [] M v M') r) → (fun (w2, x4, M) => Rc X d 211 125 [some (.ref (77)), some (.int (x1)), some (.long (w2)), none, some (.int (x4)), none, none] [] M v M') s := by
  rintro ⟨w2, x4, M⟩ o h hP hE
  show Rc X d 211 125 [some (.ref (77)), some (.int (x1)), some (.long (w2)), none, some (.int (x4)), none, none] [] M v M'
  obtain ⟨d, rfl⟩ : ∃ e, d = e + 1 := ⟨d - 1, by omega⟩
  unfold B_211_125 at h
  dsimp only at h hP hE
  refine Rc.run tb_211 2 (pc' := 128) (ls' := [some (.ref (77)), some (.int (x1)), some (.long (w2)), none, some (.int (x4)), none, none]) (st' := [.int (3), .int (x4)]) rfl rfl ?_
  refine Rc.icmp_gt (pc1 := 168) tb_211 rfl rfl (by decide) (by decide) (fun hb17 => ?_) (fun hb17 => ?_)
  · rw [if_pos hb17] at h
    refine Rc.mask (b := 4) ((tb_211.2 168).trans rfl) (ls' := [none, none, some (.long (w2)), none, none, none, none]) rfl ?_
    obtain rfl := Option.some.inj h
    exact hE _ rfl
  · rw [if_neg hb17] at h
    refine Rc.run tb_211 4 (pc' := 138) (ls' := [some (.ref (77)), some (.int (x1)), some (.long (w2)), none, some (.int (x4)), none, none]) (st' := [.int (4080), .int (x4), .int (x1), .ref (77)]) rfl rfl ?_
    cases hc13 : F_205 x1 x4 (4080 : Int32) M with
    | none => rw [hc13] at h; cases h
    | some c13 =>
      rw [hc13] at h
      dsimp only at h
      have hq13 := T_205 (X := X) (d := d) (by omega) (M := M) hc13
      have hz13 := Rc.bool mR_205 hq13
      refine Rc.callV tb_211 rfl rfl rfl mS_205 mP_205 mL_205 mO_205 rfl rfl ob_77 rfl rfl hq13 ?_
      refine Rc.if_eq (pc1 := 162) tb_211 rfl rfl (by decide) (by decide) (fun hb16 => ?_) (fun hb16 => ?_)
      · rw [if_pos hb16] at h
        refine Rc.mask (b := 23) ((tb_211.2 162).trans rfl) (ls' := [some (.ref (77)), some (.int (x1)), some (.long (w2)), none, some (.int (x4)), none, none]) rfl ?_
        exact TJ_211_162_125 Dk rk Hk (X := X) (d := d + 1) (by omega) h hP hE
      · rw [if_neg hb16] at h
        refine Rc.run tb_211 1 (pc' := 145) (ls' := [some (.ref (77)), some (.int (x1)), some (.long (w2)), none, some (.int (x4)), none, none]) (st' := [.ref (77)]) rfl rfl ?_
        refine Rc.getR tb_211 rfl rfl ob_77 (by decide +kernel) tg_77_21 (by decide) ?_
        refine Rc.run tb_211 2 (pc' := 151) (ls' := [some (.ref (77)), some (.int (x1)), some (.long (w2)), none, some (.int (x4)), none, none]) (st' := [.int (x4), .int (x1), .ref (89)]) rfl rfl ?_
        by_cases hb15 : inb x1 12 = true
        · rw [if_pos hb15] at h
          refine Rc.iast tb_211 rfl rfl ia_89 hb15 ?_
          refine Rc.run tb_211 5 (pc' := 157) (ls' := [some (.ref (77)), some (.int (x1)), some (.long (w2)), none, some (.int (x4)), none, none]) (st' := [.int (x1 + 1), .ref (77), .long (w2)]) rfl rfl ?_
          cases hc14 : rk (x1 + 1) (iset M 89 x1.toNatClampNeg x4) with
          | none => rw [hc14] at h; cases h
          | some r14 =>
            obtain ⟨c14, M14⟩ := r14
            rw [hc14] at h
            dsimp only at h
            have hq14 := Hk (X := X) (d := d) (by omega) (M := iset M 89 x1.toNatClampNeg x4) hc14
            refine Rc.callV tb_211 rfl rfl rfl mS_211 mP_211 mL_211 mO_211 rfl rfl ob_77 rfl rfl hq14 ?_
            refine Rc.run tb_211 2 (pc' := 162) (ls' := [some (.ref (77)), some (.int (x1)), some (.long (w2 + c14)), none, some (.int (x4)), none, none]) (st' := []) rfl rfl ?_
            refine Rc.mask (b := 23) ((tb_211.2 162).trans rfl) (ls' := [some (.ref (77)), some (.int (x1)), some (.long (w2 + c14)), none, some (.int (x4)), none, none]) rfl ?_
            exact TJ_211_162_125 Dk rk Hk (X := X) (d := d + 1) (by omega) h hP hE
        · rw [if_neg hb15] at h
          cases h
theorem TL_211_125 (Dk : Nat) (rk : Int32 → IM → Option (Int64 × IM)) (Hk : ∀ {X : AX} {d : Nat}, Dk ≤ d → ∀ {a1 : Int32} {M : IM} {x : Int64} {M1 : IM}, rk a1 M = some (x, M1) → Rc X d 211 0 [some (.ref (77)), some (.int (a1)), none, none, none, none, none] [] M (some (.long x)) M1) {X : AX} {d : Nat} (hd : Dk + 3 ≤ d) {x1 : Int32} {w2 : Int64} {x4 : Int32} {M : IM} {v : Option Value} {M' : IM} {r : Int64 × Int32 × IM} (h : L_211_125 rk x1 w2 x4 M = some r) (hE : (fun (w2, x4, M) => Rc X d 211 168 [none, none, some (.long (w2)), none, none, none, none] [] M v M') r) : Rc X d 211 125 [some (.ref (77)), some (.int (x1)), some (.long (w2)), none, some (.int (x4)), none, none] [] M v M' := by
  exact loopN_rc (P := fun (w2, x4, M) => Rc X d 211 125 [some (.ref (77)), some (.int (x1)), some (.long (w2)), none, some (.int (x4)), none, none] [] M v M') (E := fun (w2, x4, M) => Rc X d 211 168 [none, none, some (.long (w2)), none, none, none, none] [] M v M') (TB_211_125 Dk rk Hk (X := X) hd) FU _ r h hE
theorem TF_211 (Dk : Nat) (rk : Int32 → IM → Option (Int64 × IM)) (Hk : ∀ {X : AX} {d : Nat}, Dk ≤ d → ∀ {a1 : Int32} {M : IM} {x : Int64} {M1 : IM}, rk a1 M = some (x, M1) → Rc X d 211 0 [some (.ref (77)), some (.int (a1)), none, none, none, none, none] [] M (some (.long x)) M1) {X : AX} {d : Nat} (hd : Dk + 3 ≤ d) {a1 : Int32} {M : IM} {v : Option Value} {M' : IM} {o : Int64 × IM} (h : F_211 rk a1 M = some o) (hC : v = some (.long o.1) ∧ M' = o.2) : Rc X d 211 0 [some (.ref (77)), some (.int (a1)), none, none, none, none, none] [] M v M' := by
  obtain ⟨d, rfl⟩ : ∃ e, d = e + 1 := ⟨d - 1, by omega⟩
  unfold F_211 at h
  refine Rc.run tb_211 2 (pc' := 3) (ls' := [some (.ref (77)), some (.int (a1)), none, none, none, none, none]) (st' := [.int (12), .int (a1)]) rfl rfl ?_
  refine Rc.icmp_ne (pc1 := 120) tb_211 rfl rfl (by decide) (by decide) (fun hb19 => ?_) (fun hb19 => ?_)
  · rw [if_pos hb19] at h
    refine Rc.run tb_211 4 (pc' := 10) (ls' := [some (.ref (77)), some (.int (a1)), some (.int (0)), some (.int (0)), none, none, none]) (st' := []) rfl rfl ?_
    refine Rc.mask (b := 13) ((tb_211.2 10).trans rfl) (ls' := [some (.ref (77)), none, some (.int (0)), some (.int (0)), none, none, none]) rfl ?_
    cases hl11 : L_211_10 rk M 0 0 with
    | none => rw [hl11] at h; cases h
    | some r11 =>
      obtain ⟨x2_11, x3_11⟩ := r11
      rw [hl11] at h
      dsimp only at h
      refine TL_211_10 Dk rk Hk (X := X) (d := d + 1) (by omega) hl11 ?_
      refine Rc.mask (b := 5) ((tb_211.2 113).trans rfl) (ls' := [some (.ref (77)), none, some (.int (x2_11)), none, none, none, none]) rfl ?_
      exact TJ_211_113 Dk rk Hk (X := X) (d := d + 1) (by omega) h hC
  · rw [if_neg hb19] at h
    refine Rc.run tb_211 4 (pc' := 125) (ls' := [some (.ref (77)), some (.int (a1)), some (.long (0)), none, some (.int (1)), none, none]) (st' := []) rfl rfl ?_
    refine Rc.mask (b := 23) ((tb_211.2 125).trans rfl) (ls' := [some (.ref (77)), some (.int (a1)), some (.long (0)), none, some (.int (1)), none, none]) rfl ?_
    cases hl18 : L_211_125 rk a1 0 1 M with
    | none => rw [hl18] at h; cases h
    | some r18 =>
      obtain ⟨w2_18, x4_18, M18⟩ := r18
      rw [hl18] at h
      dsimp only at h
      refine TL_211_125 Dk rk Hk (X := X) (d := d + 1) (by omega) hl18 ?_
      refine Rc.run tb_211 1 (pc' := 169) (ls' := [none, none, some (.long (w2_18)), none, none, none, none]) (st' := [.long (w2_18)]) rfl rfl ?_
      obtain rfl := Option.some.inj h
      obtain ⟨rfl, rfl⟩ := hC
      exact Rc.lret tb_211 rfl mR_211
theorem T_211 (Dk : Nat) (rk : Int32 → IM → Option (Int64 × IM)) (Hk : ∀ {X : AX} {d : Nat}, Dk ≤ d → ∀ {a1 : Int32} {M : IM} {x : Int64} {M1 : IM}, rk a1 M = some (x, M1) → Rc X d 211 0 [some (.ref (77)), some (.int (a1)), none, none, none, none, none] [] M (some (.long x)) M1) {X : AX} {d : Nat} (hd : Dk + 3 ≤ d) {a1 : Int32} {M : IM} {x : Int64} {M1 : IM} (h : F_211 rk a1 M = some (x, M1)) : Rc X d 211 0 [some (.ref (77)), some (.int (a1)), none, none, none, none, none] [] M (some (.long x)) M1 := TF_211 Dk rk Hk hd h ⟨rfl, rfl⟩
def KK_211 : Nat → Int32 → IM → Option (Int64 × IM)
  | 0, _, _ => none
  | k + 1, a1, M => F_211 (KK_211 k) a1 M
theorem TKK_211 : ∀ (k : Nat), ∀ {X : AX} {d : Nat}, k * 3 ≤ d → ∀ {a1 : Int32} {M : IM} {x : Int64} {M1 : IM}, KK_211 k a1 M = some (x, M1) → Rc X d 211 0 [some (.ref (77)), some (.int (a1)), none, none, none, none, none] [] M (some (.long x)) M1
  | 0 => by intros; rename_i h; cases h
  | k + 1 => by intro hd; intros; rename_i h; exact T_211 (k * 3) (KK_211 k) (@TKK_211 k) (by omega) h
def K_211 (a1 : Int32) (M : IM) : Option (Int64 × IM) := KK_211 64 a1 M
theorem TK_211 {X : AX} {d : Nat} (hd : 192 ≤ d)  {a1 : Int32} {M : IM} {x : Int64} {M1 : IM} (h : K_211 a1 M = some (x, M1)) : Rc X d 211 0 [some (.ref (77)), some (.int (a1)), none, none, none, none, none] [] M (some (.long x)) M1 := TKK_211 64 (by omega) h
/-! 212: NineDemandsModel.rules -/
def B_212_23 : (Int32 × IM) → Option ((Int32 × IM) ⊕ (Int32 × IM)) := fun (x2, M) => if (4096 : Int32) ≤ x2 then (some (Sum.inr (x2, M))) else (if inb x2 4096 = true then (some (Sum.inl (x2 + 1, iset M 90 x2.toNatClampNeg (-1)))) else none)
def L_212_23 (x2 : Int32) (M : IM) : Option (Int32 × IM) := loopN (B_212_23) FU (x2, M)
def J_212_43 (M : IM) : Option (Int64 × IM) := (match K_211 (4 : Int32) M with | none => none | some (c7, M7) => (some ((c7, M7))))
def F_212 (a1 : Int32) (M : IM) : Option (Int64 × IM) := if F_161 a1 M = 0 then (match F_156 ((-1000001) : Int32) M with | none => none | some (c2, M2) => (some ((c2.toInt64, M2)))) else (match F_204 a1 M with | none => none | some M3 => (match L_212_23 0 M3 with | none => none | some (x2_6, M6) => (J_212_43 M6)))
theorem TB_212_23 {X : AX} {d : Nat} (hd : 193 ≤ d) {v : Option Value} {M' : IM} : ∀ (s : Int32 × IM) (o : (Int32 × IM) ⊕ (Int32 × IM)), B_212_23 s = some o → (∀ s', o = .inl s' → (fun (x2, M) => Rc X d 212 23 [some (.ref (77)), none, some (.int (x2))] [] M v M') s') → (∀ r, o = .inr r → (fun (x2, M) => Rc X d 212 43 [some (.ref (77)), none, none] [] M v M') r) → (fun (x2, M) => Rc X d 212 23 [some (.ref (77)), none, some (.int (x2))] [] M v M') s := by
  rintro ⟨x2, M⟩ o h hP hE
  show Rc X d 212 23 [some (.ref (77)), none, some (.int (x2))] [] M v M'
  obtain ⟨d, rfl⟩ : ∃ e, d = e + 1 := ⟨d - 1, by omega⟩
  unfold B_212_23 at h
  dsimp only at h hP hE
  refine Rc.run tb_212 2 (pc' := 27) (ls' := [some (.ref (77)), none, some (.int (x2))]) (st' := [.int (4096), .int (x2)]) rfl rfl ?_
  refine Rc.icmp_ge (pc1 := 43) tb_212 rfl rfl (by decide) (by decide) (fun hb5 => ?_) (fun hb5 => ?_)
  · rw [if_pos hb5] at h
    refine Rc.mask (b := 1) ((tb_212.2 43).trans rfl) (ls' := [some (.ref (77)), none, none]) rfl ?_
    obtain rfl := Option.some.inj h
    exact hE _ rfl
  · rw [if_neg hb5] at h
    refine Rc.run tb_212 1 (pc' := 31) (ls' := [some (.ref (77)), none, some (.int (x2))]) (st' := [.ref (77)]) rfl rfl ?_
    refine Rc.getR tb_212 rfl rfl ob_77 (by decide +kernel) tg_77_22 (by decide) ?_
    refine Rc.run tb_212 2 (pc' := 36) (ls' := [some (.ref (77)), none, some (.int (x2))]) (st' := [.int ((-1)), .int (x2), .ref (90)]) rfl rfl ?_
    by_cases hb4 : inb x2 4096 = true
    · rw [if_pos hb4] at h
      refine Rc.iast tb_212 rfl rfl ia_90 hb4 ?_
      refine Rc.run tb_212 2 (pc' := 23) (ls' := [some (.ref (77)), none, some (.int (x2 + 1))]) (st' := []) rfl rfl ?_
      refine Rc.mask (b := 5) ((tb_212.2 23).trans rfl) (ls' := [some (.ref (77)), none, some (.int (x2 + 1))]) rfl ?_
      obtain rfl := Option.some.inj h
      exact hP _ rfl
    · rw [if_neg hb4] at h
      cases h
theorem TL_212_23 {X : AX} {d : Nat} (hd : 193 ≤ d) {x2 : Int32} {M : IM} {v : Option Value} {M' : IM} {r : Int32 × IM} (h : L_212_23 x2 M = some r) (hE : (fun (x2, M) => Rc X d 212 43 [some (.ref (77)), none, none] [] M v M') r) : Rc X d 212 23 [some (.ref (77)), none, some (.int (x2))] [] M v M' := by
  exact loopN_rc (P := fun (x2, M) => Rc X d 212 23 [some (.ref (77)), none, some (.int (x2))] [] M v M') (E := fun (x2, M) => Rc X d 212 43 [some (.ref (77)), none, none] [] M v M') (TB_212_23 (X := X) hd) FU _ r h hE
theorem TJ_212_43 {X : AX} {d : Nat} (hd : 193 ≤ d) {M : IM} {v : Option Value} {M' : IM} {o : Int64 × IM} (h : J_212_43 M = some o) (hC : v = some (.long o.1) ∧ M' = o.2) : Rc X d 212 43 [some (.ref (77)), none, none] [] M v M' := by
  obtain ⟨d, rfl⟩ : ∃ e, d = e + 1 := ⟨d - 1, by omega⟩
  unfold J_212_43 at h
  refine Rc.run tb_212 2 (pc' := 45) (ls' := [some (.ref (77)), none, none]) (st' := [.int (4), .ref (77)]) rfl rfl ?_
  cases hc7 : K_211 (4 : Int32) M with
  | none => rw [hc7] at h; cases h
  | some r7 =>
    obtain ⟨c7, M7⟩ := r7
    rw [hc7] at h
    dsimp only at h
    have hq7 := TK_211 (X := X) (d := d) (by omega) (M := M) hc7
    refine Rc.callV tb_212 rfl rfl rfl mS_211 mP_211 mL_211 mO_211 rfl rfl ob_77 rfl rfl hq7 ?_
    obtain rfl := Option.some.inj h
    obtain ⟨rfl, rfl⟩ := hC
    exact Rc.lret tb_212 rfl mR_212
theorem TF_212 {X : AX} {d : Nat} (hd : 193 ≤ d) {a1 : Int32} {M : IM} {v : Option Value} {M' : IM} {o : Int64 × IM} (h : F_212 a1 M = some o) (hC : v = some (.long o.1) ∧ M' = o.2) : Rc X d 212 0 [some (.ref (77)), some (.int (a1)), none] [] M v M' := by
  obtain ⟨d, rfl⟩ : ∃ e, d = e + 1 := ⟨d - 1, by omega⟩
  unfold F_212 at h
  refine Rc.run tb_212 2 (pc' := 2) (ls' := [some (.ref (77)), some (.int (a1)), none]) (st' := [.int (a1), .ref (77)]) rfl rfl ?_
  have hq1 := T_161 (X := X) (d := d) (by omega) a1 M
  have hz1 := Rc.bool mR_161 hq1
  refine Rc.callV tb_212 rfl rfl rfl mS_161 mP_161 mL_161 mO_161 rfl rfl ob_77 rfl rfl hq1 ?_
  refine Rc.if_ne (pc1 := 16) tb_212 rfl rfl (by decide) (by decide) (fun hb8 => ?_) (fun hb8 => ?_)
  · rw [if_pos hb8] at h
    refine Rc.run tb_212 2 (pc' := 11) (ls' := [some (.ref (77)), some (.int (a1)), none]) (st' := [.int ((-1000001)), .ref (77)]) rfl rfl ?_
    cases hc2 : F_156 ((-1000001) : Int32) M with
    | none => rw [hc2] at h; cases h
    | some r2 =>
      obtain ⟨c2, M2⟩ := r2
      rw [hc2] at h
      dsimp only at h
      have hq2 := T_156 (X := X) (d := d) (by omega) (M := M) hc2
      refine Rc.callV tb_212 rfl rfl rfl mS_156 mP_156 mL_156 mO_156 rfl rfl ob_77 rfl rfl hq2 ?_
      refine Rc.run tb_212 1 (pc' := 15) (ls' := [some (.ref (77)), some (.int (a1)), none]) (st' := [.long (c2.toInt64)]) rfl rfl ?_
      obtain rfl := Option.some.inj h
      obtain ⟨rfl, rfl⟩ := hC
      exact Rc.lret tb_212 rfl mR_212
  · rw [if_neg hb8] at h
    refine Rc.run tb_212 2 (pc' := 18) (ls' := [some (.ref (77)), some (.int (a1)), none]) (st' := [.int (a1), .ref (77)]) rfl rfl ?_
    cases hc3 : F_204 a1 M with
    | none => rw [hc3] at h; cases h
    | some M3 =>
      rw [hc3] at h
      dsimp only at h
      have hq3 := T_204 (X := X) (d := d) (by omega) (M := M) hc3
      refine Rc.callV tb_212 rfl rfl rfl mS_204 mP_204 mL_204 mO_204 rfl rfl ob_77 rfl rfl hq3 ?_
      refine Rc.run tb_212 2 (pc' := 23) (ls' := [some (.ref (77)), some (.int (a1)), some (.int (0))]) (st' := []) rfl rfl ?_
      refine Rc.mask (b := 5) ((tb_212.2 23).trans rfl) (ls' := [some (.ref (77)), none, some (.int (0))]) rfl ?_
      cases hl6 : L_212_23 0 M3 with
      | none => rw [hl6] at h; cases h
      | some r6 =>
        obtain ⟨x2_6, M6⟩ := r6
        rw [hl6] at h
        dsimp only at h
        refine TL_212_23 (X := X) (d := d + 1) (by omega) hl6 ?_
        refine Rc.mask (b := 1) ((tb_212.2 43).trans rfl) (ls' := [some (.ref (77)), none, none]) rfl ?_
        exact TJ_212_43 (X := X) (d := d + 1) (by omega) h hC
theorem T_212 {X : AX} {d : Nat} (hd : 193 ≤ d) {a1 : Int32} {M : IM} {x : Int64} {M1 : IM} (h : F_212 a1 M = some (x, M1)) : Rc X d 212 0 [some (.ref (77)), some (.int (a1)), none] [] M (some (.long x)) M1 := TF_212 hd h ⟨rfl, rfl⟩
/-! 213: NineDemandsModel.may -/
def J_213_15 (M : IM) : Option (Int32 × IM) := (match F_156 ((-1000001) : Int32) M with | none => none | some (c2, M2) => (some ((c2, M2))))
def J_213_81_40 (x2 : Int32) (x3 : Int32) (x5 : Int32) (s0 : Int32) (s1 : Int32) (M : IM) : Option ((Int32 × Int32 × IM) ⊕ (Int32 × Int32 × IM)) := some (Sum.inl (s1 ||| s0, x5 + 1, M))
def B_213_40 (x2 : Int32) (x3 : Int32) : (Int32 × Int32 × IM) → Option ((Int32 × Int32 × IM) ⊕ (Int32 × Int32 × IM)) := fun (x4, x5, M) => if (3 : Int32) < x5 then (some (Sum.inr (x4, x5, M))) else (if inb x2 12 = true then (match K_206 (0 : Int32) (4095 : Int32) (iset M 87 x2.toNatClampNeg (x3 &&& ((1 : Int32) <<< ((x5 - 1) &&& 31)))) with | none => none | some (c5, M5) => (if c5 = 0 then (J_213_81_40 x2 x3 x5 (0 : Int32) x4 M5) else (J_213_81_40 x2 x3 x5 ((1 : Int32) <<< (x5 &&& 31)) x4 M5))) else none)
def L_213_40 (x2 : Int32) (x3 : Int32) (x4 : Int32) (x5 : Int32) (M : IM) : Option (Int32 × Int32 × IM) := loopN (B_213_40 x2 x3) FU (x4, x5, M)
def F_213 (a1 : Int32) (a2 : Int32) (M : IM) : Option (Int32 × IM) := if F_161 a1 M = 0 then (J_213_15 M) else (if F_158 a2 = 0 then (J_213_15 M) else (match F_204 a1 M with | none => none | some M4 => (if inb a2 12 = true then (match L_213_40 a2 (M4 87 a2.toNatClampNeg) 0 1 M4 with | none => none | some (x4_9, x5_9, M9) => (some ((x4_9, M9)))) else none)))
theorem TJ_213_15 {X : AX} {d : Nat} (hd : 129 ≤ d) {M : IM} {v : Option Value} {M' : IM} {o : Int32 × IM} (h : J_213_15 M = some o) (hC : v = some (.int o.1) ∧ M' = o.2) : Rc X d 213 15 [some (.ref (77)), none, none, none, none, none] [] M v M' := by
  obtain ⟨d, rfl⟩ : ∃ e, d = e + 1 := ⟨d - 1, by omega⟩
  unfold J_213_15 at h
  refine Rc.run tb_213 2 (pc' := 18) (ls' := [some (.ref (77)), none, none, none, none, none]) (st' := [.int ((-1000001)), .ref (77)]) rfl rfl ?_
  cases hc2 : F_156 ((-1000001) : Int32) M with
  | none => rw [hc2] at h; cases h
  | some r2 =>
    obtain ⟨c2, M2⟩ := r2
    rw [hc2] at h
    dsimp only at h
    have hq2 := T_156 (X := X) (d := d) (by omega) (M := M) hc2
    refine Rc.callV tb_213 rfl rfl rfl mS_156 mP_156 mL_156 mO_156 rfl rfl ob_77 rfl rfl hq2 ?_
    obtain rfl := Option.some.inj h
    obtain ⟨rfl, rfl⟩ := hC
    exact Rc.iret (ins := .ireturn) tb_213 rfl mR_213
theorem TJ_213_81_40 {X : AX} {d : Nat} (hd : 129 ≤ d) {x2 : Int32} {x3 : Int32} {x5 : Int32} {s0 : Int32} {s1 : Int32} {M : IM} {v : Option Value} {M' : IM} {o : (Int32 × Int32 × IM) ⊕ (Int32 × Int32 × IM)} (h : J_213_81_40 x2 x3 x5 s0 s1 M = some o) (hP : ∀ s', o = .inl s' → (fun (x4, x5, M) => Rc X d 213 40 [some (.ref (77)), none, some (.int (x2)), some (.int (x3)), some (.int (x4)), some (.int (x5))] [] M v M') s') (hE : ∀ r, o = .inr r → (fun (x4, x5, M) => Rc X d 213 90 [none, none, none, none, some (.int (x4)), none] [] M v M') r) : Rc X d 213 81 [some (.ref (77)), none, some (.int (x2)), some (.int (x3)), none, some (.int (x5))] [.int (s0), .int (s1)] M v M' := by
  obtain ⟨d, rfl⟩ : ∃ e, d = e + 1 := ⟨d - 1, by omega⟩
  unfold J_213_81_40 at h
  dsimp only at hP hE
  refine Rc.run tb_213 4 (pc' := 40) (ls' := [some (.ref (77)), none, some (.int (x2)), some (.int (x3)), some (.int (s1 ||| s0)), some (.int (x5 + 1))]) (st' := []) rfl rfl ?_
  refine Rc.mask (b := 61) ((tb_213.2 40).trans rfl) (ls' := [some (.ref (77)), none, some (.int (x2)), some (.int (x3)), some (.int (s1 ||| s0)), some (.int (x5 + 1))]) rfl ?_
  obtain rfl := Option.some.inj h
  exact hP _ rfl
theorem TB_213_40 {X : AX} {d : Nat} (hd : 129 ≤ d) {x2 : Int32} {x3 : Int32} {v : Option Value} {M' : IM} : ∀ (s : Int32 × Int32 × IM) (o : (Int32 × Int32 × IM) ⊕ (Int32 × Int32 × IM)), B_213_40 x2 x3 s = some o → (∀ s', o = .inl s' → (fun (x4, x5, M) => Rc X d 213 40 [some (.ref (77)), none, some (.int (x2)), some (.int (x3)), some (.int (x4)), some (.int (x5))] [] M v M') s') → (∀ r, o = .inr r → (fun (x4, x5, M) => Rc X d 213 90 [none, none, none, none, some (.int (x4)), none] [] M v M') r) → (fun (x4, x5, M) => Rc X d 213 40 [some (.ref (77)), none, some (.int (x2)), some (.int (x3)), some (.int (x4)), some (.int (x5))] [] M v M') s := by
  rintro ⟨x4, x5, M⟩ o h hP hE
  show Rc X d 213 40 [some (.ref (77)), none, some (.int (x2)), some (.int (x3)), some (.int (x4)), some (.int (x5))] [] M v M'
  obtain ⟨d, rfl⟩ : ∃ e, d = e + 1 := ⟨d - 1, by omega⟩
  unfold B_213_40 at h
  dsimp only at h hP hE
  refine Rc.run tb_213 2 (pc' := 43) (ls' := [some (.ref (77)), none, some (.int (x2)), some (.int (x3)), some (.int (x4)), some (.int (x5))]) (st' := [.int (3), .int (x5)]) rfl rfl ?_
  refine Rc.icmp_gt (pc1 := 90) tb_213 rfl rfl (by decide) (by decide) (fun hb8 => ?_) (fun hb8 => ?_)
  · rw [if_pos hb8] at h
    refine Rc.mask (b := 16) ((tb_213.2 90).trans rfl) (ls' := [none, none, none, none, some (.int (x4)), none]) rfl ?_
    obtain rfl := Option.some.inj h
    exact hE _ rfl
  · rw [if_neg hb8] at h
    refine Rc.run tb_213 1 (pc' := 47) (ls' := [some (.ref (77)), none, some (.int (x2)), some (.int (x3)), some (.int (x4)), some (.int (x5))]) (st' := [.ref (77)]) rfl rfl ?_
    refine Rc.getR tb_213 rfl rfl ob_77 (by decide +kernel) tg_77_19 (by decide) ?_
    refine Rc.run tb_213 8 (pc' := 59) (ls' := [some (.ref (77)), none, some (.int (x2)), some (.int (x3)), some (.int (x4)), some (.int (x5))]) (st' := [.int (x3 &&& ((1 : Int32) <<< ((x5 - 1) &&& 31))), .int (x2), .ref (87)]) rfl rfl ?_
    by_cases hb7 : inb x2 12 = true
    · rw [if_pos hb7] at h
      refine Rc.iast tb_213 rfl rfl ia_87 hb7 ?_
      refine Rc.run tb_213 4 (pc' := 67) (ls' := [some (.ref (77)), none, some (.int (x2)), some (.int (x3)), some (.int (x4)), some (.int (x5))]) (st' := [.int (4095), .int (0), .ref (77), .int (x4)]) rfl rfl ?_
      cases hc5 : K_206 (0 : Int32) (4095 : Int32) (iset M 87 x2.toNatClampNeg (x3 &&& ((1 : Int32) <<< ((x5 - 1) &&& 31)))) with
      | none => rw [hc5] at h; cases h
      | some r5 =>
        obtain ⟨c5, M5⟩ := r5
        rw [hc5] at h
        dsimp only at h
        have hq5 := TK_206 (X := X) (d := d) (by omega) (M := iset M 87 x2.toNatClampNeg (x3 &&& ((1 : Int32) <<< ((x5 - 1) &&& 31)))) hc5
        have hz5 := Rc.bool mR_206 hq5
        refine Rc.callV tb_213 rfl rfl rfl mS_206 mP_206 mL_206 mO_206 rfl rfl ob_77 rfl rfl hq5 ?_
        refine Rc.if_eq (pc1 := 80) tb_213 rfl rfl (by decide) (by decide) (fun hb6 => ?_) (fun hb6 => ?_)
        · rw [if_pos hb6] at h
          refine Rc.run tb_213 1 (pc' := 81) (ls' := [some (.ref (77)), none, some (.int (x2)), some (.int (x3)), some (.int (x4)), some (.int (x5))]) (st' := [.int (0), .int (x4)]) rfl rfl ?_
          refine Rc.mask (b := 45) ((tb_213.2 81).trans rfl) (ls' := [some (.ref (77)), none, some (.int (x2)), some (.int (x3)), none, some (.int (x5))]) rfl ?_
          exact TJ_213_81_40 (X := X) (d := d + 1) (by omega) h hP hE
        · rw [if_neg hb6] at h
          refine Rc.run tb_213 4 (pc' := 81) (ls' := [some (.ref (77)), none, some (.int (x2)), some (.int (x3)), some (.int (x4)), some (.int (x5))]) (st' := [.int ((1 : Int32) <<< (x5 &&& 31)), .int (x4)]) rfl rfl ?_
          refine Rc.mask (b := 45) ((tb_213.2 81).trans rfl) (ls' := [some (.ref (77)), none, some (.int (x2)), some (.int (x3)), none, some (.int (x5))]) rfl ?_
          exact TJ_213_81_40 (X := X) (d := d + 1) (by omega) h hP hE
    · rw [if_neg hb7] at h
      cases h
theorem TL_213_40 {X : AX} {d : Nat} (hd : 129 ≤ d) {x2 : Int32} {x3 : Int32} {x4 : Int32} {x5 : Int32} {M : IM} {v : Option Value} {M' : IM} {r : Int32 × Int32 × IM} (h : L_213_40 x2 x3 x4 x5 M = some r) (hE : (fun (x4, x5, M) => Rc X d 213 90 [none, none, none, none, some (.int (x4)), none] [] M v M') r) : Rc X d 213 40 [some (.ref (77)), none, some (.int (x2)), some (.int (x3)), some (.int (x4)), some (.int (x5))] [] M v M' := by
  exact loopN_rc (P := fun (x4, x5, M) => Rc X d 213 40 [some (.ref (77)), none, some (.int (x2)), some (.int (x3)), some (.int (x4)), some (.int (x5))] [] M v M') (E := fun (x4, x5, M) => Rc X d 213 90 [none, none, none, none, some (.int (x4)), none] [] M v M') (TB_213_40 (X := X) hd) FU _ r h hE
theorem TF_213 {X : AX} {d : Nat} (hd : 129 ≤ d) {a1 : Int32} {a2 : Int32} {M : IM} {v : Option Value} {M' : IM} {o : Int32 × IM} (h : F_213 a1 a2 M = some o) (hC : v = some (.int o.1) ∧ M' = o.2) : Rc X d 213 0 [some (.ref (77)), some (.int (a1)), some (.int (a2)), none, none, none] [] M v M' := by
  obtain ⟨d, rfl⟩ : ∃ e, d = e + 1 := ⟨d - 1, by omega⟩
  unfold F_213 at h
  refine Rc.run tb_213 2 (pc' := 2) (ls' := [some (.ref (77)), some (.int (a1)), some (.int (a2)), none, none, none]) (st' := [.int (a1), .ref (77)]) rfl rfl ?_
  have hq1 := T_161 (X := X) (d := d) (by omega) a1 M
  have hz1 := Rc.bool mR_161 hq1
  refine Rc.callV tb_213 rfl rfl rfl mS_161 mP_161 mL_161 mO_161 rfl rfl ob_77 rfl rfl hq1 ?_
  refine Rc.if_eq (pc1 := 15) tb_213 rfl rfl (by decide) (by decide) (fun hb12 => ?_) (fun hb12 => ?_)
  · rw [if_pos hb12] at h
    refine Rc.mask (b := 1) ((tb_213.2 15).trans rfl) (ls' := [some (.ref (77)), none, none, none, none, none]) rfl ?_
    exact TJ_213_15 (X := X) (d := d + 1) (by omega) h hC
  · rw [if_neg hb12] at h
    refine Rc.run tb_213 1 (pc' := 9) (ls' := [some (.ref (77)), some (.int (a1)), some (.int (a2)), none, none, none]) (st' := [.int (a2)]) rfl rfl ?_
    have hq3 := T_158 (X := X) (d := d) (by omega) a2 M
    have hz3 := Rc.bool mR_158 hq3
    refine Rc.callS tb_213 rfl rfl rfl mS_158 mP_158 mL_158 rfl rfl rfl hq3 ?_
    refine Rc.if_ne (pc1 := 22) tb_213 rfl rfl (by decide) (by decide) (fun hb11 => ?_) (fun hb11 => ?_)
    · rw [if_pos hb11] at h
      refine Rc.mask (b := 1) ((tb_213.2 15).trans rfl) (ls' := [some (.ref (77)), none, none, none, none, none]) rfl ?_
      exact TJ_213_15 (X := X) (d := d + 1) (by omega) h hC
    · rw [if_neg hb11] at h
      refine Rc.run tb_213 2 (pc' := 24) (ls' := [some (.ref (77)), some (.int (a1)), some (.int (a2)), none, none, none]) (st' := [.int (a1), .ref (77)]) rfl rfl ?_
      cases hc4 : F_204 a1 M with
      | none => rw [hc4] at h; cases h
      | some M4 =>
        rw [hc4] at h
        dsimp only at h
        have hq4 := T_204 (X := X) (d := d) (by omega) (M := M) hc4
        refine Rc.callV tb_213 rfl rfl rfl mS_204 mP_204 mL_204 mO_204 rfl rfl ob_77 rfl rfl hq4 ?_
        refine Rc.run tb_213 1 (pc' := 28) (ls' := [some (.ref (77)), some (.int (a1)), some (.int (a2)), none, none, none]) (st' := [.ref (77)]) rfl rfl ?_
        refine Rc.getR tb_213 rfl rfl ob_77 (by decide +kernel) tg_77_19 (by decide) ?_
        refine Rc.run tb_213 1 (pc' := 32) (ls' := [some (.ref (77)), some (.int (a1)), some (.int (a2)), none, none, none]) (st' := [.int (a2), .ref (87)]) rfl rfl ?_
        by_cases hb10 : inb a2 12 = true
        · rw [if_pos hb10] at h
          refine Rc.iald tb_213 rfl rfl ia_87 hb10 ?_
          refine Rc.run tb_213 5 (pc' := 40) (ls' := [some (.ref (77)), some (.int (a1)), some (.int (a2)), some (.int (M4 87 a2.toNatClampNeg)), some (.int (0)), some (.int (1))]) (st' := []) rfl rfl ?_
          refine Rc.mask (b := 61) ((tb_213.2 40).trans rfl) (ls' := [some (.ref (77)), none, some (.int (a2)), some (.int (M4 87 a2.toNatClampNeg)), some (.int (0)), some (.int (1))]) rfl ?_
          cases hl9 : L_213_40 a2 (M4 87 a2.toNatClampNeg) 0 1 M4 with
          | none => rw [hl9] at h; cases h
          | some r9 =>
            obtain ⟨x4_9, x5_9, M9⟩ := r9
            rw [hl9] at h
            dsimp only at h
            refine TL_213_40 (X := X) (d := d + 1) (by omega) hl9 ?_
            refine Rc.run tb_213 1 (pc' := 92) (ls' := [none, none, none, none, some (.int (x4_9)), none]) (st' := [.int (x4_9)]) rfl rfl ?_
            obtain rfl := Option.some.inj h
            obtain ⟨rfl, rfl⟩ := hC
            exact Rc.iret (ins := .ireturn) tb_213 rfl mR_213
        · rw [if_neg hb10] at h
          cases h
theorem T_213 {X : AX} {d : Nat} (hd : 129 ≤ d) {a1 : Int32} {a2 : Int32} {M : IM} {x : Int32} {M1 : IM} (h : F_213 a1 a2 M = some (x, M1)) : Rc X d 213 0 [some (.ref (77)), some (.int (a1)), some (.int (a2)), none, none, none] [] M (some (.int x)) M1 := TF_213 hd h ⟨rfl, rfl⟩
/-! 214: NineDemandsModel.seekNear -/
def J_214_75_10 (rk : Int32 → Int32 → IM → Option (Int32 × IM)) (x1 : Int32) (x2 : Int32) (x3 : Int32) (M : IM) : Option ((Int32 × IM) ⊕ ((Int32 × IM) ⊕ (Int32 × IM))) := some (Sum.inl (x3 + 1, M))
def J_214_35_10 (rk : Int32 → Int32 → IM → Option (Int32 × IM)) (x1 : Int32) (x2 : Int32) (x3 : Int32) (s0 : Int32) (M : IM) : Option ((Int32 × IM) ⊕ ((Int32 × IM) ⊕ (Int32 × IM))) := if s0 < 0 then (J_214_75_10 rk x1 x2 x3 M) else (match F_205 x1 x3 (4095 : Int32) M with | none => none | some c1 => (if c1 = 0 then (J_214_75_10 rk x1 x2 x3 M) else (if inb x1 12 = true then (match rk (x1 + 1) s0 (iset M 89 x1.toNatClampNeg x3) with | none => none | some (c2, M2) => (if c2 = 0 then (J_214_75_10 rk x1 x2 x3 M2) else (some (Sum.inr (Sum.inr (1, M2)))))) else none)))
def B_214_10 (rk : Int32 → Int32 → IM → Option (Int32 × IM)) (x1 : Int32) (x2 : Int32) : (Int32 × IM) → Option ((Int32 × IM) ⊕ ((Int32 × IM) ⊕ (Int32 × IM))) := fun (x3, M) => if (3 : Int32) < x3 then (some (Sum.inr (Sum.inl (x3, M)))) else (if inb (10 + x1) 366 = true then (if x3 = M 78 (10 + x1).toNatClampNeg then (J_214_35_10 rk x1 x2 x3 x2 M) else (J_214_35_10 rk x1 x2 x3 (x2 - 1) M)) else none)
def L_214_10 (rk : Int32 → Int32 → IM → Option (Int32 × IM)) (x1 : Int32) (x2 : Int32) (x3 : Int32) (M : IM) : Option ((Int32 × IM) ⊕ (Int32 × IM)) := loopN (B_214_10 rk x1 x2) FU (x3, M)
def F_214 (rk : Int32 → Int32 → IM → Option (Int32 × IM)) (a1 : Int32) (a2 : Int32) (M : IM) : Option (Int32 × IM) := if a1 = 12 then (some ((1, M))) else (match L_214_10 rk a1 a2 1 M with | none => none | some (.inl (x3_10, M10)) => (some ((0, M10))) | some (.inr q) => some (q))
theorem TJ_214_75_10 (Dk : Nat) (rk : Int32 → Int32 → IM → Option (Int32 × IM)) (Hk : ∀ {X : AX} {d : Nat}, Dk ≤ d → ∀ {a1 : Int32} {a2 : Int32} {M : IM} {x : Int32} {M1 : IM}, rk a1 a2 M = some (x, M1) → Rc X d 214 0 [some (.ref (77)), some (.int (a1)), some (.int (a2)), none, none] [] M (some (.int x)) M1) {X : AX} {d : Nat} (hd : Dk + 2 ≤ d) {x1 : Int32} {x2 : Int32} {x3 : Int32} {M : IM} {v : Option Value} {M' : IM} {o : (Int32 × IM) ⊕ ((Int32 × IM) ⊕ (Int32 × IM))} (h : J_214_75_10 rk x1 x2 x3 M = some o) (hP : ∀ s', o = .inl s' → (fun (x3, M) => Rc X d 214 10 [some (.ref (77)), some (.int (x1)), some (.int (x2)), some (.int (x3)), none] [] M v M') s') (hE : ∀ r, o = .inr r → (fun r => match r with | .inl (x3, M) => Rc X d 214 81 [none, none, none, none, none] [] M v M' | .inr q => v = some (.int q.1) ∧ M' = q.2) r) : Rc X d 214 75 [some (.ref (77)), some (.int (x1)), some (.int (x2)), some (.int (x3)), none] [] M v M' := by
  obtain ⟨d, rfl⟩ : ∃ e, d = e + 1 := ⟨d - 1, by omega⟩
  unfold J_214_75_10 at h
  dsimp only at hP hE
  refine Rc.run tb_214 2 (pc' := 10) (ls' := [some (.ref (77)), some (.int (x1)), some (.int (x2)), some (.int (x3 + 1)), none]) (st' := []) rfl rfl ?_
  refine Rc.mask (b := 15) ((tb_214.2 10).trans rfl) (ls' := [some (.ref (77)), some (.int (x1)), some (.int (x2)), some (.int (x3 + 1)), none]) rfl ?_
  obtain rfl := Option.some.inj h
  exact hP _ rfl
theorem TJ_214_35_10 (Dk : Nat) (rk : Int32 → Int32 → IM → Option (Int32 × IM)) (Hk : ∀ {X : AX} {d : Nat}, Dk ≤ d → ∀ {a1 : Int32} {a2 : Int32} {M : IM} {x : Int32} {M1 : IM}, rk a1 a2 M = some (x, M1) → Rc X d 214 0 [some (.ref (77)), some (.int (a1)), some (.int (a2)), none, none] [] M (some (.int x)) M1) {X : AX} {d : Nat} (hd : Dk + 2 ≤ d) {x1 : Int32} {x2 : Int32} {x3 : Int32} {s0 : Int32} {M : IM} {v : Option Value} {M' : IM} {o : (Int32 × IM) ⊕ ((Int32 × IM) ⊕ (Int32 × IM))} (h : J_214_35_10 rk x1 x2 x3 s0 M = some o) (hP : ∀ s', o = .inl s' → (fun (x3, M) => Rc X d 214 10 [some (.ref (77)), some (.int (x1)), some (.int (x2)), some (.int (x3)), none] [] M v M') s') (hE : ∀ r, o = .inr r → (fun r => match r with | .inl (x3, M) => Rc X d 214 81 [none, none, none, none, none] [] M v M' | .inr q => v = some (.int q.1) ∧ M' = q.2) r) : Rc X d 214 35 [some (.ref (77)), some (.int (x1)), some (.int (x2)), some (.int (x3)), none] [.int (s0)] M v M' := by
  obtain ⟨d, rfl⟩ : ∃ e, d = e + 1 := ⟨d - 1, by omega⟩
  unfold J_214_35_10 at h
  dsimp only at hP hE
  refine Rc.run tb_214 2 (pc' := 39) (ls' := [some (.ref (77)), some (.int (x1)), some (.int (x2)), some (.int (x3)), some (.int (s0))]) (st' := [.int (s0)]) rfl rfl ?_
  refine Rc.if_lt (pc1 := 75) tb_214 rfl rfl (by decide) (by decide) (fun hb6 => ?_) (fun hb6 => ?_)
  · rw [if_pos hb6] at h
    refine Rc.mask (b := 15) ((tb_214.2 75).trans rfl) (ls' := [some (.ref (77)), some (.int (x1)), some (.int (x2)), some (.int (x3)), none]) rfl ?_
    exact TJ_214_75_10 Dk rk Hk (X := X) (d := d + 1) (by omega) h hP hE
  · rw [if_neg hb6] at h
    refine Rc.run tb_214 4 (pc' := 48) (ls' := [some (.ref (77)), some (.int (x1)), some (.int (x2)), some (.int (x3)), some (.int (s0))]) (st' := [.int (4095), .int (x3), .int (x1), .ref (77)]) rfl rfl ?_
    cases hc1 : F_205 x1 x3 (4095 : Int32) M with
    | none => rw [hc1] at h; cases h
    | some c1 =>
      rw [hc1] at h
      dsimp only at h
      have hq1 := T_205 (X := X) (d := d) (by omega) (M := M) hc1
      have hz1 := Rc.bool mR_205 hq1
      refine Rc.callV tb_214 rfl rfl rfl mS_205 mP_205 mL_205 mO_205 rfl rfl ob_77 rfl rfl hq1 ?_
      refine Rc.if_eq (pc1 := 75) tb_214 rfl rfl (by decide) (by decide) (fun hb5 => ?_) (fun hb5 => ?_)
      · rw [if_pos hb5] at h
        refine Rc.mask (b := 15) ((tb_214.2 75).trans rfl) (ls' := [some (.ref (77)), some (.int (x1)), some (.int (x2)), some (.int (x3)), none]) rfl ?_
        exact TJ_214_75_10 Dk rk Hk (X := X) (d := d + 1) (by omega) h hP hE
      · rw [if_neg hb5] at h
        refine Rc.run tb_214 1 (pc' := 55) (ls' := [some (.ref (77)), some (.int (x1)), some (.int (x2)), some (.int (x3)), some (.int (s0))]) (st' := [.ref (77)]) rfl rfl ?_
        refine Rc.getR tb_214 rfl rfl ob_77 (by decide +kernel) tg_77_21 (by decide) ?_
        refine Rc.run tb_214 2 (pc' := 60) (ls' := [some (.ref (77)), some (.int (x1)), some (.int (x2)), some (.int (x3)), some (.int (s0))]) (st' := [.int (x3), .int (x1), .ref (89)]) rfl rfl ?_
        by_cases hb4 : inb x1 12 = true
        · rw [if_pos hb4] at h
          refine Rc.iast tb_214 rfl rfl ia_89 hb4 ?_
          refine Rc.run tb_214 5 (pc' := 67) (ls' := [some (.ref (77)), some (.int (x1)), some (.int (x2)), some (.int (x3)), some (.int (s0))]) (st' := [.int (s0), .int (x1 + 1), .ref (77)]) rfl rfl ?_
          cases hc2 : rk (x1 + 1) s0 (iset M 89 x1.toNatClampNeg x3) with
          | none => rw [hc2] at h; cases h
          | some r2 =>
            obtain ⟨c2, M2⟩ := r2
            rw [hc2] at h
            dsimp only at h
            have hq2 := Hk (X := X) (d := d) (by omega) (M := iset M 89 x1.toNatClampNeg x3) hc2
            have hz2 := Rc.bool mR_214 hq2
            refine Rc.callV tb_214 rfl rfl rfl mS_214 mP_214 mL_214 mO_214 rfl rfl ob_77 rfl rfl hq2 ?_
            refine Rc.if_eq (pc1 := 75) tb_214 rfl rfl (by decide) (by decide) (fun hb3 => ?_) (fun hb3 => ?_)
            · rw [if_pos hb3] at h
              refine Rc.mask (b := 15) ((tb_214.2 75).trans rfl) (ls' := [some (.ref (77)), some (.int (x1)), some (.int (x2)), some (.int (x3)), none]) rfl ?_
              exact TJ_214_75_10 Dk rk Hk (X := X) (d := d + 1) (by omega) h hP hE
            · rw [if_neg hb3] at h
              refine Rc.run tb_214 1 (pc' := 74) (ls' := [some (.ref (77)), some (.int (x1)), some (.int (x2)), some (.int (x3)), some (.int (s0))]) (st' := [.int (1)]) rfl rfl ?_
              obtain rfl := Option.some.inj h
              obtain ⟨rfl, rfl⟩ := hE _ rfl
              exact Rc.zret tb_214 rfl mR_214 (Or.inr rfl)
        · rw [if_neg hb4] at h
          cases h
theorem TB_214_10 (Dk : Nat) (rk : Int32 → Int32 → IM → Option (Int32 × IM)) (Hk : ∀ {X : AX} {d : Nat}, Dk ≤ d → ∀ {a1 : Int32} {a2 : Int32} {M : IM} {x : Int32} {M1 : IM}, rk a1 a2 M = some (x, M1) → Rc X d 214 0 [some (.ref (77)), some (.int (a1)), some (.int (a2)), none, none] [] M (some (.int x)) M1) {X : AX} {d : Nat} (hd : Dk + 2 ≤ d) {x1 : Int32} {x2 : Int32} {v : Option Value} {M' : IM} : ∀ (s : Int32 × IM) (o : (Int32 × IM) ⊕ ((Int32 × IM) ⊕ (Int32 × IM))), B_214_10 rk x1 x2 s = some o → (∀ s', o = .inl s' → (fun (x3, M) => Rc X d 214 10 [some (.ref (77)), some (.int (x1)), some (.int (x2)), some (.int (x3)), none] [] M v M') s') → (∀ r, o = .inr r → (fun r => match r with | .inl (x3, M) => Rc X d 214 81 [none, none, none, none, none] [] M v M' | .inr q => v = some (.int q.1) ∧ M' = q.2) r) → (fun (x3, M) => Rc X d 214 10 [some (.ref (77)), some (.int (x1)), some (.int (x2)), some (.int (x3)), none] [] M v M') s := by
  rintro ⟨x3, M⟩ o h hP hE
  show Rc X d 214 10 [some (.ref (77)), some (.int (x1)), some (.int (x2)), some (.int (x3)), none] [] M v M'
  obtain ⟨d, rfl⟩ : ∃ e, d = e + 1 := ⟨d - 1, by omega⟩
  unfold B_214_10 at h
  dsimp only at h hP hE
  refine Rc.run tb_214 2 (pc' := 12) (ls' := [some (.ref (77)), some (.int (x1)), some (.int (x2)), some (.int (x3)), none]) (st' := [.int (3), .int (x3)]) rfl rfl ?_
  refine Rc.icmp_gt (pc1 := 81) tb_214 rfl rfl (by decide) (by decide) (fun hb9 => ?_) (fun hb9 => ?_)
  · rw [if_pos hb9] at h
    refine Rc.mask (b := 0) ((tb_214.2 81).trans rfl) (ls' := [none, none, none, none, none]) rfl ?_
    obtain rfl := Option.some.inj h
    exact hE _ rfl
  · rw [if_neg hb9] at h
    refine Rc.run tb_214 2 (pc' := 17) (ls' := [some (.ref (77)), some (.int (x1)), some (.int (x2)), some (.int (x3)), none]) (st' := [.ref (77), .int (x3)]) rfl rfl ?_
    refine Rc.getR tb_214 rfl rfl ob_77 (by decide +kernel) tg_77_0 (by decide) ?_
    refine Rc.run tb_214 3 (pc' := 24) (ls' := [some (.ref (77)), some (.int (x1)), some (.int (x2)), some (.int (x3)), none]) (st' := [.int (10 + x1), .ref (78), .int (x3)]) rfl rfl ?_
    by_cases hb8 : inb (10 + x1) 366 = true
    · rw [if_pos hb8] at h
      refine Rc.iald tb_214 rfl rfl ia_78 hb8 ?_
      refine Rc.icmp_ne (pc1 := 32) tb_214 rfl rfl (by decide) (by decide) (fun hb7 => ?_) (fun hb7 => ?_)
      · rw [if_pos hb7] at h
        refine Rc.run tb_214 2 (pc' := 35) (ls' := [some (.ref (77)), some (.int (x1)), some (.int (x2)), some (.int (x3)), none]) (st' := [.int (x2)]) rfl rfl ?_
        refine Rc.mask (b := 15) ((tb_214.2 35).trans rfl) (ls' := [some (.ref (77)), some (.int (x1)), some (.int (x2)), some (.int (x3)), none]) rfl ?_
        exact TJ_214_35_10 Dk rk Hk (X := X) (d := d + 1) (by omega) h hP hE
      · rw [if_neg hb7] at h
        refine Rc.run tb_214 3 (pc' := 35) (ls' := [some (.ref (77)), some (.int (x1)), some (.int (x2)), some (.int (x3)), none]) (st' := [.int (x2 - 1)]) rfl rfl ?_
        refine Rc.mask (b := 15) ((tb_214.2 35).trans rfl) (ls' := [some (.ref (77)), some (.int (x1)), some (.int (x2)), some (.int (x3)), none]) rfl ?_
        exact TJ_214_35_10 Dk rk Hk (X := X) (d := d + 1) (by omega) h hP hE
    · rw [if_neg hb8] at h
      cases h
theorem TL_214_10 (Dk : Nat) (rk : Int32 → Int32 → IM → Option (Int32 × IM)) (Hk : ∀ {X : AX} {d : Nat}, Dk ≤ d → ∀ {a1 : Int32} {a2 : Int32} {M : IM} {x : Int32} {M1 : IM}, rk a1 a2 M = some (x, M1) → Rc X d 214 0 [some (.ref (77)), some (.int (a1)), some (.int (a2)), none, none] [] M (some (.int x)) M1) {X : AX} {d : Nat} (hd : Dk + 2 ≤ d) {x1 : Int32} {x2 : Int32} {x3 : Int32} {M : IM} {v : Option Value} {M' : IM} {r : (Int32 × IM) ⊕ (Int32 × IM)} (h : L_214_10 rk x1 x2 x3 M = some r) (hE : (fun r => match r with | .inl (x3, M) => Rc X d 214 81 [none, none, none, none, none] [] M v M' | .inr q => v = some (.int q.1) ∧ M' = q.2) r) : Rc X d 214 10 [some (.ref (77)), some (.int (x1)), some (.int (x2)), some (.int (x3)), none] [] M v M' := by
  exact loopN_rc (P := fun (x3, M) => Rc X d 214 10 [some (.ref (77)), some (.int (x1)), some (.int (x2)), some (.int (x3)), none] [] M v M') (E := fun r => match r with | .inl (x3, M) => Rc X d 214 81 [none, none, none, none, none] [] M v M' | .inr q => v = some (.int q.1) ∧ M' = q.2) (TB_214_10 Dk rk Hk (X := X) hd) FU _ r h hE
theorem TF_214 (Dk : Nat) (rk : Int32 → Int32 → IM → Option (Int32 × IM)) (Hk : ∀ {X : AX} {d : Nat}, Dk ≤ d → ∀ {a1 : Int32} {a2 : Int32} {M : IM} {x : Int32} {M1 : IM}, rk a1 a2 M = some (x, M1) → Rc X d 214 0 [some (.ref (77)), some (.int (a1)), some (.int (a2)), none, none] [] M (some (.int x)) M1) {X : AX} {d : Nat} (hd : Dk + 2 ≤ d) {a1 : Int32} {a2 : Int32} {M : IM} {v : Option Value} {M' : IM} {o : Int32 × IM} (h : F_214 rk a1 a2 M = some o) (hC : v = some (.int o.1) ∧ M' = o.2) : Rc X d 214 0 [some (.ref (77)), some (.int (a1)), some (.int (a2)), none, none] [] M v M' := by
  obtain ⟨d, rfl⟩ : ∃ e, d = e + 1 := ⟨d - 1, by omega⟩
  unfold F_214 at h
  refine Rc.run tb_214 2 (pc' := 3) (ls' := [some (.ref (77)), some (.int (a1)), some (.int (a2)), none, none]) (st' := [.int (12), .int (a1)]) rfl rfl ?_
  refine Rc.icmp_ne (pc1 := 8) tb_214 rfl rfl (by decide) (by decide) (fun hb11 => ?_) (fun hb11 => ?_)
  · rw [if_pos hb11] at h
    refine Rc.run tb_214 1 (pc' := 7) (ls' := [some (.ref (77)), some (.int (a1)), some (.int (a2)), none, none]) (st' := [.int (1)]) rfl rfl ?_
    obtain rfl := Option.some.inj h
    obtain ⟨rfl, rfl⟩ := hC
    exact Rc.zret tb_214 rfl mR_214 (Or.inr rfl)
  · rw [if_neg hb11] at h
    refine Rc.run tb_214 2 (pc' := 10) (ls' := [some (.ref (77)), some (.int (a1)), some (.int (a2)), some (.int (1)), none]) (st' := []) rfl rfl ?_
    refine Rc.mask (b := 15) ((tb_214.2 10).trans rfl) (ls' := [some (.ref (77)), some (.int (a1)), some (.int (a2)), some (.int (1)), none]) rfl ?_
    cases hl10 : L_214_10 rk a1 a2 1 M with
    | none => rw [hl10] at h; cases h
    | some rr10 =>
      rw [hl10] at h
      cases rr10 with
      | inl r10 =>
        obtain ⟨x3_10, M10⟩ := r10
        dsimp only at h
        refine TL_214_10 Dk rk Hk (X := X) (d := d + 1) (by omega) hl10 ?_
        refine Rc.run tb_214 1 (pc' := 82) (ls' := [none, none, none, none, none]) (st' := [.int (0)]) rfl rfl ?_
        obtain rfl := Option.some.inj h
        obtain ⟨rfl, rfl⟩ := hC
        exact Rc.zret tb_214 rfl mR_214 (Or.inl rfl)
      | inr q =>
        dsimp only at h
        refine TL_214_10 Dk rk Hk (X := X) (d := d + 1) (by omega) hl10 ?_
        obtain rfl := Option.some.inj h
        obtain ⟨rfl, rfl⟩ := hC
        exact ⟨rfl, rfl⟩
theorem T_214 (Dk : Nat) (rk : Int32 → Int32 → IM → Option (Int32 × IM)) (Hk : ∀ {X : AX} {d : Nat}, Dk ≤ d → ∀ {a1 : Int32} {a2 : Int32} {M : IM} {x : Int32} {M1 : IM}, rk a1 a2 M = some (x, M1) → Rc X d 214 0 [some (.ref (77)), some (.int (a1)), some (.int (a2)), none, none] [] M (some (.int x)) M1) {X : AX} {d : Nat} (hd : Dk + 2 ≤ d) {a1 : Int32} {a2 : Int32} {M : IM} {x : Int32} {M1 : IM} (h : F_214 rk a1 a2 M = some (x, M1)) : Rc X d 214 0 [some (.ref (77)), some (.int (a1)), some (.int (a2)), none, none] [] M (some (.int x)) M1 := TF_214 Dk rk Hk hd h ⟨rfl, rfl⟩
def KK_214 : Nat → Int32 → Int32 → IM → Option (Int32 × IM)
  | 0, _, _, _ => none
  | k + 1, a1, a2, M => F_214 (KK_214 k) a1 a2 M
theorem TKK_214 : ∀ (k : Nat), ∀ {X : AX} {d : Nat}, k * 2 ≤ d → ∀ {a1 : Int32} {a2 : Int32} {M : IM} {x : Int32} {M1 : IM}, KK_214 k a1 a2 M = some (x, M1) → Rc X d 214 0 [some (.ref (77)), some (.int (a1)), some (.int (a2)), none, none] [] M (some (.int x)) M1
  | 0 => by intros; rename_i h; cases h
  | k + 1 => by intro hd; intros; rename_i h; exact T_214 (k * 2) (KK_214 k) (@TKK_214 k) (by omega) h
def K_214 (a1 : Int32) (a2 : Int32) (M : IM) : Option (Int32 × IM) := KK_214 64 a1 a2 M
theorem TK_214 {X : AX} {d : Nat} (hd : 128 ≤ d)  {a1 : Int32} {a2 : Int32} {M : IM} {x : Int32} {M1 : IM} (h : K_214 a1 a2 M = some (x, M1)) : Rc X d 214 0 [some (.ref (77)), some (.int (a1)), some (.int (a2)), none, none] [] M (some (.int x)) M1 := TKK_214 64 (by omega) h
/-! 215: NineDemandsModel.near -/
def B_215_32 : (Int32 × IM) → Option ((Int32 × IM) ⊕ (Int32 × IM)) := fun (x2, M) => (match K_214 (0 : Int32) x2 M with | none => none | some (c5, M5) => (if c5 = 0 then (some (Sum.inl (x2 + 1, M5))) else (some (Sum.inr (x2, M5)))))
def L_215_32 (x2 : Int32) (M : IM) : Option (Int32 × IM) := loopN (B_215_32) FU (x2, M)
def F_215 (a1 : Int32) (M : IM) : Option (Int32 × IM) := if F_161 a1 M = 0 then (match F_156 ((-1000001) : Int32) M with | none => none | some (c2, M2) => (some ((c2, M2)))) else (match F_207 a1 M with | none => none | some (c3, M3) => (if c3 = 0 then (match F_156 ((-1000002) : Int32) M3 with | none => none | some (c4, M4) => (some ((c4, M4)))) else (match L_215_32 0 M3 with | none => none | some (x2_7, M7) => (some ((x2_7, M7))))))
theorem TB_215_32 {X : AX} {d : Nat} (hd : 130 ≤ d) {v : Option Value} {M' : IM} : ∀ (s : Int32 × IM) (o : (Int32 × IM) ⊕ (Int32 × IM)), B_215_32 s = some o → (∀ s', o = .inl s' → (fun (x2, M) => Rc X d 215 32 [some (.ref (77)), none, some (.int (x2))] [] M v M') s') → (∀ r, o = .inr r → (fun (x2, M) => Rc X d 215 47 [none, none, some (.int (x2))] [] M v M') r) → (fun (x2, M) => Rc X d 215 32 [some (.ref (77)), none, some (.int (x2))] [] M v M') s := by
  rintro ⟨x2, M⟩ o h hP hE
  show Rc X d 215 32 [some (.ref (77)), none, some (.int (x2))] [] M v M'
  obtain ⟨d, rfl⟩ : ∃ e, d = e + 1 := ⟨d - 1, by omega⟩
  unfold B_215_32 at h
  dsimp only at h hP hE
  refine Rc.run tb_215 3 (pc' := 35) (ls' := [some (.ref (77)), none, some (.int (x2))]) (st' := [.int (x2), .int (0), .ref (77)]) rfl rfl ?_
  cases hc5 : K_214 (0 : Int32) x2 M with
  | none => rw [hc5] at h; cases h
  | some r5 =>
    obtain ⟨c5, M5⟩ := r5
    rw [hc5] at h
    dsimp only at h
    have hq5 := TK_214 (X := X) (d := d) (by omega) (M := M) hc5
    have hz5 := Rc.bool mR_214 hq5
    refine Rc.callV tb_215 rfl rfl rfl mS_214 mP_214 mL_214 mO_214 rfl rfl ob_77 rfl rfl hq5 ?_
    refine Rc.if_ne (pc1 := 47) tb_215 rfl rfl (by decide) (by decide) (fun hb6 => ?_) (fun hb6 => ?_)
    · rw [if_pos hb6] at h
      refine Rc.run tb_215 2 (pc' := 32) (ls' := [some (.ref (77)), none, some (.int (x2 + 1))]) (st' := []) rfl rfl ?_
      refine Rc.mask (b := 5) ((tb_215.2 32).trans rfl) (ls' := [some (.ref (77)), none, some (.int (x2 + 1))]) rfl ?_
      obtain rfl := Option.some.inj h
      exact hP _ rfl
    · rw [if_neg hb6] at h
      refine Rc.mask (b := 4) ((tb_215.2 47).trans rfl) (ls' := [none, none, some (.int (x2))]) rfl ?_
      obtain rfl := Option.some.inj h
      exact hE _ rfl
theorem TL_215_32 {X : AX} {d : Nat} (hd : 130 ≤ d) {x2 : Int32} {M : IM} {v : Option Value} {M' : IM} {r : Int32 × IM} (h : L_215_32 x2 M = some r) (hE : (fun (x2, M) => Rc X d 215 47 [none, none, some (.int (x2))] [] M v M') r) : Rc X d 215 32 [some (.ref (77)), none, some (.int (x2))] [] M v M' := by
  exact loopN_rc (P := fun (x2, M) => Rc X d 215 32 [some (.ref (77)), none, some (.int (x2))] [] M v M') (E := fun (x2, M) => Rc X d 215 47 [none, none, some (.int (x2))] [] M v M') (TB_215_32 (X := X) hd) FU _ r h hE
theorem TF_215 {X : AX} {d : Nat} (hd : 130 ≤ d) {a1 : Int32} {M : IM} {v : Option Value} {M' : IM} {o : Int32 × IM} (h : F_215 a1 M = some o) (hC : v = some (.int o.1) ∧ M' = o.2) : Rc X d 215 0 [some (.ref (77)), some (.int (a1)), none] [] M v M' := by
  obtain ⟨d, rfl⟩ : ∃ e, d = e + 1 := ⟨d - 1, by omega⟩
  unfold F_215 at h
  refine Rc.run tb_215 2 (pc' := 2) (ls' := [some (.ref (77)), some (.int (a1)), none]) (st' := [.int (a1), .ref (77)]) rfl rfl ?_
  have hq1 := T_161 (X := X) (d := d) (by omega) a1 M
  have hz1 := Rc.bool mR_161 hq1
  refine Rc.callV tb_215 rfl rfl rfl mS_161 mP_161 mL_161 mO_161 rfl rfl ob_77 rfl rfl hq1 ?_
  refine Rc.if_ne (pc1 := 15) tb_215 rfl rfl (by decide) (by decide) (fun hb9 => ?_) (fun hb9 => ?_)
  · rw [if_pos hb9] at h
    refine Rc.run tb_215 2 (pc' := 11) (ls' := [some (.ref (77)), some (.int (a1)), none]) (st' := [.int ((-1000001)), .ref (77)]) rfl rfl ?_
    cases hc2 : F_156 ((-1000001) : Int32) M with
    | none => rw [hc2] at h; cases h
    | some r2 =>
      obtain ⟨c2, M2⟩ := r2
      rw [hc2] at h
      dsimp only at h
      have hq2 := T_156 (X := X) (d := d) (by omega) (M := M) hc2
      refine Rc.callV tb_215 rfl rfl rfl mS_156 mP_156 mL_156 mO_156 rfl rfl ob_77 rfl rfl hq2 ?_
      obtain rfl := Option.some.inj h
      obtain ⟨rfl, rfl⟩ := hC
      exact Rc.iret (ins := .ireturn) tb_215 rfl mR_215
  · rw [if_neg hb9] at h
    refine Rc.run tb_215 2 (pc' := 17) (ls' := [some (.ref (77)), some (.int (a1)), none]) (st' := [.int (a1), .ref (77)]) rfl rfl ?_
    cases hc3 : F_207 a1 M with
    | none => rw [hc3] at h; cases h
    | some r3 =>
      obtain ⟨c3, M3⟩ := r3
      rw [hc3] at h
      dsimp only at h
      have hq3 := T_207 (X := X) (d := d) (by omega) (M := M) hc3
      have hz3 := Rc.bool mR_207 hq3
      refine Rc.callV tb_215 rfl rfl rfl mS_207 mP_207 mL_207 mO_207 rfl rfl ob_77 rfl rfl hq3 ?_
      refine Rc.if_ne (pc1 := 30) tb_215 rfl rfl (by decide) (by decide) (fun hb8 => ?_) (fun hb8 => ?_)
      · rw [if_pos hb8] at h
        refine Rc.run tb_215 2 (pc' := 26) (ls' := [some (.ref (77)), some (.int (a1)), none]) (st' := [.int ((-1000002)), .ref (77)]) rfl rfl ?_
        cases hc4 : F_156 ((-1000002) : Int32) M3 with
        | none => rw [hc4] at h; cases h
        | some r4 =>
          obtain ⟨c4, M4⟩ := r4
          rw [hc4] at h
          dsimp only at h
          have hq4 := T_156 (X := X) (d := d) (by omega) (M := M3) hc4
          refine Rc.callV tb_215 rfl rfl rfl mS_156 mP_156 mL_156 mO_156 rfl rfl ob_77 rfl rfl hq4 ?_
          obtain rfl := Option.some.inj h
          obtain ⟨rfl, rfl⟩ := hC
          exact Rc.iret (ins := .ireturn) tb_215 rfl mR_215
      · rw [if_neg hb8] at h
        refine Rc.run tb_215 2 (pc' := 32) (ls' := [some (.ref (77)), some (.int (a1)), some (.int (0))]) (st' := []) rfl rfl ?_
        refine Rc.mask (b := 5) ((tb_215.2 32).trans rfl) (ls' := [some (.ref (77)), none, some (.int (0))]) rfl ?_
        cases hl7 : L_215_32 0 M3 with
        | none => rw [hl7] at h; cases h
        | some r7 =>
          obtain ⟨x2_7, M7⟩ := r7
          rw [hl7] at h
          dsimp only at h
          refine TL_215_32 (X := X) (d := d + 1) (by omega) hl7 ?_
          refine Rc.run tb_215 1 (pc' := 48) (ls' := [none, none, some (.int (x2_7))]) (st' := [.int (x2_7)]) rfl rfl ?_
          obtain rfl := Option.some.inj h
          obtain ⟨rfl, rfl⟩ := hC
          exact Rc.iret (ins := .ireturn) tb_215 rfl mR_215
theorem T_215 {X : AX} {d : Nat} (hd : 130 ≤ d) {a1 : Int32} {M : IM} {x : Int32} {M1 : IM} (h : F_215 a1 M = some (x, M1)) : Rc X d 215 0 [some (.ref (77)), some (.int (a1)), none] [] M (some (.int x)) M1 := TF_215 hd h ⟨rfl, rfl⟩
/-! 226: NineDemandsModel.small -/
def J_226_85_35 (x1 : Int32) (x2 : Int32) (x3 : Int32) (M : IM) : Option ((Int32 × Int32 × IM) ⊕ (Int32 × Int32 × IM)) := some (Sum.inl (x2, x3 + 1, M))
def J_226_75_35 (x1 : Int32) (x2 : Int32) (x3 : Int32) (M : IM) : Option ((Int32 × Int32 × IM) ⊕ (Int32 × Int32 × IM)) := (match F_207 x3 M with | none => none | some (c6, M6) => (if c6 = 0 then (J_226_85_35 x1 x3 x3 M6) else (J_226_85_35 x1 x2 x3 M6)))
def B_226_35 (x1 : Int32) : (Int32 × Int32 × IM) → Option ((Int32 × Int32 × IM) ⊕ (Int32 × Int32 × IM)) := fun (x2, x3, M) => if x1 ≤ x3 then (some (Sum.inr (x2, x3, M))) else (if x3 &&& (x1 ^^^ (-1)) = 0 then (match F_225 x3 with | none => none | some c4 => (match F_225 x2 with | none => none | some c5 => (if c4 < c5 then (J_226_75_35 x1 x2 x3 M) else (if c4 = c5 then (if x2 ≤ x3 then (J_226_85_35 x1 x2 x3 M) else (J_226_75_35 x1 x2 x3 M)) else (J_226_85_35 x1 x2 x3 M))))) else (J_226_85_35 x1 x2 x3 M))
def L_226_35 (x1 : Int32) (x2 : Int32) (x3 : Int32) (M : IM) : Option (Int32 × Int32 × IM) := loopN (B_226_35 x1) FU (x2, x3, M)
def F_226 (a1 : Int32) (M : IM) : Option (Int32 × IM) := if F_161 a1 M = 0 then (match F_156 ((-1000001) : Int32) M with | none => none | some (c2, M2) => (some ((c2, M2)))) else (match F_207 a1 M with | none => none | some (c3, M3) => (if c3 = 0 then (match L_226_35 a1 a1 0 M3 with | none => none | some (x2_15, x3_15, M15) => (some ((x2_15, M15)))) else (match F_156 ((-1000003) : Int32) M3 with | none => none | some (c16, M16) => (some ((c16, M16))))))
theorem TJ_226_85_35 {X : AX} {d : Nat} (hd : 130 ≤ d) {x1 : Int32} {x2 : Int32} {x3 : Int32} {M : IM} {v : Option Value} {M' : IM} {o : (Int32 × Int32 × IM) ⊕ (Int32 × Int32 × IM)} (h : J_226_85_35 x1 x2 x3 M = some o) (hP : ∀ s', o = .inl s' → (fun (x2, x3, M) => Rc X d 226 35 [some (.ref (77)), some (.int (x1)), some (.int (x2)), some (.int (x3))] [] M v M') s') (hE : ∀ r, o = .inr r → (fun (x2, x3, M) => Rc X d 226 91 [none, none, some (.int (x2)), none] [] M v M') r) : Rc X d 226 85 [some (.ref (77)), some (.int (x1)), some (.int (x2)), some (.int (x3))] [] M v M' := by
  obtain ⟨d, rfl⟩ : ∃ e, d = e + 1 := ⟨d - 1, by omega⟩
  unfold J_226_85_35 at h
  dsimp only at hP hE
  refine Rc.run tb_226 2 (pc' := 35) (ls' := [some (.ref (77)), some (.int (x1)), some (.int (x2)), some (.int (x3 + 1))]) (st' := []) rfl rfl ?_
  refine Rc.mask (b := 15) ((tb_226.2 35).trans rfl) (ls' := [some (.ref (77)), some (.int (x1)), some (.int (x2)), some (.int (x3 + 1))]) rfl ?_
  obtain rfl := Option.some.inj h
  exact hP _ rfl
theorem TJ_226_75_35 {X : AX} {d : Nat} (hd : 130 ≤ d) {x1 : Int32} {x2 : Int32} {x3 : Int32} {M : IM} {v : Option Value} {M' : IM} {o : (Int32 × Int32 × IM) ⊕ (Int32 × Int32 × IM)} (h : J_226_75_35 x1 x2 x3 M = some o) (hP : ∀ s', o = .inl s' → (fun (x2, x3, M) => Rc X d 226 35 [some (.ref (77)), some (.int (x1)), some (.int (x2)), some (.int (x3))] [] M v M') s') (hE : ∀ r, o = .inr r → (fun (x2, x3, M) => Rc X d 226 91 [none, none, some (.int (x2)), none] [] M v M') r) : Rc X d 226 75 [some (.ref (77)), some (.int (x1)), some (.int (x2)), some (.int (x3))] [] M v M' := by
  obtain ⟨d, rfl⟩ : ∃ e, d = e + 1 := ⟨d - 1, by omega⟩
  unfold J_226_75_35 at h
  dsimp only at hP hE
  refine Rc.run tb_226 2 (pc' := 77) (ls' := [some (.ref (77)), some (.int (x1)), some (.int (x2)), some (.int (x3))]) (st' := [.int (x3), .ref (77)]) rfl rfl ?_
  cases hc6 : F_207 x3 M with
  | none => rw [hc6] at h; cases h
  | some r6 =>
    obtain ⟨c6, M6⟩ := r6
    rw [hc6] at h
    dsimp only at h
    have hq6 := T_207 (X := X) (d := d) (by omega) (M := M) hc6
    have hz6 := Rc.bool mR_207 hq6
    refine Rc.callV tb_226 rfl rfl rfl mS_207 mP_207 mL_207 mO_207 rfl rfl ob_77 rfl rfl hq6 ?_
    refine Rc.if_ne (pc1 := 85) tb_226 rfl rfl (by decide) (by decide) (fun hb7 => ?_) (fun hb7 => ?_)
    · rw [if_pos hb7] at h
      refine Rc.run tb_226 2 (pc' := 85) (ls' := [some (.ref (77)), some (.int (x1)), some (.int (x3)), some (.int (x3))]) (st' := []) rfl rfl ?_
      refine Rc.mask (b := 15) ((tb_226.2 85).trans rfl) (ls' := [some (.ref (77)), some (.int (x1)), some (.int (x3)), some (.int (x3))]) rfl ?_
      exact TJ_226_85_35 (X := X) (d := d + 1) (by omega) h hP hE
    · rw [if_neg hb7] at h
      refine Rc.mask (b := 15) ((tb_226.2 85).trans rfl) (ls' := [some (.ref (77)), some (.int (x1)), some (.int (x2)), some (.int (x3))]) rfl ?_
      exact TJ_226_85_35 (X := X) (d := d + 1) (by omega) h hP hE
theorem TB_226_35 {X : AX} {d : Nat} (hd : 130 ≤ d) {x1 : Int32} {v : Option Value} {M' : IM} : ∀ (s : Int32 × Int32 × IM) (o : (Int32 × Int32 × IM) ⊕ (Int32 × Int32 × IM)), B_226_35 x1 s = some o → (∀ s', o = .inl s' → (fun (x2, x3, M) => Rc X d 226 35 [some (.ref (77)), some (.int (x1)), some (.int (x2)), some (.int (x3))] [] M v M') s') → (∀ r, o = .inr r → (fun (x2, x3, M) => Rc X d 226 91 [none, none, some (.int (x2)), none] [] M v M') r) → (fun (x2, x3, M) => Rc X d 226 35 [some (.ref (77)), some (.int (x1)), some (.int (x2)), some (.int (x3))] [] M v M') s := by
  rintro ⟨x2, x3, M⟩ o h hP hE
  show Rc X d 226 35 [some (.ref (77)), some (.int (x1)), some (.int (x2)), some (.int (x3))] [] M v M'
  obtain ⟨d, rfl⟩ : ∃ e, d = e + 1 := ⟨d - 1, by omega⟩
  unfold B_226_35 at h
  dsimp only at h hP hE
  refine Rc.run tb_226 2 (pc' := 37) (ls' := [some (.ref (77)), some (.int (x1)), some (.int (x2)), some (.int (x3))]) (st' := [.int (x1), .int (x3)]) rfl rfl ?_
  refine Rc.icmp_ge (pc1 := 91) tb_226 rfl rfl (by decide) (by decide) (fun hb14 => ?_) (fun hb14 => ?_)
  · rw [if_pos hb14] at h
    refine Rc.mask (b := 4) ((tb_226.2 91).trans rfl) (ls' := [none, none, some (.int (x2)), none]) rfl ?_
    obtain rfl := Option.some.inj h
    exact hE _ rfl
  · rw [if_neg hb14] at h
    refine Rc.run tb_226 5 (pc' := 45) (ls' := [some (.ref (77)), some (.int (x1)), some (.int (x2)), some (.int (x3))]) (st' := [.int (x3 &&& (x1 ^^^ (-1)))]) rfl rfl ?_
    refine Rc.if_ne (pc1 := 85) tb_226 rfl rfl (by decide) (by decide) (fun hb13 => ?_) (fun hb13 => ?_)
    · rw [if_pos hb13] at h
      refine Rc.run tb_226 1 (pc' := 49) (ls' := [some (.ref (77)), some (.int (x1)), some (.int (x2)), some (.int (x3))]) (st' := [.int (x3)]) rfl rfl ?_
      cases hc4 : F_225 x3 with
      | none => rw [hc4] at h; cases h
      | some c4 =>
        rw [hc4] at h
        dsimp only at h
        have hq4 := T_225 (X := X) (d := d) (by omega) (M := M) hc4
        refine Rc.callS tb_226 rfl rfl rfl mS_225 mP_225 mL_225 rfl rfl rfl hq4 ?_
        refine Rc.run tb_226 1 (pc' := 53) (ls' := [some (.ref (77)), some (.int (x1)), some (.int (x2)), some (.int (x3))]) (st' := [.int (x2), .int (c4)]) rfl rfl ?_
        cases hc5 : F_225 x2 with
        | none => rw [hc5] at h; cases h
        | some c5 =>
          rw [hc5] at h
          dsimp only at h
          have hq5 := T_225 (X := X) (d := d) (by omega) (M := M) hc5
          refine Rc.callS tb_226 rfl rfl rfl mS_225 mP_225 mL_225 rfl rfl rfl hq5 ?_
          refine Rc.icmp_lt (pc1 := 75) tb_226 rfl rfl (by decide) (by decide) (fun hb12 => ?_) (fun hb12 => ?_)
          · rw [if_pos hb12] at h
            refine Rc.mask (b := 15) ((tb_226.2 75).trans rfl) (ls' := [some (.ref (77)), some (.int (x1)), some (.int (x2)), some (.int (x3))]) rfl ?_
            exact TJ_226_75_35 (X := X) (d := d + 1) (by omega) h hP hE
          · rw [if_neg hb12] at h
            refine Rc.run tb_226 1 (pc' := 60) (ls' := [some (.ref (77)), some (.int (x1)), some (.int (x2)), some (.int (x3))]) (st' := [.int (x3)]) rfl rfl ?_
            refine Rc.callS tb_226 rfl rfl rfl mS_225 mP_225 mL_225 rfl rfl rfl hq4 ?_
            refine Rc.run tb_226 1 (pc' := 64) (ls' := [some (.ref (77)), some (.int (x1)), some (.int (x2)), some (.int (x3))]) (st' := [.int (x2), .int (c4)]) rfl rfl ?_
            refine Rc.callS tb_226 rfl rfl rfl mS_225 mP_225 mL_225 rfl rfl rfl hq5 ?_
            refine Rc.icmp_ne (pc1 := 85) tb_226 rfl rfl (by decide) (by decide) (fun hb11 => ?_) (fun hb11 => ?_)
            · rw [if_pos hb11] at h
              refine Rc.run tb_226 2 (pc' := 72) (ls' := [some (.ref (77)), some (.int (x1)), some (.int (x2)), some (.int (x3))]) (st' := [.int (x2), .int (x3)]) rfl rfl ?_
              refine Rc.icmp_ge (pc1 := 85) tb_226 rfl rfl (by decide) (by decide) (fun hb10 => ?_) (fun hb10 => ?_)
              · rw [if_pos hb10] at h
                refine Rc.mask (b := 15) ((tb_226.2 85).trans rfl) (ls' := [some (.ref (77)), some (.int (x1)), some (.int (x2)), some (.int (x3))]) rfl ?_
                exact TJ_226_85_35 (X := X) (d := d + 1) (by omega) h hP hE
              · rw [if_neg hb10] at h
                refine Rc.mask (b := 15) ((tb_226.2 75).trans rfl) (ls' := [some (.ref (77)), some (.int (x1)), some (.int (x2)), some (.int (x3))]) rfl ?_
                exact TJ_226_75_35 (X := X) (d := d + 1) (by omega) h hP hE
            · rw [if_neg hb11] at h
              refine Rc.mask (b := 15) ((tb_226.2 85).trans rfl) (ls' := [some (.ref (77)), some (.int (x1)), some (.int (x2)), some (.int (x3))]) rfl ?_
              exact TJ_226_85_35 (X := X) (d := d + 1) (by omega) h hP hE
    · rw [if_neg hb13] at h
      refine Rc.mask (b := 15) ((tb_226.2 85).trans rfl) (ls' := [some (.ref (77)), some (.int (x1)), some (.int (x2)), some (.int (x3))]) rfl ?_
      exact TJ_226_85_35 (X := X) (d := d + 1) (by omega) h hP hE
theorem TL_226_35 {X : AX} {d : Nat} (hd : 130 ≤ d) {x1 : Int32} {x2 : Int32} {x3 : Int32} {M : IM} {v : Option Value} {M' : IM} {r : Int32 × Int32 × IM} (h : L_226_35 x1 x2 x3 M = some r) (hE : (fun (x2, x3, M) => Rc X d 226 91 [none, none, some (.int (x2)), none] [] M v M') r) : Rc X d 226 35 [some (.ref (77)), some (.int (x1)), some (.int (x2)), some (.int (x3))] [] M v M' := by
  exact loopN_rc (P := fun (x2, x3, M) => Rc X d 226 35 [some (.ref (77)), some (.int (x1)), some (.int (x2)), some (.int (x3))] [] M v M') (E := fun (x2, x3, M) => Rc X d 226 91 [none, none, some (.int (x2)), none] [] M v M') (TB_226_35 (X := X) hd) FU _ r h hE
theorem TF_226 {X : AX} {d : Nat} (hd : 130 ≤ d) {a1 : Int32} {M : IM} {v : Option Value} {M' : IM} {o : Int32 × IM} (h : F_226 a1 M = some o) (hC : v = some (.int o.1) ∧ M' = o.2) : Rc X d 226 0 [some (.ref (77)), some (.int (a1)), none, none] [] M v M' := by
  obtain ⟨d, rfl⟩ : ∃ e, d = e + 1 := ⟨d - 1, by omega⟩
  unfold F_226 at h
  refine Rc.run tb_226 2 (pc' := 2) (ls' := [some (.ref (77)), some (.int (a1)), none, none]) (st' := [.int (a1), .ref (77)]) rfl rfl ?_
  have hq1 := T_161 (X := X) (d := d) (by omega) a1 M
  have hz1 := Rc.bool mR_161 hq1
  refine Rc.callV tb_226 rfl rfl rfl mS_161 mP_161 mL_161 mO_161 rfl rfl ob_77 rfl rfl hq1 ?_
  refine Rc.if_ne (pc1 := 15) tb_226 rfl rfl (by decide) (by decide) (fun hb18 => ?_) (fun hb18 => ?_)
  · rw [if_pos hb18] at h
    refine Rc.run tb_226 2 (pc' := 11) (ls' := [some (.ref (77)), some (.int (a1)), none, none]) (st' := [.int ((-1000001)), .ref (77)]) rfl rfl ?_
    cases hc2 : F_156 ((-1000001) : Int32) M with
    | none => rw [hc2] at h; cases h
    | some r2 =>
      obtain ⟨c2, M2⟩ := r2
      rw [hc2] at h
      dsimp only at h
      have hq2 := T_156 (X := X) (d := d) (by omega) (M := M) hc2
      refine Rc.callV tb_226 rfl rfl rfl mS_156 mP_156 mL_156 mO_156 rfl rfl ob_77 rfl rfl hq2 ?_
      obtain rfl := Option.some.inj h
      obtain ⟨rfl, rfl⟩ := hC
      exact Rc.iret (ins := .ireturn) tb_226 rfl mR_226
  · rw [if_neg hb18] at h
    refine Rc.run tb_226 2 (pc' := 17) (ls' := [some (.ref (77)), some (.int (a1)), none, none]) (st' := [.int (a1), .ref (77)]) rfl rfl ?_
    cases hc3 : F_207 a1 M with
    | none => rw [hc3] at h; cases h
    | some r3 =>
      obtain ⟨c3, M3⟩ := r3
      rw [hc3] at h
      dsimp only at h
      have hq3 := T_207 (X := X) (d := d) (by omega) (M := M) hc3
      have hz3 := Rc.bool mR_207 hq3
      refine Rc.callV tb_226 rfl rfl rfl mS_207 mP_207 mL_207 mO_207 rfl rfl ob_77 rfl rfl hq3 ?_
      refine Rc.if_eq (pc1 := 31) tb_226 rfl rfl (by decide) (by decide) (fun hb17 => ?_) (fun hb17 => ?_)
      · rw [if_pos hb17] at h
        refine Rc.run tb_226 4 (pc' := 35) (ls' := [some (.ref (77)), some (.int (a1)), some (.int (a1)), some (.int (0))]) (st' := []) rfl rfl ?_
        refine Rc.mask (b := 15) ((tb_226.2 35).trans rfl) (ls' := [some (.ref (77)), some (.int (a1)), some (.int (a1)), some (.int (0))]) rfl ?_
        cases hl15 : L_226_35 a1 a1 0 M3 with
        | none => rw [hl15] at h; cases h
        | some r15 =>
          obtain ⟨x2_15, x3_15, M15⟩ := r15
          rw [hl15] at h
          dsimp only at h
          refine TL_226_35 (X := X) (d := d + 1) (by omega) hl15 ?_
          refine Rc.run tb_226 1 (pc' := 92) (ls' := [none, none, some (.int (x2_15)), none]) (st' := [.int (x2_15)]) rfl rfl ?_
          obtain rfl := Option.some.inj h
          obtain ⟨rfl, rfl⟩ := hC
          exact Rc.iret (ins := .ireturn) tb_226 rfl mR_226
      · rw [if_neg hb17] at h
        refine Rc.run tb_226 2 (pc' := 27) (ls' := [some (.ref (77)), some (.int (a1)), none, none]) (st' := [.int ((-1000003)), .ref (77)]) rfl rfl ?_
        cases hc16 : F_156 ((-1000003) : Int32) M3 with
        | none => rw [hc16] at h; cases h
        | some r16 =>
          obtain ⟨c16, M16⟩ := r16
          rw [hc16] at h
          dsimp only at h
          have hq16 := T_156 (X := X) (d := d) (by omega) (M := M3) hc16
          refine Rc.callV tb_226 rfl rfl rfl mS_156 mP_156 mL_156 mO_156 rfl rfl ob_77 rfl rfl hq16 ?_
          obtain rfl := Option.some.inj h
          obtain ⟨rfl, rfl⟩ := hC
          exact Rc.iret (ins := .ireturn) tb_226 rfl mR_226
theorem T_226 {X : AX} {d : Nat} (hd : 130 ≤ d) {a1 : Int32} {M : IM} {x : Int32} {M1 : IM} (h : F_226 a1 M = some (x, M1)) : Rc X d 226 0 [some (.ref (77)), some (.int (a1)), none, none] [] M (some (.int x)) M1 := TF_226 hd h ⟨rfl, rfl⟩
/-! 227: NineDemandsModel.few -/
def J_227_67_41 (x2 : Int32) (x3 : Int32) (M : IM) : Option ((Int32 × IM) ⊕ ((Int32 × IM) ⊕ (Int32 × IM))) := some (Sum.inl (x3 + 1, M))
def B_227_41 (x2 : Int32) : (Int32 × IM) → Option ((Int32 × IM) ⊕ ((Int32 × IM) ⊕ (Int32 × IM))) := fun (x3, M) => if (4095 : Int32) ≤ x3 then (some (Sum.inr (Sum.inl (x3, M)))) else (match F_225 x3 with | none => none | some c4 => (if c4 = x2 then (match K_206 (0 : Int32) x3 M with | none => none | some (c5, M5) => (if c5 = 0 then (some (Sum.inr (Sum.inr (x3, M5)))) else (J_227_67_41 x2 x3 M5))) else (J_227_67_41 x2 x3 M)))
def L_227_41 (x2 : Int32) (x3 : Int32) (M : IM) : Option ((Int32 × IM) ⊕ (Int32 × IM)) := loopN (B_227_41 x2) FU (x3, M)
def J_227_73_33 (x2 : Int32) (M : IM) : Option ((Int32 × IM) ⊕ ((Int32 × IM) ⊕ (Int32 × IM))) := some (Sum.inl (x2 + 1, M))
def B_227_33 : (Int32 × IM) → Option ((Int32 × IM) ⊕ ((Int32 × IM) ⊕ (Int32 × IM))) := fun (x2, M) => if (12 : Int32) ≤ x2 then (some (Sum.inr (Sum.inl (x2, M)))) else (match L_227_41 x2 1 M with | none => none | some (.inl (x3_9, M9)) => (J_227_73_33 x2 M9) | some (.inr q) => some (Sum.inr (Sum.inr q)))
def L_227_33 (x2 : Int32) (M : IM) : Option ((Int32 × IM) ⊕ (Int32 × IM)) := loopN (B_227_33) FU (x2, M)
def F_227 (a1 : Int32) (M : IM) : Option (Int32 × IM) := if F_161 a1 M = 0 then (match F_156 ((-1000001) : Int32) M with | none => none | some (c2, M2) => (some ((c2, M2)))) else (match F_207 a1 M with | none => none | some (c3, M3) => (if c3 = 0 then (match L_227_33 1 M3 with | none => none | some (.inl (x2_11, M11)) => (some ((4095, M11))) | some (.inr q) => some (q)) else (match F_156 ((-1000003) : Int32) M3 with | none => none | some (c12, M12) => (some ((c12, M12))))))
theorem TJ_227_67_41 {X : AX} {d : Nat} (hd : 130 ≤ d) {x2 : Int32} {x3 : Int32} {M : IM} {v : Option Value} {M' : IM} {o : (Int32 × IM) ⊕ ((Int32 × IM) ⊕ (Int32 × IM))} (h : J_227_67_41 x2 x3 M = some o) (hP : ∀ s', o = .inl s' → (fun (x3, M) => Rc X d 227 41 [some (.ref (77)), none, some (.int (x2)), some (.int (x3))] [] M v M') s') (hE : ∀ r, o = .inr r → (fun r => match r with | .inl (x3, M) => Rc X d 227 73 [some (.ref (77)), none, some (.int (x2)), none] [] M v M' | .inr q => v = some (.int q.1) ∧ M' = q.2) r) : Rc X d 227 67 [some (.ref (77)), none, some (.int (x2)), some (.int (x3))] [] M v M' := by
  obtain ⟨d, rfl⟩ : ∃ e, d = e + 1 := ⟨d - 1, by omega⟩
  unfold J_227_67_41 at h
  dsimp only at hP hE
  refine Rc.run tb_227 2 (pc' := 41) (ls' := [some (.ref (77)), none, some (.int (x2)), some (.int (x3 + 1))]) (st' := []) rfl rfl ?_
  refine Rc.mask (b := 13) ((tb_227.2 41).trans rfl) (ls' := [some (.ref (77)), none, some (.int (x2)), some (.int (x3 + 1))]) rfl ?_
  obtain rfl := Option.some.inj h
  exact hP _ rfl
theorem TB_227_41 {X : AX} {d : Nat} (hd : 130 ≤ d) {x2 : Int32} {v : Option Value} {M' : IM} : ∀ (s : Int32 × IM) (o : (Int32 × IM) ⊕ ((Int32 × IM) ⊕ (Int32 × IM))), B_227_41 x2 s = some o → (∀ s', o = .inl s' → (fun (x3, M) => Rc X d 227 41 [some (.ref (77)), none, some (.int (x2)), some (.int (x3))] [] M v M') s') → (∀ r, o = .inr r → (fun r => match r with | .inl (x3, M) => Rc X d 227 73 [some (.ref (77)), none, some (.int (x2)), none] [] M v M' | .inr q => v = some (.int q.1) ∧ M' = q.2) r) → (fun (x3, M) => Rc X d 227 41 [some (.ref (77)), none, some (.int (x2)), some (.int (x3))] [] M v M') s := by
  rintro ⟨x3, M⟩ o h hP hE
  show Rc X d 227 41 [some (.ref (77)), none, some (.int (x2)), some (.int (x3))] [] M v M'
  obtain ⟨d, rfl⟩ : ∃ e, d = e + 1 := ⟨d - 1, by omega⟩
  unfold B_227_41 at h
  dsimp only at h hP hE
  refine Rc.run tb_227 2 (pc' := 45) (ls' := [some (.ref (77)), none, some (.int (x2)), some (.int (x3))]) (st' := [.int (4095), .int (x3)]) rfl rfl ?_
  refine Rc.icmp_ge (pc1 := 73) tb_227 rfl rfl (by decide) (by decide) (fun hb8 => ?_) (fun hb8 => ?_)
  · rw [if_pos hb8] at h
    refine Rc.mask (b := 5) ((tb_227.2 73).trans rfl) (ls' := [some (.ref (77)), none, some (.int (x2)), none]) rfl ?_
    obtain rfl := Option.some.inj h
    exact hE _ rfl
  · rw [if_neg hb8] at h
    refine Rc.run tb_227 1 (pc' := 49) (ls' := [some (.ref (77)), none, some (.int (x2)), some (.int (x3))]) (st' := [.int (x3)]) rfl rfl ?_
    cases hc4 : F_225 x3 with
    | none => rw [hc4] at h; cases h
    | some c4 =>
      rw [hc4] at h
      dsimp only at h
      have hq4 := T_225 (X := X) (d := d) (by omega) (M := M) hc4
      refine Rc.callS tb_227 rfl rfl rfl mS_225 mP_225 mL_225 rfl rfl rfl hq4 ?_
      refine Rc.run tb_227 1 (pc' := 53) (ls' := [some (.ref (77)), none, some (.int (x2)), some (.int (x3))]) (st' := [.int (x2), .int (c4)]) rfl rfl ?_
      refine Rc.icmp_ne (pc1 := 67) tb_227 rfl rfl (by decide) (by decide) (fun hb7 => ?_) (fun hb7 => ?_)
      · rw [if_pos hb7] at h
        refine Rc.run tb_227 3 (pc' := 59) (ls' := [some (.ref (77)), none, some (.int (x2)), some (.int (x3))]) (st' := [.int (x3), .int (0), .ref (77)]) rfl rfl ?_
        cases hc5 : K_206 (0 : Int32) x3 M with
        | none => rw [hc5] at h; cases h
        | some r5 =>
          obtain ⟨c5, M5⟩ := r5
          rw [hc5] at h
          dsimp only at h
          have hq5 := TK_206 (X := X) (d := d) (by omega) (M := M) hc5
          have hz5 := Rc.bool mR_206 hq5
          refine Rc.callV tb_227 rfl rfl rfl mS_206 mP_206 mL_206 mO_206 rfl rfl ob_77 rfl rfl hq5 ?_
          refine Rc.if_ne (pc1 := 67) tb_227 rfl rfl (by decide) (by decide) (fun hb6 => ?_) (fun hb6 => ?_)
          · rw [if_pos hb6] at h
            refine Rc.run tb_227 1 (pc' := 66) (ls' := [some (.ref (77)), none, some (.int (x2)), some (.int (x3))]) (st' := [.int (x3)]) rfl rfl ?_
            obtain rfl := Option.some.inj h
            obtain ⟨rfl, rfl⟩ := hE _ rfl
            exact Rc.iret (ins := .ireturn) tb_227 rfl mR_227
          · rw [if_neg hb6] at h
            refine Rc.mask (b := 13) ((tb_227.2 67).trans rfl) (ls' := [some (.ref (77)), none, some (.int (x2)), some (.int (x3))]) rfl ?_
            exact TJ_227_67_41 (X := X) (d := d + 1) (by omega) h hP hE
      · rw [if_neg hb7] at h
        refine Rc.mask (b := 13) ((tb_227.2 67).trans rfl) (ls' := [some (.ref (77)), none, some (.int (x2)), some (.int (x3))]) rfl ?_
        exact TJ_227_67_41 (X := X) (d := d + 1) (by omega) h hP hE
theorem TL_227_41 {X : AX} {d : Nat} (hd : 130 ≤ d) {x2 : Int32} {x3 : Int32} {M : IM} {v : Option Value} {M' : IM} {r : (Int32 × IM) ⊕ (Int32 × IM)} (h : L_227_41 x2 x3 M = some r) (hE : (fun r => match r with | .inl (x3, M) => Rc X d 227 73 [some (.ref (77)), none, some (.int (x2)), none] [] M v M' | .inr q => v = some (.int q.1) ∧ M' = q.2) r) : Rc X d 227 41 [some (.ref (77)), none, some (.int (x2)), some (.int (x3))] [] M v M' := by
  exact loopN_rc (P := fun (x3, M) => Rc X d 227 41 [some (.ref (77)), none, some (.int (x2)), some (.int (x3))] [] M v M') (E := fun r => match r with | .inl (x3, M) => Rc X d 227 73 [some (.ref (77)), none, some (.int (x2)), none] [] M v M' | .inr q => v = some (.int q.1) ∧ M' = q.2) (TB_227_41 (X := X) hd) FU _ r h hE
theorem TJ_227_73_33 {X : AX} {d : Nat} (hd : 130 ≤ d) {x2 : Int32} {M : IM} {v : Option Value} {M' : IM} {o : (Int32 × IM) ⊕ ((Int32 × IM) ⊕ (Int32 × IM))} (h : J_227_73_33 x2 M = some o) (hP : ∀ s', o = .inl s' → (fun (x2, M) => Rc X d 227 33 [some (.ref (77)), none, some (.int (x2)), none] [] M v M') s') (hE : ∀ r, o = .inr r → (fun r => match r with | .inl (x2, M) => Rc X d 227 79 [none, none, none, none] [] M v M' | .inr q => v = some (.int q.1) ∧ M' = q.2) r) : Rc X d 227 73 [some (.ref (77)), none, some (.int (x2)), none] [] M v M' := by
  obtain ⟨d, rfl⟩ : ∃ e, d = e + 1 := ⟨d - 1, by omega⟩
  unfold J_227_73_33 at h
  dsimp only at hP hE
  refine Rc.run tb_227 2 (pc' := 33) (ls' := [some (.ref (77)), none, some (.int (x2 + 1)), none]) (st' := []) rfl rfl ?_
  refine Rc.mask (b := 5) ((tb_227.2 33).trans rfl) (ls' := [some (.ref (77)), none, some (.int (x2 + 1)), none]) rfl ?_
  obtain rfl := Option.some.inj h
  exact hP _ rfl
theorem TB_227_33 {X : AX} {d : Nat} (hd : 130 ≤ d) {v : Option Value} {M' : IM} : ∀ (s : Int32 × IM) (o : (Int32 × IM) ⊕ ((Int32 × IM) ⊕ (Int32 × IM))), B_227_33 s = some o → (∀ s', o = .inl s' → (fun (x2, M) => Rc X d 227 33 [some (.ref (77)), none, some (.int (x2)), none] [] M v M') s') → (∀ r, o = .inr r → (fun r => match r with | .inl (x2, M) => Rc X d 227 79 [none, none, none, none] [] M v M' | .inr q => v = some (.int q.1) ∧ M' = q.2) r) → (fun (x2, M) => Rc X d 227 33 [some (.ref (77)), none, some (.int (x2)), none] [] M v M') s := by
  rintro ⟨x2, M⟩ o h hP hE
  show Rc X d 227 33 [some (.ref (77)), none, some (.int (x2)), none] [] M v M'
  obtain ⟨d, rfl⟩ : ∃ e, d = e + 1 := ⟨d - 1, by omega⟩
  unfold B_227_33 at h
  dsimp only at h hP hE
  refine Rc.run tb_227 2 (pc' := 36) (ls' := [some (.ref (77)), none, some (.int (x2)), none]) (st' := [.int (12), .int (x2)]) rfl rfl ?_
  refine Rc.icmp_ge (pc1 := 79) tb_227 rfl rfl (by decide) (by decide) (fun hb10 => ?_) (fun hb10 => ?_)
  · rw [if_pos hb10] at h
    refine Rc.mask (b := 0) ((tb_227.2 79).trans rfl) (ls' := [none, none, none, none]) rfl ?_
    obtain rfl := Option.some.inj h
    exact hE _ rfl
  · rw [if_neg hb10] at h
    refine Rc.run tb_227 2 (pc' := 41) (ls' := [some (.ref (77)), none, some (.int (x2)), some (.int (1))]) (st' := []) rfl rfl ?_
    refine Rc.mask (b := 13) ((tb_227.2 41).trans rfl) (ls' := [some (.ref (77)), none, some (.int (x2)), some (.int (1))]) rfl ?_
    cases hl9 : L_227_41 x2 1 M with
    | none => rw [hl9] at h; cases h
    | some rr9 =>
      rw [hl9] at h
      cases rr9 with
      | inl r9 =>
        obtain ⟨x3_9, M9⟩ := r9
        dsimp only at h
        refine TL_227_41 (X := X) (d := d + 1) (by omega) hl9 ?_
        refine Rc.mask (b := 5) ((tb_227.2 73).trans rfl) (ls' := [some (.ref (77)), none, some (.int (x2)), none]) rfl ?_
        exact TJ_227_73_33 (X := X) (d := d + 1) (by omega) h hP hE
      | inr q =>
        dsimp only at h
        refine TL_227_41 (X := X) (d := d + 1) (by omega) hl9 ?_
        obtain rfl := Option.some.inj h
        obtain ⟨rfl, rfl⟩ := hE _ rfl
        exact ⟨rfl, rfl⟩
theorem TL_227_33 {X : AX} {d : Nat} (hd : 130 ≤ d) {x2 : Int32} {M : IM} {v : Option Value} {M' : IM} {r : (Int32 × IM) ⊕ (Int32 × IM)} (h : L_227_33 x2 M = some r) (hE : (fun r => match r with | .inl (x2, M) => Rc X d 227 79 [none, none, none, none] [] M v M' | .inr q => v = some (.int q.1) ∧ M' = q.2) r) : Rc X d 227 33 [some (.ref (77)), none, some (.int (x2)), none] [] M v M' := by
  exact loopN_rc (P := fun (x2, M) => Rc X d 227 33 [some (.ref (77)), none, some (.int (x2)), none] [] M v M') (E := fun r => match r with | .inl (x2, M) => Rc X d 227 79 [none, none, none, none] [] M v M' | .inr q => v = some (.int q.1) ∧ M' = q.2) (TB_227_33 (X := X) hd) FU _ r h hE
theorem TF_227 {X : AX} {d : Nat} (hd : 130 ≤ d) {a1 : Int32} {M : IM} {v : Option Value} {M' : IM} {o : Int32 × IM} (h : F_227 a1 M = some o) (hC : v = some (.int o.1) ∧ M' = o.2) : Rc X d 227 0 [some (.ref (77)), some (.int (a1)), none, none] [] M v M' := by
  obtain ⟨d, rfl⟩ : ∃ e, d = e + 1 := ⟨d - 1, by omega⟩
  unfold F_227 at h
  refine Rc.run tb_227 2 (pc' := 2) (ls' := [some (.ref (77)), some (.int (a1)), none, none]) (st' := [.int (a1), .ref (77)]) rfl rfl ?_
  have hq1 := T_161 (X := X) (d := d) (by omega) a1 M
  have hz1 := Rc.bool mR_161 hq1
  refine Rc.callV tb_227 rfl rfl rfl mS_161 mP_161 mL_161 mO_161 rfl rfl ob_77 rfl rfl hq1 ?_
  refine Rc.if_ne (pc1 := 15) tb_227 rfl rfl (by decide) (by decide) (fun hb14 => ?_) (fun hb14 => ?_)
  · rw [if_pos hb14] at h
    refine Rc.run tb_227 2 (pc' := 11) (ls' := [some (.ref (77)), some (.int (a1)), none, none]) (st' := [.int ((-1000001)), .ref (77)]) rfl rfl ?_
    cases hc2 : F_156 ((-1000001) : Int32) M with
    | none => rw [hc2] at h; cases h
    | some r2 =>
      obtain ⟨c2, M2⟩ := r2
      rw [hc2] at h
      dsimp only at h
      have hq2 := T_156 (X := X) (d := d) (by omega) (M := M) hc2
      refine Rc.callV tb_227 rfl rfl rfl mS_156 mP_156 mL_156 mO_156 rfl rfl ob_77 rfl rfl hq2 ?_
      obtain rfl := Option.some.inj h
      obtain ⟨rfl, rfl⟩ := hC
      exact Rc.iret (ins := .ireturn) tb_227 rfl mR_227
  · rw [if_neg hb14] at h
    refine Rc.run tb_227 2 (pc' := 17) (ls' := [some (.ref (77)), some (.int (a1)), none, none]) (st' := [.int (a1), .ref (77)]) rfl rfl ?_
    cases hc3 : F_207 a1 M with
    | none => rw [hc3] at h; cases h
    | some r3 =>
      obtain ⟨c3, M3⟩ := r3
      rw [hc3] at h
      dsimp only at h
      have hq3 := T_207 (X := X) (d := d) (by omega) (M := M) hc3
      have hz3 := Rc.bool mR_207 hq3
      refine Rc.callV tb_227 rfl rfl rfl mS_207 mP_207 mL_207 mO_207 rfl rfl ob_77 rfl rfl hq3 ?_
      refine Rc.if_eq (pc1 := 31) tb_227 rfl rfl (by decide) (by decide) (fun hb13 => ?_) (fun hb13 => ?_)
      · rw [if_pos hb13] at h
        refine Rc.run tb_227 2 (pc' := 33) (ls' := [some (.ref (77)), some (.int (a1)), some (.int (1)), none]) (st' := []) rfl rfl ?_
        refine Rc.mask (b := 5) ((tb_227.2 33).trans rfl) (ls' := [some (.ref (77)), none, some (.int (1)), none]) rfl ?_
        cases hl11 : L_227_33 1 M3 with
        | none => rw [hl11] at h; cases h
        | some rr11 =>
          rw [hl11] at h
          cases rr11 with
          | inl r11 =>
            obtain ⟨x2_11, M11⟩ := r11
            dsimp only at h
            refine TL_227_33 (X := X) (d := d + 1) (by omega) hl11 ?_
            refine Rc.run tb_227 1 (pc' := 82) (ls' := [none, none, none, none]) (st' := [.int (4095)]) rfl rfl ?_
            obtain rfl := Option.some.inj h
            obtain ⟨rfl, rfl⟩ := hC
            exact Rc.iret (ins := .ireturn) tb_227 rfl mR_227
          | inr q =>
            dsimp only at h
            refine TL_227_33 (X := X) (d := d + 1) (by omega) hl11 ?_
            obtain rfl := Option.some.inj h
            obtain ⟨rfl, rfl⟩ := hC
            exact ⟨rfl, rfl⟩
      · rw [if_neg hb13] at h
        refine Rc.run tb_227 2 (pc' := 27) (ls' := [some (.ref (77)), some (.int (a1)), none, none]) (st' := [.int ((-1000003)), .ref (77)]) rfl rfl ?_
        cases hc12 : F_156 ((-1000003) : Int32) M3 with
        | none => rw [hc12] at h; cases h
        | some r12 =>
          obtain ⟨c12, M12⟩ := r12
          rw [hc12] at h
          dsimp only at h
          have hq12 := T_156 (X := X) (d := d) (by omega) (M := M3) hc12
          refine Rc.callV tb_227 rfl rfl rfl mS_156 mP_156 mL_156 mO_156 rfl rfl ob_77 rfl rfl hq12 ?_
          obtain rfl := Option.some.inj h
          obtain ⟨rfl, rfl⟩ := hC
          exact Rc.iret (ins := .ireturn) tb_227 rfl mR_227
theorem T_227 {X : AX} {d : Nat} (hd : 130 ≤ d) {a1 : Int32} {M : IM} {x : Int32} {M1 : IM} (h : F_227 a1 M = some (x, M1)) : Rc X d 227 0 [some (.ref (77)), some (.int (a1)), none, none] [] M (some (.int x)) M1 := TF_227 hd h ⟨rfl, rfl⟩
/-! 229: NineDemandsModel.give -/
def J_229_17 (M : IM) : Option (Int32 × IM) := (match F_156 ((-1000001) : Int32) M with | none => none | some (c2, M2) => (some ((c2, M2))))
def J_229_130_29 (x1 : Int32) (x2 : Int32) (x3 : Int32) (x4 : Int32) (M : IM) : Option ((Int32 × Int32 × IM) ⊕ (Int32 × Int32 × IM)) := some (Sum.inl (x3, x4 + 1, M))
def J_229_98_29 (x1 : Int32) (x2 : Int32) (x3 : Int32) (x4 : Int32) (s0 : Int32) (M : IM) : Option ((Int32 × Int32 × IM) ⊕ (Int32 × Int32 × IM)) := if x4 &&& (x1 ^^^ (-1)) = 0 then (if s0 = 0 then (J_229_130_29 x1 x2 x3 x4 M) else (match F_207 (x1 &&& (x4 ^^^ (-1))) M with | none => none | some (c6, M6) => (if c6 = 0 then (J_229_130_29 x1 x2 x3 x4 M6) else (J_229_130_29 x1 x2 x4 x4 M6)))) else (J_229_130_29 x1 x2 x3 x4 M)
def J_229_93_29 (x1 : Int32) (x2 : Int32) (x3 : Int32) (x4 : Int32) (M : IM) : Option ((Int32 × Int32 × IM) ⊕ (Int32 × Int32 × IM)) := J_229_98_29 x1 x2 x3 x4 (1 : Int32) M
def J_229_97_29 (x1 : Int32) (x2 : Int32) (x3 : Int32) (x4 : Int32) (M : IM) : Option ((Int32 × Int32 × IM) ⊕ (Int32 × Int32 × IM)) := J_229_98_29 x1 x2 x3 x4 (0 : Int32) M
def B_229_29 (x1 : Int32) (x2 : Int32) : (Int32 × Int32 × IM) → Option ((Int32 × Int32 × IM) ⊕ (Int32 × Int32 × IM)) := fun (x3, x4, M) => if x1 ≤ x4 then (some (Sum.inr (x3, x4, M))) else (match F_228 x4 M with | none => none | some c4 => (match F_228 x3 M with | none => none | some c5 => (if c4 < c5 then (J_229_93_29 x1 x2 x3 x4 M) else (if c4 = c5 then (match F_225 x4 with | none => none | some c11 => (match F_225 x3 with | none => none | some c12 => (if c11 < c12 then (J_229_93_29 x1 x2 x3 x4 M) else (if c11 = c12 then (if x3 ≤ x4 then (J_229_97_29 x1 x2 x3 x4 M) else (J_229_93_29 x1 x2 x3 x4 M)) else (J_229_97_29 x1 x2 x3 x4 M))))) else (J_229_97_29 x1 x2 x3 x4 M)))))
def L_229_29 (x1 : Int32) (x2 : Int32) (x3 : Int32) (x4 : Int32) (M : IM) : Option (Int32 × Int32 × IM) := loopN (B_229_29 x1 x2) FU (x3, x4, M)
def J_229_136 (x2 : Int32) (x3 : Int32) (M : IM) : Option (Int32 × IM) := if x2 = 0 then (some ((x3, M))) else (match F_228 x3 M with | none => none | some c22 => (some ((c22, M))))
def F_229 (a1 : Int32) (a2 : Int32) (M : IM) : Option (Int32 × IM) := if F_161 a1 M = 0 then (J_229_17 M) else (if F_157 a2 (0 : Int32) (1 : Int32) = 0 then (J_229_17 M) else (match L_229_29 a1 a2 a1 0 M with | none => none | some (x3_21, x4_21, M21) => (J_229_136 a2 x3_21 M21)))
theorem TJ_229_17 {X : AX} {d : Nat} (hd : 130 ≤ d) {M : IM} {v : Option Value} {M' : IM} {o : Int32 × IM} (h : J_229_17 M = some o) (hC : v = some (.int o.1) ∧ M' = o.2) : Rc X d 229 17 [some (.ref (77)), none, none, none, none, none, none] [] M v M' := by
  obtain ⟨d, rfl⟩ : ∃ e, d = e + 1 := ⟨d - 1, by omega⟩
  unfold J_229_17 at h
  refine Rc.run tb_229 2 (pc' := 20) (ls' := [some (.ref (77)), none, none, none, none, none, none]) (st' := [.int ((-1000001)), .ref (77)]) rfl rfl ?_
  cases hc2 : F_156 ((-1000001) : Int32) M with
  | none => rw [hc2] at h; cases h
  | some r2 =>
    obtain ⟨c2, M2⟩ := r2
    rw [hc2] at h
    dsimp only at h
    have hq2 := T_156 (X := X) (d := d) (by omega) (M := M) hc2
    refine Rc.callV tb_229 rfl rfl rfl mS_156 mP_156 mL_156 mO_156 rfl rfl ob_77 rfl rfl hq2 ?_
    obtain rfl := Option.some.inj h
    obtain ⟨rfl, rfl⟩ := hC
    exact Rc.iret (ins := .ireturn) tb_229 rfl mR_229
theorem TJ_229_130_29 {X : AX} {d : Nat} (hd : 130 ≤ d) {x1 : Int32} {x2 : Int32} {x3 : Int32} {x4 : Int32} {M : IM} {v : Option Value} {M' : IM} {o : (Int32 × Int32 × IM) ⊕ (Int32 × Int32 × IM)} (h : J_229_130_29 x1 x2 x3 x4 M = some o) (hP : ∀ s', o = .inl s' → (fun (x3, x4, M) => Rc X d 229 29 [some (.ref (77)), some (.int (x1)), some (.int (x2)), some (.int (x3)), some (.int (x4)), none, none] [] M v M') s') (hE : ∀ r, o = .inr r → (fun (x3, x4, M) => Rc X d 229 136 [some (.ref (77)), none, some (.int (x2)), some (.int (x3)), none, none, none] [] M v M') r) : Rc X d 229 130 [some (.ref (77)), some (.int (x1)), some (.int (x2)), some (.int (x3)), some (.int (x4)), none, none] [] M v M' := by
  obtain ⟨d, rfl⟩ : ∃ e, d = e + 1 := ⟨d - 1, by omega⟩
  unfold J_229_130_29 at h
  dsimp only at hP hE
  refine Rc.run tb_229 2 (pc' := 29) (ls' := [some (.ref (77)), some (.int (x1)), some (.int (x2)), some (.int (x3)), some (.int (x4 + 1)), none, none]) (st' := []) rfl rfl ?_
  refine Rc.mask (b := 31) ((tb_229.2 29).trans rfl) (ls' := [some (.ref (77)), some (.int (x1)), some (.int (x2)), some (.int (x3)), some (.int (x4 + 1)), none, none]) rfl ?_
  obtain rfl := Option.some.inj h
  exact hP _ rfl
theorem TJ_229_98_29 {X : AX} {d : Nat} (hd : 130 ≤ d) {x1 : Int32} {x2 : Int32} {x3 : Int32} {x4 : Int32} {s0 : Int32} {M : IM} (hs0 : s0 = 0 ∨ s0 = 1) {v : Option Value} {M' : IM} {o : (Int32 × Int32 × IM) ⊕ (Int32 × Int32 × IM)} (h : J_229_98_29 x1 x2 x3 x4 s0 M = some o) (hP : ∀ s', o = .inl s' → (fun (x3, x4, M) => Rc X d 229 29 [some (.ref (77)), some (.int (x1)), some (.int (x2)), some (.int (x3)), some (.int (x4)), none, none] [] M v M') s') (hE : ∀ r, o = .inr r → (fun (x3, x4, M) => Rc X d 229 136 [some (.ref (77)), none, some (.int (x2)), some (.int (x3)), none, none, none] [] M v M') r) : Rc X d 229 98 [some (.ref (77)), some (.int (x1)), some (.int (x2)), some (.int (x3)), some (.int (x4)), none, none] [.int (s0)] M v M' := by
  obtain ⟨d, rfl⟩ : ∃ e, d = e + 1 := ⟨d - 1, by omega⟩
  unfold J_229_98_29 at h
  dsimp only at hP hE
  refine Rc.run tb_229 6 (pc' := 106) (ls' := [some (.ref (77)), some (.int (x1)), some (.int (x2)), some (.int (x3)), some (.int (x4)), none, some (.int (s0))]) (st' := [.int (x4 &&& (x1 ^^^ (-1)))]) rfl rfl ?_
  refine Rc.if_ne (pc1 := 130) tb_229 rfl rfl (by decide) (by decide) (fun hb9 => ?_) (fun hb9 => ?_)
  · rw [if_pos hb9] at h
    refine Rc.run tb_229 1 (pc' := 111) (ls' := [some (.ref (77)), some (.int (x1)), some (.int (x2)), some (.int (x3)), some (.int (x4)), none, some (.int (s0))]) (st' := [.int (s0)]) rfl rfl ?_
    refine Rc.if_eq (pc1 := 130) tb_229 rfl rfl (by decide) (by decide) (fun hb8 => ?_) (fun hb8 => ?_)
    · rw [if_pos hb8] at h
      refine Rc.mask (b := 31) ((tb_229.2 130).trans rfl) (ls' := [some (.ref (77)), some (.int (x1)), some (.int (x2)), some (.int (x3)), some (.int (x4)), none, none]) rfl ?_
      exact TJ_229_130_29 (X := X) (d := d + 1) (by omega) h hP hE
    · rw [if_neg hb8] at h
      refine Rc.run tb_229 6 (pc' := 121) (ls' := [some (.ref (77)), some (.int (x1)), some (.int (x2)), some (.int (x3)), some (.int (x4)), none, some (.int (s0))]) (st' := [.int (x1 &&& (x4 ^^^ (-1))), .ref (77)]) rfl rfl ?_
      cases hc6 : F_207 (x1 &&& (x4 ^^^ (-1))) M with
      | none => rw [hc6] at h; cases h
      | some r6 =>
        obtain ⟨c6, M6⟩ := r6
        rw [hc6] at h
        dsimp only at h
        have hq6 := T_207 (X := X) (d := d) (by omega) (M := M) hc6
        have hz6 := Rc.bool mR_207 hq6
        refine Rc.callV tb_229 rfl rfl rfl mS_207 mP_207 mL_207 mO_207 rfl rfl ob_77 rfl rfl hq6 ?_
        refine Rc.if_eq (pc1 := 130) tb_229 rfl rfl (by decide) (by decide) (fun hb7 => ?_) (fun hb7 => ?_)
        · rw [if_pos hb7] at h
          refine Rc.mask (b := 31) ((tb_229.2 130).trans rfl) (ls' := [some (.ref (77)), some (.int (x1)), some (.int (x2)), some (.int (x3)), some (.int (x4)), none, none]) rfl ?_
          exact TJ_229_130_29 (X := X) (d := d + 1) (by omega) h hP hE
        · rw [if_neg hb7] at h
          refine Rc.run tb_229 2 (pc' := 130) (ls' := [some (.ref (77)), some (.int (x1)), some (.int (x2)), some (.int (x4)), some (.int (x4)), none, some (.int (s0))]) (st' := []) rfl rfl ?_
          refine Rc.mask (b := 31) ((tb_229.2 130).trans rfl) (ls' := [some (.ref (77)), some (.int (x1)), some (.int (x2)), some (.int (x4)), some (.int (x4)), none, none]) rfl ?_
          exact TJ_229_130_29 (X := X) (d := d + 1) (by omega) h hP hE
  · rw [if_neg hb9] at h
    refine Rc.mask (b := 31) ((tb_229.2 130).trans rfl) (ls' := [some (.ref (77)), some (.int (x1)), some (.int (x2)), some (.int (x3)), some (.int (x4)), none, none]) rfl ?_
    exact TJ_229_130_29 (X := X) (d := d + 1) (by omega) h hP hE
theorem TJ_229_93_29 {X : AX} {d : Nat} (hd : 130 ≤ d) {x1 : Int32} {x2 : Int32} {x3 : Int32} {x4 : Int32} {M : IM} {v : Option Value} {M' : IM} {o : (Int32 × Int32 × IM) ⊕ (Int32 × Int32 × IM)} (h : J_229_93_29 x1 x2 x3 x4 M = some o) (hP : ∀ s', o = .inl s' → (fun (x3, x4, M) => Rc X d 229 29 [some (.ref (77)), some (.int (x1)), some (.int (x2)), some (.int (x3)), some (.int (x4)), none, none] [] M v M') s') (hE : ∀ r, o = .inr r → (fun (x3, x4, M) => Rc X d 229 136 [some (.ref (77)), none, some (.int (x2)), some (.int (x3)), none, none, none] [] M v M') r) : Rc X d 229 93 [some (.ref (77)), some (.int (x1)), some (.int (x2)), some (.int (x3)), some (.int (x4)), none, none] [] M v M' := by
  obtain ⟨d, rfl⟩ : ∃ e, d = e + 1 := ⟨d - 1, by omega⟩
  unfold J_229_93_29 at h
  dsimp only at hP hE
  refine Rc.run tb_229 2 (pc' := 98) (ls' := [some (.ref (77)), some (.int (x1)), some (.int (x2)), some (.int (x3)), some (.int (x4)), none, none]) (st' := [.int (1)]) rfl rfl ?_
  refine Rc.mask (b := 31) ((tb_229.2 98).trans rfl) (ls' := [some (.ref (77)), some (.int (x1)), some (.int (x2)), some (.int (x3)), some (.int (x4)), none, none]) rfl ?_
  exact TJ_229_98_29 (X := X) (d := d + 1) (by omega) (Or.inr rfl) h hP hE
theorem TJ_229_97_29 {X : AX} {d : Nat} (hd : 130 ≤ d) {x1 : Int32} {x2 : Int32} {x3 : Int32} {x4 : Int32} {M : IM} {v : Option Value} {M' : IM} {o : (Int32 × Int32 × IM) ⊕ (Int32 × Int32 × IM)} (h : J_229_97_29 x1 x2 x3 x4 M = some o) (hP : ∀ s', o = .inl s' → (fun (x3, x4, M) => Rc X d 229 29 [some (.ref (77)), some (.int (x1)), some (.int (x2)), some (.int (x3)), some (.int (x4)), none, none] [] M v M') s') (hE : ∀ r, o = .inr r → (fun (x3, x4, M) => Rc X d 229 136 [some (.ref (77)), none, some (.int (x2)), some (.int (x3)), none, none, none] [] M v M') r) : Rc X d 229 97 [some (.ref (77)), some (.int (x1)), some (.int (x2)), some (.int (x3)), some (.int (x4)), none, none] [] M v M' := by
  obtain ⟨d, rfl⟩ : ∃ e, d = e + 1 := ⟨d - 1, by omega⟩
  unfold J_229_97_29 at h
  dsimp only at hP hE
  refine Rc.run tb_229 1 (pc' := 98) (ls' := [some (.ref (77)), some (.int (x1)), some (.int (x2)), some (.int (x3)), some (.int (x4)), none, none]) (st' := [.int (0)]) rfl rfl ?_
  refine Rc.mask (b := 31) ((tb_229.2 98).trans rfl) (ls' := [some (.ref (77)), some (.int (x1)), some (.int (x2)), some (.int (x3)), some (.int (x4)), none, none]) rfl ?_
  exact TJ_229_98_29 (X := X) (d := d + 1) (by omega) (Or.inl rfl) h hP hE
theorem TB_229_29 {X : AX} {d : Nat} (hd : 130 ≤ d) {x1 : Int32} {x2 : Int32} {v : Option Value} {M' : IM} : ∀ (s : Int32 × Int32 × IM) (o : (Int32 × Int32 × IM) ⊕ (Int32 × Int32 × IM)), B_229_29 x1 x2 s = some o → (∀ s', o = .inl s' → (fun (x3, x4, M) => Rc X d 229 29 [some (.ref (77)), some (.int (x1)), some (.int (x2)), some (.int (x3)), some (.int (x4)), none, none] [] M v M') s') → (∀ r, o = .inr r → (fun (x3, x4, M) => Rc X d 229 136 [some (.ref (77)), none, some (.int (x2)), some (.int (x3)), none, none, none] [] M v M') r) → (fun (x3, x4, M) => Rc X d 229 29 [some (.ref (77)), some (.int (x1)), some (.int (x2)), some (.int (x3)), some (.int (x4)), none, none] [] M v M') s := by
  rintro ⟨x3, x4, M⟩ o h hP hE
  show Rc X d 229 29 [some (.ref (77)), some (.int (x1)), some (.int (x2)), some (.int (x3)), some (.int (x4)), none, none] [] M v M'
  obtain ⟨d, rfl⟩ : ∃ e, d = e + 1 := ⟨d - 1, by omega⟩
  unfold B_229_29 at h
  dsimp only at h hP hE
  refine Rc.run tb_229 2 (pc' := 32) (ls' := [some (.ref (77)), some (.int (x1)), some (.int (x2)), some (.int (x3)), some (.int (x4)), none, none]) (st' := [.int (x1), .int (x4)]) rfl rfl ?_
  refine Rc.icmp_ge (pc1 := 136) tb_229 rfl rfl (by decide) (by decide) (fun hb20 => ?_) (fun hb20 => ?_)
  · rw [if_pos hb20] at h
    refine Rc.mask (b := 13) ((tb_229.2 136).trans rfl) (ls' := [some (.ref (77)), none, some (.int (x2)), some (.int (x3)), none, none, none]) rfl ?_
    obtain rfl := Option.some.inj h
    exact hE _ rfl
  · rw [if_neg hb20] at h
    refine Rc.run tb_229 2 (pc' := 38) (ls' := [some (.ref (77)), some (.int (x1)), some (.int (x2)), some (.int (x3)), some (.int (x4)), none, none]) (st' := [.int (x4), .ref (77)]) rfl rfl ?_
    cases hc4 : F_228 x4 M with
    | none => rw [hc4] at h; cases h
    | some c4 =>
      rw [hc4] at h
      dsimp only at h
      have hq4 := T_228 (X := X) (d := d) (by omega) (M := M) hc4
      refine Rc.callV tb_229 rfl rfl rfl mS_228 mP_228 mL_228 mO_228 rfl rfl ob_77 rfl rfl hq4 ?_
      refine Rc.run tb_229 4 (pc' := 47) (ls' := [some (.ref (77)), some (.int (x1)), some (.int (x2)), some (.int (x3)), some (.int (x4)), some (.int (c4)), none]) (st' := [.int (x3), .ref (77), .int (c4)]) rfl rfl ?_
      cases hc5 : F_228 x3 M with
      | none => rw [hc5] at h; cases h
      | some c5 =>
        rw [hc5] at h
        dsimp only at h
        have hq5 := T_228 (X := X) (d := d) (by omega) (M := M) hc5
        refine Rc.callV tb_229 rfl rfl rfl mS_228 mP_228 mL_228 mO_228 rfl rfl ob_77 rfl rfl hq5 ?_
        refine Rc.icmp_lt (pc1 := 93) tb_229 rfl rfl (by decide) (by decide) (fun hb19 => ?_) (fun hb19 => ?_)
        · rw [if_pos hb19] at h
          refine Rc.mask (b := 31) ((tb_229.2 93).trans rfl) (ls' := [some (.ref (77)), some (.int (x1)), some (.int (x2)), some (.int (x3)), some (.int (x4)), none, none]) rfl ?_
          exact TJ_229_93_29 (X := X) (d := d + 1) (by omega) h hP hE
        · rw [if_neg hb19] at h
          refine Rc.run tb_229 3 (pc' := 57) (ls' := [some (.ref (77)), some (.int (x1)), some (.int (x2)), some (.int (x3)), some (.int (x4)), some (.int (c4)), none]) (st' := [.int (x3), .ref (77), .int (c4)]) rfl rfl ?_
          refine Rc.callV tb_229 rfl rfl rfl mS_228 mP_228 mL_228 mO_228 rfl rfl ob_77 rfl rfl hq5 ?_
          refine Rc.icmp_ne (pc1 := 97) tb_229 rfl rfl (by decide) (by decide) (fun hb18 => ?_) (fun hb18 => ?_)
          · rw [if_pos hb18] at h
            refine Rc.run tb_229 1 (pc' := 65) (ls' := [some (.ref (77)), some (.int (x1)), some (.int (x2)), some (.int (x3)), some (.int (x4)), some (.int (c4)), none]) (st' := [.int (x4)]) rfl rfl ?_
            cases hc11 : F_225 x4 with
            | none => rw [hc11] at h; cases h
            | some c11 =>
              rw [hc11] at h
              dsimp only at h
              have hq11 := T_225 (X := X) (d := d) (by omega) (M := M) hc11
              refine Rc.callS tb_229 rfl rfl rfl mS_225 mP_225 mL_225 rfl rfl rfl hq11 ?_
              refine Rc.run tb_229 1 (pc' := 69) (ls' := [some (.ref (77)), some (.int (x1)), some (.int (x2)), some (.int (x3)), some (.int (x4)), some (.int (c4)), none]) (st' := [.int (x3), .int (c11)]) rfl rfl ?_
              cases hc12 : F_225 x3 with
              | none => rw [hc12] at h; cases h
              | some c12 =>
                rw [hc12] at h
                dsimp only at h
                have hq12 := T_225 (X := X) (d := d) (by omega) (M := M) hc12
                refine Rc.callS tb_229 rfl rfl rfl mS_225 mP_225 mL_225 rfl rfl rfl hq12 ?_
                refine Rc.icmp_lt (pc1 := 93) tb_229 rfl rfl (by decide) (by decide) (fun hb17 => ?_) (fun hb17 => ?_)
                · rw [if_pos hb17] at h
                  refine Rc.mask (b := 31) ((tb_229.2 93).trans rfl) (ls' := [some (.ref (77)), some (.int (x1)), some (.int (x2)), some (.int (x3)), some (.int (x4)), none, none]) rfl ?_
                  exact TJ_229_93_29 (X := X) (d := d + 1) (by omega) h hP hE
                · rw [if_neg hb17] at h
                  refine Rc.run tb_229 1 (pc' := 77) (ls' := [some (.ref (77)), some (.int (x1)), some (.int (x2)), some (.int (x3)), some (.int (x4)), some (.int (c4)), none]) (st' := [.int (x4)]) rfl rfl ?_
                  refine Rc.callS tb_229 rfl rfl rfl mS_225 mP_225 mL_225 rfl rfl rfl hq11 ?_
                  refine Rc.run tb_229 1 (pc' := 81) (ls' := [some (.ref (77)), some (.int (x1)), some (.int (x2)), some (.int (x3)), some (.int (x4)), some (.int (c4)), none]) (st' := [.int (x3), .int (c11)]) rfl rfl ?_
                  refine Rc.callS tb_229 rfl rfl rfl mS_225 mP_225 mL_225 rfl rfl rfl hq12 ?_
                  refine Rc.icmp_ne (pc1 := 97) tb_229 rfl rfl (by decide) (by decide) (fun hb16 => ?_) (fun hb16 => ?_)
                  · rw [if_pos hb16] at h
                    refine Rc.run tb_229 2 (pc' := 90) (ls' := [some (.ref (77)), some (.int (x1)), some (.int (x2)), some (.int (x3)), some (.int (x4)), some (.int (c4)), none]) (st' := [.int (x3), .int (x4)]) rfl rfl ?_
                    refine Rc.icmp_ge (pc1 := 97) tb_229 rfl rfl (by decide) (by decide) (fun hb15 => ?_) (fun hb15 => ?_)
                    · rw [if_pos hb15] at h
                      refine Rc.mask (b := 31) ((tb_229.2 97).trans rfl) (ls' := [some (.ref (77)), some (.int (x1)), some (.int (x2)), some (.int (x3)), some (.int (x4)), none, none]) rfl ?_
                      exact TJ_229_97_29 (X := X) (d := d + 1) (by omega) h hP hE
                    · rw [if_neg hb15] at h
                      refine Rc.mask (b := 31) ((tb_229.2 93).trans rfl) (ls' := [some (.ref (77)), some (.int (x1)), some (.int (x2)), some (.int (x3)), some (.int (x4)), none, none]) rfl ?_
                      exact TJ_229_93_29 (X := X) (d := d + 1) (by omega) h hP hE
                  · rw [if_neg hb16] at h
                    refine Rc.mask (b := 31) ((tb_229.2 97).trans rfl) (ls' := [some (.ref (77)), some (.int (x1)), some (.int (x2)), some (.int (x3)), some (.int (x4)), none, none]) rfl ?_
                    exact TJ_229_97_29 (X := X) (d := d + 1) (by omega) h hP hE
          · rw [if_neg hb18] at h
            refine Rc.mask (b := 31) ((tb_229.2 97).trans rfl) (ls' := [some (.ref (77)), some (.int (x1)), some (.int (x2)), some (.int (x3)), some (.int (x4)), none, none]) rfl ?_
            exact TJ_229_97_29 (X := X) (d := d + 1) (by omega) h hP hE
theorem TL_229_29 {X : AX} {d : Nat} (hd : 130 ≤ d) {x1 : Int32} {x2 : Int32} {x3 : Int32} {x4 : Int32} {M : IM} {v : Option Value} {M' : IM} {r : Int32 × Int32 × IM} (h : L_229_29 x1 x2 x3 x4 M = some r) (hE : (fun (x3, x4, M) => Rc X d 229 136 [some (.ref (77)), none, some (.int (x2)), some (.int (x3)), none, none, none] [] M v M') r) : Rc X d 229 29 [some (.ref (77)), some (.int (x1)), some (.int (x2)), some (.int (x3)), some (.int (x4)), none, none] [] M v M' := by
  exact loopN_rc (P := fun (x3, x4, M) => Rc X d 229 29 [some (.ref (77)), some (.int (x1)), some (.int (x2)), some (.int (x3)), some (.int (x4)), none, none] [] M v M') (E := fun (x3, x4, M) => Rc X d 229 136 [some (.ref (77)), none, some (.int (x2)), some (.int (x3)), none, none, none] [] M v M') (TB_229_29 (X := X) hd) FU _ r h hE
theorem TJ_229_136 {X : AX} {d : Nat} (hd : 130 ≤ d) {x2 : Int32} {x3 : Int32} {M : IM} {v : Option Value} {M' : IM} {o : Int32 × IM} (h : J_229_136 x2 x3 M = some o) (hC : v = some (.int o.1) ∧ M' = o.2) : Rc X d 229 136 [some (.ref (77)), none, some (.int (x2)), some (.int (x3)), none, none, none] [] M v M' := by
  obtain ⟨d, rfl⟩ : ∃ e, d = e + 1 := ⟨d - 1, by omega⟩
  unfold J_229_136 at h
  refine Rc.run tb_229 1 (pc' := 137) (ls' := [some (.ref (77)), none, some (.int (x2)), some (.int (x3)), none, none, none]) (st' := [.int (x2)]) rfl rfl ?_
  refine Rc.if_ne (pc1 := 144) tb_229 rfl rfl (by decide) (by decide) (fun hb23 => ?_) (fun hb23 => ?_)
  · rw [if_pos hb23] at h
    refine Rc.run tb_229 2 (pc' := 149) (ls' := [some (.ref (77)), none, some (.int (x2)), some (.int (x3)), none, none, none]) (st' := [.int (x3)]) rfl rfl ?_
    obtain rfl := Option.some.inj h
    obtain ⟨rfl, rfl⟩ := hC
    exact Rc.iret (ins := .ireturn) tb_229 rfl mR_229
  · rw [if_neg hb23] at h
    refine Rc.run tb_229 2 (pc' := 146) (ls' := [some (.ref (77)), none, some (.int (x2)), some (.int (x3)), none, none, none]) (st' := [.int (x3), .ref (77)]) rfl rfl ?_
    cases hc22 : F_228 x3 M with
    | none => rw [hc22] at h; cases h
    | some c22 =>
      rw [hc22] at h
      dsimp only at h
      have hq22 := T_228 (X := X) (d := d) (by omega) (M := M) hc22
      refine Rc.callV tb_229 rfl rfl rfl mS_228 mP_228 mL_228 mO_228 rfl rfl ob_77 rfl rfl hq22 ?_
      obtain rfl := Option.some.inj h
      obtain ⟨rfl, rfl⟩ := hC
      exact Rc.iret (ins := .ireturn) tb_229 rfl mR_229
theorem TF_229 {X : AX} {d : Nat} (hd : 130 ≤ d) {a1 : Int32} {a2 : Int32} {M : IM} {v : Option Value} {M' : IM} {o : Int32 × IM} (h : F_229 a1 a2 M = some o) (hC : v = some (.int o.1) ∧ M' = o.2) : Rc X d 229 0 [some (.ref (77)), some (.int (a1)), some (.int (a2)), none, none, none, none] [] M v M' := by
  obtain ⟨d, rfl⟩ : ∃ e, d = e + 1 := ⟨d - 1, by omega⟩
  unfold F_229 at h
  refine Rc.run tb_229 2 (pc' := 2) (ls' := [some (.ref (77)), some (.int (a1)), some (.int (a2)), none, none, none, none]) (st' := [.int (a1), .ref (77)]) rfl rfl ?_
  have hq1 := T_161 (X := X) (d := d) (by omega) a1 M
  have hz1 := Rc.bool mR_161 hq1
  refine Rc.callV tb_229 rfl rfl rfl mS_161 mP_161 mL_161 mO_161 rfl rfl ob_77 rfl rfl hq1 ?_
  refine Rc.if_eq (pc1 := 17) tb_229 rfl rfl (by decide) (by decide) (fun hb25 => ?_) (fun hb25 => ?_)
  · rw [if_pos hb25] at h
    refine Rc.mask (b := 1) ((tb_229.2 17).trans rfl) (ls' := [some (.ref (77)), none, none, none, none, none, none]) rfl ?_
    exact TJ_229_17 (X := X) (d := d + 1) (by omega) h hC
  · rw [if_neg hb25] at h
    refine Rc.run tb_229 3 (pc' := 11) (ls' := [some (.ref (77)), some (.int (a1)), some (.int (a2)), none, none, none, none]) (st' := [.int (1), .int (0), .int (a2)]) rfl rfl ?_
    have hq3 := T_157 (X := X) (d := d) (by omega) a2 (0 : Int32) (1 : Int32) M
    have hz3 := Rc.bool mR_157 hq3
    refine Rc.callS tb_229 rfl rfl rfl mS_157 mP_157 mL_157 rfl rfl rfl hq3 ?_
    refine Rc.if_ne (pc1 := 24) tb_229 rfl rfl (by decide) (by decide) (fun hb24 => ?_) (fun hb24 => ?_)
    · rw [if_pos hb24] at h
      refine Rc.mask (b := 1) ((tb_229.2 17).trans rfl) (ls' := [some (.ref (77)), none, none, none, none, none, none]) rfl ?_
      exact TJ_229_17 (X := X) (d := d + 1) (by omega) h hC
    · rw [if_neg hb24] at h
      refine Rc.run tb_229 4 (pc' := 29) (ls' := [some (.ref (77)), some (.int (a1)), some (.int (a2)), some (.int (a1)), some (.int (0)), none, none]) (st' := []) rfl rfl ?_
      refine Rc.mask (b := 31) ((tb_229.2 29).trans rfl) (ls' := [some (.ref (77)), some (.int (a1)), some (.int (a2)), some (.int (a1)), some (.int (0)), none, none]) rfl ?_
      cases hl21 : L_229_29 a1 a2 a1 0 M with
      | none => rw [hl21] at h; cases h
      | some r21 =>
        obtain ⟨x3_21, x4_21, M21⟩ := r21
        rw [hl21] at h
        dsimp only at h
        refine TL_229_29 (X := X) (d := d + 1) (by omega) hl21 ?_
        refine Rc.mask (b := 13) ((tb_229.2 136).trans rfl) (ls' := [some (.ref (77)), none, some (.int (a2)), some (.int (x3_21)), none, none, none]) rfl ?_
        exact TJ_229_136 (X := X) (d := d + 1) (by omega) h hC
theorem T_229 {X : AX} {d : Nat} (hd : 130 ≤ d) {a1 : Int32} {a2 : Int32} {M : IM} {x : Int32} {M1 : IM} (h : F_229 a1 a2 M = some (x, M1)) : Rc X d 229 0 [some (.ref (77)), some (.int (a1)), some (.int (a2)), none, none, none, none] [] M (some (.int x)) M1 := TF_229 hd h ⟨rfl, rfl⟩
/-! 230: NineDemandsModel.isFollowing -/
def J_230_195_7 (x2 : Int32) (x3 : Int32) (x8 : Int32) (M : IM) : Option ((Int32 × IM) ⊕ ((Int32 × IM) ⊕ (Int32 × IM))) := if x8 = 0 then (some (Sum.inl (x3 + 1, M))) else (some (Sum.inr (Sum.inr (0, M))))
def J_230_174_7 (x2 : Int32) (x3 : Int32) (x7 : Int32) (x9 : Int32) (s0 : Int32) (s1 : Int32) (s2 : Int32) (M : IM) : Option ((Int32 × IM) ⊕ ((Int32 × IM) ⊕ (Int32 × IM))) := if inb s2 144 = true then (match K_206 (0 : Int32) (4095 : Int32) (iset M 88 s2.toNatClampNeg (s1 &&& s0)) with | none => none | some (c6, M6) => (if inb x9 144 = true then (J_230_195_7 x2 x3 c6 (iset M6 88 x9.toNatClampNeg x7)) else none)) else none
def J_230_88_7 (x2 : Int32) (x3 : Int32) (x4 : Int32) (x5 : Int32) (x6 : Int32) (s0 : Int32) (M : IM) : Option ((Int32 × IM) ⊕ ((Int32 × IM) ⊕ (Int32 × IM))) := if (0 : Int32) ≤ x5 then (if x5 ≤ x4 then (match F_203 x6 with | none => none | some c5 => (J_230_174_7 x2 x3 s0 ((12 * (bif decide (x5 < x4) then x5 else x4)) + (bif decide (x4 < x5) then x5 else x4)) c5 s0 ((12 * (bif decide (x5 < x4) then x5 else x4)) + (bif decide (x4 < x5) then x5 else x4)) M)) else (J_230_174_7 x2 x3 s0 ((12 * (bif decide (x5 < x4) then x5 else x4)) + (bif decide (x4 < x5) then x5 else x4)) x6 s0 ((12 * (bif decide (x5 < x4) then x5 else x4)) + (bif decide (x4 < x5) then x5 else x4)) M)) else (if inb x4 12 = true then (match K_206 (0 : Int32) (4095 : Int32) (iset M 87 x4.toNatClampNeg (s0 &&& x6)) with | none => none | some (c11, M11) => (if inb x4 12 = true then (J_230_195_7 x2 x3 c11 (iset M11 87 x4.toNatClampNeg s0)) else none)) else none)
def B_230_7 (x2 : Int32) : (Int32 × IM) → Option ((Int32 × IM) ⊕ ((Int32 × IM) ⊕ (Int32 × IM))) := fun (x3, M) => (match F_164 x2 M with | none => none | some c2 => (if c2 ≤ x3 then (some (Sum.inr (Sum.inl (x3, M)))) else (match F_195 x2 x3 M with | none => none | some c3 => (match F_196 x2 x3 M with | none => none | some c4 => (if inb ((110 + (32 * x2)) + x3) 366 = true then (if (0 : Int32) ≤ c4 then (if inb ((12 * (bif decide (c4 < c3) then c4 else c3)) + (bif decide (c3 < c4) then c4 else c3)) 144 = true then (J_230_88_7 x2 x3 c3 c4 ((M 78 ((110 + (32 * x2)) + x3).toNatClampNeg) ^^^ (-1)) (M 88 ((12 * (bif decide (c4 < c3) then c4 else c3)) + (bif decide (c3 < c4) then c4 else c3)).toNatClampNeg) M) else none) else (if inb c3 12 = true then (J_230_88_7 x2 x3 c3 c4 ((M 78 ((110 + (32 * x2)) + x3).toNatClampNeg) ^^^ (-1)) (M 87 c3.toNatClampNeg) M) else none)) else none)))))
def L_230_7 (x2 : Int32) (x3 : Int32) (M : IM) : Option ((Int32 × IM) ⊕ (Int32 × IM)) := loopN (B_230_7 x2) FU (x3, M)
def F_230 (a1 : Int32) (a2 : Int32) (M : IM) : Option (Int32 × IM) := (match F_204 a1 M with | none => none | some M1 => (match L_230_7 a2 0 M1 with | none => none | some (.inl (x3_20, M20)) => (some ((1, M20))) | some (.inr q) => some (q)))
theorem TJ_230_195_7 {X : AX} {d : Nat} (hd : 129 ≤ d) {x2 : Int32} {x3 : Int32} {x8 : Int32} {M : IM} (hx8 : x8 = 0 ∨ x8 = 1) {v : Option Value} {M' : IM} {o : (Int32 × IM) ⊕ ((Int32 × IM) ⊕ (Int32 × IM))} (h : J_230_195_7 x2 x3 x8 M = some o) (hP : ∀ s', o = .inl s' → (fun (x3, M) => Rc X d 230 7 [some (.ref (77)), none, some (.int (x2)), some (.int (x3)), none, none, none, none, none, none] [] M v M') s') (hE : ∀ r, o = .inr r → (fun r => match r with | .inl (x3, M) => Rc X d 230 208 [none, none, none, none, none, none, none, none, none, none] [] M v M' | .inr q => v = some (.int q.1) ∧ M' = q.2) r) : Rc X d 230 195 [some (.ref (77)), none, some (.int (x2)), some (.int (x3)), none, none, none, none, some (.int (x8)), none] [] M v M' := by
  obtain ⟨d, rfl⟩ : ∃ e, d = e + 1 := ⟨d - 1, by omega⟩
  unfold J_230_195_7 at h
  dsimp only at hP hE
  refine Rc.run tb_230 1 (pc' := 197) (ls' := [some (.ref (77)), none, some (.int (x2)), some (.int (x3)), none, none, none, none, some (.int (x8)), none]) (st' := [.int (x8)]) rfl rfl ?_
  refine Rc.if_eq (pc1 := 202) tb_230 rfl rfl (by decide) (by decide) (fun hb7 => ?_) (fun hb7 => ?_)
  · rw [if_pos hb7] at h
    refine Rc.run tb_230 2 (pc' := 7) (ls' := [some (.ref (77)), none, some (.int (x2)), some (.int (x3 + 1)), none, none, none, none, some (.int (x8)), none]) (st' := []) rfl rfl ?_
    refine Rc.mask (b := 13) ((tb_230.2 7).trans rfl) (ls' := [some (.ref (77)), none, some (.int (x2)), some (.int (x3 + 1)), none, none, none, none, none, none]) rfl ?_
    obtain rfl := Option.some.inj h
    exact hP _ rfl
  · rw [if_neg hb7] at h
    refine Rc.run tb_230 1 (pc' := 201) (ls' := [some (.ref (77)), none, some (.int (x2)), some (.int (x3)), none, none, none, none, some (.int (x8)), none]) (st' := [.int (0)]) rfl rfl ?_
    obtain rfl := Option.some.inj h
    obtain ⟨rfl, rfl⟩ := hE _ rfl
    exact Rc.zret tb_230 rfl mR_230 (Or.inl rfl)
theorem TJ_230_174_7 {X : AX} {d : Nat} (hd : 129 ≤ d) {x2 : Int32} {x3 : Int32} {x7 : Int32} {x9 : Int32} {s0 : Int32} {s1 : Int32} {s2 : Int32} {M : IM} {v : Option Value} {M' : IM} {o : (Int32 × IM) ⊕ ((Int32 × IM) ⊕ (Int32 × IM))} (h : J_230_174_7 x2 x3 x7 x9 s0 s1 s2 M = some o) (hP : ∀ s', o = .inl s' → (fun (x3, M) => Rc X d 230 7 [some (.ref (77)), none, some (.int (x2)), some (.int (x3)), none, none, none, none, none, none] [] M v M') s') (hE : ∀ r, o = .inr r → (fun r => match r with | .inl (x3, M) => Rc X d 230 208 [none, none, none, none, none, none, none, none, none, none] [] M v M' | .inr q => v = some (.int q.1) ∧ M' = q.2) r) : Rc X d 230 174 [some (.ref (77)), none, some (.int (x2)), some (.int (x3)), none, none, none, some (.int (x7)), none, some (.int (x9))] [.int (s0), .int (s1), .int (s2), .ref (88)] M v M' := by
  obtain ⟨d, rfl⟩ : ∃ e, d = e + 1 := ⟨d - 1, by omega⟩
  unfold J_230_174_7 at h
  dsimp only at hP hE
  refine Rc.run tb_230 1 (pc' := 175) (ls' := [some (.ref (77)), none, some (.int (x2)), some (.int (x3)), none, none, none, some (.int (x7)), none, some (.int (x9))]) (st' := [.int (s1 &&& s0), .int (s2), .ref (88)]) rfl rfl ?_
  by_cases hb9 : inb s2 144 = true
  · rw [if_pos hb9] at h
    refine Rc.iast tb_230 rfl rfl ia_88 hb9 ?_
    refine Rc.run tb_230 3 (pc' := 181) (ls' := [some (.ref (77)), none, some (.int (x2)), some (.int (x3)), none, none, none, some (.int (x7)), none, some (.int (x9))]) (st' := [.int (4095), .int (0), .ref (77)]) rfl rfl ?_
    cases hc6 : K_206 (0 : Int32) (4095 : Int32) (iset M 88 s2.toNatClampNeg (s1 &&& s0)) with
    | none => rw [hc6] at h; cases h
    | some r6 =>
      obtain ⟨c6, M6⟩ := r6
      rw [hc6] at h
      dsimp only at h
      have hq6 := TK_206 (X := X) (d := d) (by omega) (M := iset M 88 s2.toNatClampNeg (s1 &&& s0)) hc6
      have hz6 := Rc.bool mR_206 hq6
      refine Rc.callV tb_230 rfl rfl rfl mS_206 mP_206 mL_206 mO_206 rfl rfl ob_77 rfl rfl hq6 ?_
      refine Rc.run tb_230 2 (pc' := 187) (ls' := [some (.ref (77)), none, some (.int (x2)), some (.int (x3)), none, none, none, some (.int (x7)), some (.int (c6)), some (.int (x9))]) (st' := [.ref (77)]) rfl rfl ?_
      refine Rc.getR tb_230 rfl rfl ob_77 (by decide +kernel) tg_77_20 (by decide) ?_
      refine Rc.run tb_230 2 (pc' := 194) (ls' := [some (.ref (77)), none, some (.int (x2)), some (.int (x3)), none, none, none, some (.int (x7)), some (.int (c6)), some (.int (x9))]) (st' := [.int (x7), .int (x9), .ref (88)]) rfl rfl ?_
      by_cases hb8 : inb x9 144 = true
      · rw [if_pos hb8] at h
        refine Rc.iast tb_230 rfl rfl ia_88 hb8 ?_
        refine Rc.mask (b := 269) ((tb_230.2 195).trans rfl) (ls' := [some (.ref (77)), none, some (.int (x2)), some (.int (x3)), none, none, none, none, some (.int (c6)), none]) rfl ?_
        exact TJ_230_195_7 (X := X) (d := d + 1) (by omega) hz6 h hP hE
      · rw [if_neg hb8] at h
        cases h
  · rw [if_neg hb9] at h
    cases h
theorem TJ_230_88_7 {X : AX} {d : Nat} (hd : 129 ≤ d) {x2 : Int32} {x3 : Int32} {x4 : Int32} {x5 : Int32} {x6 : Int32} {s0 : Int32} {M : IM} {v : Option Value} {M' : IM} {o : (Int32 × IM) ⊕ ((Int32 × IM) ⊕ (Int32 × IM))} (h : J_230_88_7 x2 x3 x4 x5 x6 s0 M = some o) (hP : ∀ s', o = .inl s' → (fun (x3, M) => Rc X d 230 7 [some (.ref (77)), none, some (.int (x2)), some (.int (x3)), none, none, none, none, none, none] [] M v M') s') (hE : ∀ r, o = .inr r → (fun r => match r with | .inl (x3, M) => Rc X d 230 208 [none, none, none, none, none, none, none, none, none, none] [] M v M' | .inr q => v = some (.int q.1) ∧ M' = q.2) r) : Rc X d 230 88 [some (.ref (77)), none, some (.int (x2)), some (.int (x3)), some (.int (x4)), some (.int (x5)), some (.int (x6)), none, none, none] [.int (s0)] M v M' := by
  obtain ⟨d, rfl⟩ : ∃ e, d = e + 1 := ⟨d - 1, by omega⟩
  unfold J_230_88_7 at h
  dsimp only at hP hE
  refine Rc.run tb_230 2 (pc' := 92) (ls' := [some (.ref (77)), none, some (.int (x2)), some (.int (x3)), some (.int (x4)), some (.int (x5)), some (.int (x6)), some (.int (s0)), none, none]) (st' := [.int (x5)]) rfl rfl ?_
  refine Rc.if_ge (pc1 := 129) tb_230 rfl rfl (by decide) (by decide) (fun hb14 => ?_) (fun hb14 => ?_)
  · rw [if_pos hb14] at h
    refine Rc.run tb_230 3 (pc' := 135) (ls' := [some (.ref (77)), none, some (.int (x2)), some (.int (x3)), some (.int (x4)), some (.int (x5)), some (.int (x6)), some (.int (s0)), none, none]) (st' := [.int (x5), .int (x4), .int (12)]) rfl rfl ?_
    refine Rc.minS tb_230 rfl rfl rfl ?_
    refine Rc.run tb_230 3 (pc' := 143) (ls' := [some (.ref (77)), none, some (.int (x2)), some (.int (x3)), some (.int (x4)), some (.int (x5)), some (.int (x6)), some (.int (s0)), none, none]) (st' := [.int (x5), .int (x4), .int (12 * (bif decide (x5 < x4) then x5 else x4))]) rfl rfl ?_
    refine Rc.maxS tb_230 rfl rfl rfl ?_
    refine Rc.run tb_230 3 (pc' := 150) (ls' := [some (.ref (77)), none, some (.int (x2)), some (.int (x3)), some (.int (x4)), some (.int (x5)), some (.int (x6)), some (.int (s0)), none, some (.int ((12 * (bif decide (x5 < x4) then x5 else x4)) + (bif decide (x4 < x5) then x5 else x4)))]) (st' := [.ref (77)]) rfl rfl ?_
    refine Rc.getR tb_230 rfl rfl ob_77 (by decide +kernel) tg_77_20 (by decide) ?_
    refine Rc.run tb_230 4 (pc' := 161) (ls' := [some (.ref (77)), none, some (.int (x2)), some (.int (x3)), some (.int (x4)), some (.int (x5)), some (.int (x6)), some (.int (s0)), none, some (.int ((12 * (bif decide (x5 < x4) then x5 else x4)) + (bif decide (x4 < x5) then x5 else x4)))]) (st' := [.int (x5), .int (x4), .int (s0), .int ((12 * (bif decide (x5 < x4) then x5 else x4)) + (bif decide (x4 < x5) then x5 else x4)), .ref (88)]) rfl rfl ?_
    refine Rc.icmp_ge (pc1 := 169) tb_230 rfl rfl (by decide) (by decide) (fun hb10 => ?_) (fun hb10 => ?_)
    · rw [if_pos hb10] at h
      refine Rc.run tb_230 1 (pc' := 171) (ls' := [some (.ref (77)), none, some (.int (x2)), some (.int (x3)), some (.int (x4)), some (.int (x5)), some (.int (x6)), some (.int (s0)), none, some (.int ((12 * (bif decide (x5 < x4) then x5 else x4)) + (bif decide (x4 < x5) then x5 else x4)))]) (st' := [.int (x6), .int (s0), .int ((12 * (bif decide (x5 < x4) then x5 else x4)) + (bif decide (x4 < x5) then x5 else x4)), .ref (88)]) rfl rfl ?_
      cases hc5 : F_203 x6 with
      | none => rw [hc5] at h; cases h
      | some c5 =>
        rw [hc5] at h
        dsimp only at h
        have hq5 := T_203 (X := X) (d := d) (by omega) (M := M) hc5
        refine Rc.callS tb_230 rfl rfl rfl mS_203 mP_203 mL_203 rfl rfl rfl hq5 ?_
        refine Rc.mask (b := 653) ((tb_230.2 174).trans rfl) (ls' := [some (.ref (77)), none, some (.int (x2)), some (.int (x3)), none, none, none, some (.int (s0)), none, some (.int ((12 * (bif decide (x5 < x4) then x5 else x4)) + (bif decide (x4 < x5) then x5 else x4)))]) rfl ?_
        exact TJ_230_174_7 (X := X) (d := d + 1) (by omega) h hP hE
    · rw [if_neg hb10] at h
      refine Rc.run tb_230 2 (pc' := 174) (ls' := [some (.ref (77)), none, some (.int (x2)), some (.int (x3)), some (.int (x4)), some (.int (x5)), some (.int (x6)), some (.int (s0)), none, some (.int ((12 * (bif decide (x5 < x4) then x5 else x4)) + (bif decide (x4 < x5) then x5 else x4)))]) (st' := [.int (x6), .int (s0), .int ((12 * (bif decide (x5 < x4) then x5 else x4)) + (bif decide (x4 < x5) then x5 else x4)), .ref (88)]) rfl rfl ?_
      refine Rc.mask (b := 653) ((tb_230.2 174).trans rfl) (ls' := [some (.ref (77)), none, some (.int (x2)), some (.int (x3)), none, none, none, some (.int (s0)), none, some (.int ((12 * (bif decide (x5 < x4) then x5 else x4)) + (bif decide (x4 < x5) then x5 else x4)))]) rfl ?_
      exact TJ_230_174_7 (X := X) (d := d + 1) (by omega) h hP hE
  · rw [if_neg hb14] at h
    refine Rc.run tb_230 1 (pc' := 96) (ls' := [some (.ref (77)), none, some (.int (x2)), some (.int (x3)), some (.int (x4)), some (.int (x5)), some (.int (x6)), some (.int (s0)), none, none]) (st' := [.ref (77)]) rfl rfl ?_
    refine Rc.getR tb_230 rfl rfl ob_77 (by decide +kernel) tg_77_19 (by decide) ?_
    refine Rc.run tb_230 4 (pc' := 106) (ls' := [some (.ref (77)), none, some (.int (x2)), some (.int (x3)), some (.int (x4)), some (.int (x5)), some (.int (x6)), some (.int (s0)), none, none]) (st' := [.int (s0 &&& x6), .int (x4), .ref (87)]) rfl rfl ?_
    by_cases hb13 : inb x4 12 = true
    · rw [if_pos hb13] at h
      refine Rc.iast tb_230 rfl rfl ia_87 hb13 ?_
      refine Rc.run tb_230 3 (pc' := 112) (ls' := [some (.ref (77)), none, some (.int (x2)), some (.int (x3)), some (.int (x4)), some (.int (x5)), some (.int (x6)), some (.int (s0)), none, none]) (st' := [.int (4095), .int (0), .ref (77)]) rfl rfl ?_
      cases hc11 : K_206 (0 : Int32) (4095 : Int32) (iset M 87 x4.toNatClampNeg (s0 &&& x6)) with
      | none => rw [hc11] at h; cases h
      | some r11 =>
        obtain ⟨c11, M11⟩ := r11
        rw [hc11] at h
        dsimp only at h
        have hq11 := TK_206 (X := X) (d := d) (by omega) (M := iset M 87 x4.toNatClampNeg (s0 &&& x6)) hc11
        have hz11 := Rc.bool mR_206 hq11
        refine Rc.callV tb_230 rfl rfl rfl mS_206 mP_206 mL_206 mO_206 rfl rfl ob_77 rfl rfl hq11 ?_
        refine Rc.run tb_230 2 (pc' := 118) (ls' := [some (.ref (77)), none, some (.int (x2)), some (.int (x3)), some (.int (x4)), some (.int (x5)), some (.int (x6)), some (.int (s0)), some (.int (c11)), none]) (st' := [.ref (77)]) rfl rfl ?_
        refine Rc.getR tb_230 rfl rfl ob_77 (by decide +kernel) tg_77_19 (by decide) ?_
        refine Rc.run tb_230 2 (pc' := 125) (ls' := [some (.ref (77)), none, some (.int (x2)), some (.int (x3)), some (.int (x4)), some (.int (x5)), some (.int (x6)), some (.int (s0)), some (.int (c11)), none]) (st' := [.int (s0), .int (x4), .ref (87)]) rfl rfl ?_
        by_cases hb12 : inb x4 12 = true
        · rw [if_pos hb12] at h
          refine Rc.iast tb_230 rfl rfl ia_87 hb12 ?_
          refine Rc.run tb_230 1 (pc' := 195) (ls' := [some (.ref (77)), none, some (.int (x2)), some (.int (x3)), some (.int (x4)), some (.int (x5)), some (.int (x6)), some (.int (s0)), some (.int (c11)), none]) (st' := []) rfl rfl ?_
          refine Rc.mask (b := 269) ((tb_230.2 195).trans rfl) (ls' := [some (.ref (77)), none, some (.int (x2)), some (.int (x3)), none, none, none, none, some (.int (c11)), none]) rfl ?_
          exact TJ_230_195_7 (X := X) (d := d + 1) (by omega) hz11 h hP hE
        · rw [if_neg hb12] at h
          cases h
    · rw [if_neg hb13] at h
      cases h
theorem TB_230_7 {X : AX} {d : Nat} (hd : 129 ≤ d) {x2 : Int32} {v : Option Value} {M' : IM} : ∀ (s : Int32 × IM) (o : (Int32 × IM) ⊕ ((Int32 × IM) ⊕ (Int32 × IM))), B_230_7 x2 s = some o → (∀ s', o = .inl s' → (fun (x3, M) => Rc X d 230 7 [some (.ref (77)), none, some (.int (x2)), some (.int (x3)), none, none, none, none, none, none] [] M v M') s') → (∀ r, o = .inr r → (fun r => match r with | .inl (x3, M) => Rc X d 230 208 [none, none, none, none, none, none, none, none, none, none] [] M v M' | .inr q => v = some (.int q.1) ∧ M' = q.2) r) → (fun (x3, M) => Rc X d 230 7 [some (.ref (77)), none, some (.int (x2)), some (.int (x3)), none, none, none, none, none, none] [] M v M') s := by
  rintro ⟨x3, M⟩ o h hP hE
  show Rc X d 230 7 [some (.ref (77)), none, some (.int (x2)), some (.int (x3)), none, none, none, none, none, none] [] M v M'
  obtain ⟨d, rfl⟩ : ∃ e, d = e + 1 := ⟨d - 1, by omega⟩
  unfold B_230_7 at h
  dsimp only at h hP hE
  refine Rc.run tb_230 3 (pc' := 10) (ls' := [some (.ref (77)), none, some (.int (x2)), some (.int (x3)), none, none, none, none, none, none]) (st' := [.int (x2), .ref (77), .int (x3)]) rfl rfl ?_
  cases hc2 : F_164 x2 M with
  | none => rw [hc2] at h; cases h
  | some c2 =>
    rw [hc2] at h
    dsimp only at h
    have hq2 := T_164 (X := X) (d := d) (by omega) (M := M) hc2
    refine Rc.callV tb_230 rfl rfl rfl mS_164 mP_164 mL_164 mO_164 rfl rfl ob_77 rfl rfl hq2 ?_
    refine Rc.icmp_ge (pc1 := 208) tb_230 rfl rfl (by decide) (by decide) (fun hb19 => ?_) (fun hb19 => ?_)
    · rw [if_pos hb19] at h
      refine Rc.mask (b := 0) ((tb_230.2 208).trans rfl) (ls' := [none, none, none, none, none, none, none, none, none, none]) rfl ?_
      obtain rfl := Option.some.inj h
      exact hE _ rfl
    · rw [if_neg hb19] at h
      refine Rc.run tb_230 3 (pc' := 19) (ls' := [some (.ref (77)), none, some (.int (x2)), some (.int (x3)), none, none, none, none, none, none]) (st' := [.int (x3), .int (x2), .ref (77)]) rfl rfl ?_
      cases hc3 : F_195 x2 x3 M with
      | none => rw [hc3] at h; cases h
      | some c3 =>
        rw [hc3] at h
        dsimp only at h
        have hq3 := T_195 (X := X) (d := d) (by omega) (M := M) hc3
        refine Rc.callV tb_230 rfl rfl rfl mS_195 mP_195 mL_195 mO_195 rfl rfl ob_77 rfl rfl hq3 ?_
        refine Rc.run tb_230 4 (pc' := 27) (ls' := [some (.ref (77)), none, some (.int (x2)), some (.int (x3)), some (.int (c3)), none, none, none, none, none]) (st' := [.int (x3), .int (x2), .ref (77)]) rfl rfl ?_
        cases hc4 : F_196 x2 x3 M with
        | none => rw [hc4] at h; cases h
        | some c4 =>
          rw [hc4] at h
          dsimp only at h
          have hq4 := T_196 (X := X) (d := d) (by omega) (M := M) hc4
          refine Rc.callV tb_230 rfl rfl rfl mS_196 mP_196 mL_196 mO_196 rfl rfl ob_77 rfl rfl hq4 ?_
          refine Rc.run tb_230 2 (pc' := 33) (ls' := [some (.ref (77)), none, some (.int (x2)), some (.int (x3)), some (.int (c3)), some (.int (c4)), none, none, none, none]) (st' := [.ref (77)]) rfl rfl ?_
          refine Rc.getR tb_230 rfl rfl ob_77 (by decide +kernel) tg_77_0 (by decide) ?_
          refine Rc.run tb_230 7 (pc' := 45) (ls' := [some (.ref (77)), none, some (.int (x2)), some (.int (x3)), some (.int (c3)), some (.int (c4)), none, none, none, none]) (st' := [.int ((110 + (32 * x2)) + x3), .ref (78)]) rfl rfl ?_
          by_cases hb18 : inb ((110 + (32 * x2)) + x3) 366 = true
          · rw [if_pos hb18] at h
            refine Rc.iald tb_230 rfl rfl ia_78 hb18 ?_
            refine Rc.run tb_230 4 (pc' := 52) (ls' := [some (.ref (77)), none, some (.int (x2)), some (.int (x3)), some (.int (c3)), some (.int (c4)), some (.int ((M 78 ((110 + (32 * x2)) + x3).toNatClampNeg) ^^^ (-1))), none, none, none]) (st' := [.int (c4)]) rfl rfl ?_
            refine Rc.if_ge (pc1 := 65) tb_230 rfl rfl (by decide) (by decide) (fun hb17 => ?_) (fun hb17 => ?_)
            · rw [if_pos hb17] at h
              refine Rc.run tb_230 1 (pc' := 66) (ls' := [some (.ref (77)), none, some (.int (x2)), some (.int (x3)), some (.int (c3)), some (.int (c4)), some (.int ((M 78 ((110 + (32 * x2)) + x3).toNatClampNeg) ^^^ (-1))), none, none, none]) (st' := [.ref (77)]) rfl rfl ?_
              refine Rc.getR tb_230 rfl rfl ob_77 (by decide +kernel) tg_77_20 (by decide) ?_
              refine Rc.run tb_230 3 (pc' := 75) (ls' := [some (.ref (77)), none, some (.int (x2)), some (.int (x3)), some (.int (c3)), some (.int (c4)), some (.int ((M 78 ((110 + (32 * x2)) + x3).toNatClampNeg) ^^^ (-1))), none, none, none]) (st' := [.int (c4), .int (c3), .int (12), .ref (88)]) rfl rfl ?_
              refine Rc.minS tb_230 rfl rfl rfl ?_
              refine Rc.run tb_230 3 (pc' := 83) (ls' := [some (.ref (77)), none, some (.int (x2)), some (.int (x3)), some (.int (c3)), some (.int (c4)), some (.int ((M 78 ((110 + (32 * x2)) + x3).toNatClampNeg) ^^^ (-1))), none, none, none]) (st' := [.int (c4), .int (c3), .int (12 * (bif decide (c4 < c3) then c4 else c3)), .ref (88)]) rfl rfl ?_
              refine Rc.maxS tb_230 rfl rfl rfl ?_
              refine Rc.run tb_230 1 (pc' := 87) (ls' := [some (.ref (77)), none, some (.int (x2)), some (.int (x3)), some (.int (c3)), some (.int (c4)), some (.int ((M 78 ((110 + (32 * x2)) + x3).toNatClampNeg) ^^^ (-1))), none, none, none]) (st' := [.int ((12 * (bif decide (c4 < c3) then c4 else c3)) + (bif decide (c3 < c4) then c4 else c3)), .ref (88)]) rfl rfl ?_
              by_cases hb15 : inb ((12 * (bif decide (c4 < c3) then c4 else c3)) + (bif decide (c3 < c4) then c4 else c3)) 144 = true
              · rw [if_pos hb15] at h
                refine Rc.iald tb_230 rfl rfl ia_88 hb15 ?_
                refine Rc.mask (b := 125) ((tb_230.2 88).trans rfl) (ls' := [some (.ref (77)), none, some (.int (x2)), some (.int (x3)), some (.int (c3)), some (.int (c4)), some (.int ((M 78 ((110 + (32 * x2)) + x3).toNatClampNeg) ^^^ (-1))), none, none, none]) rfl ?_
                exact TJ_230_88_7 (X := X) (d := d + 1) (by omega) h hP hE
              · rw [if_neg hb15] at h
                cases h
            · rw [if_neg hb17] at h
              refine Rc.run tb_230 1 (pc' := 56) (ls' := [some (.ref (77)), none, some (.int (x2)), some (.int (x3)), some (.int (c3)), some (.int (c4)), some (.int ((M 78 ((110 + (32 * x2)) + x3).toNatClampNeg) ^^^ (-1))), none, none, none]) (st' := [.ref (77)]) rfl rfl ?_
              refine Rc.getR tb_230 rfl rfl ob_77 (by decide +kernel) tg_77_19 (by decide) ?_
              refine Rc.run tb_230 1 (pc' := 61) (ls' := [some (.ref (77)), none, some (.int (x2)), some (.int (x3)), some (.int (c3)), some (.int (c4)), some (.int ((M 78 ((110 + (32 * x2)) + x3).toNatClampNeg) ^^^ (-1))), none, none, none]) (st' := [.int (c3), .ref (87)]) rfl rfl ?_
              by_cases hb16 : inb c3 12 = true
              · rw [if_pos hb16] at h
                refine Rc.iald tb_230 rfl rfl ia_87 hb16 ?_
                refine Rc.run tb_230 1 (pc' := 88) (ls' := [some (.ref (77)), none, some (.int (x2)), some (.int (x3)), some (.int (c3)), some (.int (c4)), some (.int ((M 78 ((110 + (32 * x2)) + x3).toNatClampNeg) ^^^ (-1))), none, none, none]) (st' := [.int (M 87 c3.toNatClampNeg)]) rfl rfl ?_
                refine Rc.mask (b := 125) ((tb_230.2 88).trans rfl) (ls' := [some (.ref (77)), none, some (.int (x2)), some (.int (x3)), some (.int (c3)), some (.int (c4)), some (.int ((M 78 ((110 + (32 * x2)) + x3).toNatClampNeg) ^^^ (-1))), none, none, none]) rfl ?_
                exact TJ_230_88_7 (X := X) (d := d + 1) (by omega) h hP hE
              · rw [if_neg hb16] at h
                cases h
          · rw [if_neg hb18] at h
            cases h
theorem TL_230_7 {X : AX} {d : Nat} (hd : 129 ≤ d) {x2 : Int32} {x3 : Int32} {M : IM} {v : Option Value} {M' : IM} {r : (Int32 × IM) ⊕ (Int32 × IM)} (h : L_230_7 x2 x3 M = some r) (hE : (fun r => match r with | .inl (x3, M) => Rc X d 230 208 [none, none, none, none, none, none, none, none, none, none] [] M v M' | .inr q => v = some (.int q.1) ∧ M' = q.2) r) : Rc X d 230 7 [some (.ref (77)), none, some (.int (x2)), some (.int (x3)), none, none, none, none, none, none] [] M v M' := by
  exact loopN_rc (P := fun (x3, M) => Rc X d 230 7 [some (.ref (77)), none, some (.int (x2)), some (.int (x3)), none, none, none, none, none, none] [] M v M') (E := fun r => match r with | .inl (x3, M) => Rc X d 230 208 [none, none, none, none, none, none, none, none, none, none] [] M v M' | .inr q => v = some (.int q.1) ∧ M' = q.2) (TB_230_7 (X := X) hd) FU _ r h hE
theorem TF_230 {X : AX} {d : Nat} (hd : 129 ≤ d) {a1 : Int32} {a2 : Int32} {M : IM} {v : Option Value} {M' : IM} {o : Int32 × IM} (h : F_230 a1 a2 M = some o) (hC : v = some (.int o.1) ∧ M' = o.2) : Rc X d 230 0 [some (.ref (77)), some (.int (a1)), some (.int (a2)), none, none, none, none, none, none, none] [] M v M' := by
  obtain ⟨d, rfl⟩ : ∃ e, d = e + 1 := ⟨d - 1, by omega⟩
  unfold F_230 at h
  refine Rc.run tb_230 2 (pc' := 2) (ls' := [some (.ref (77)), some (.int (a1)), some (.int (a2)), none, none, none, none, none, none, none]) (st' := [.int (a1), .ref (77)]) rfl rfl ?_
  cases hc1 : F_204 a1 M with
  | none => rw [hc1] at h; cases h
  | some M1 =>
    rw [hc1] at h
    dsimp only at h
    have hq1 := T_204 (X := X) (d := d) (by omega) (M := M) hc1
    refine Rc.callV tb_230 rfl rfl rfl mS_204 mP_204 mL_204 mO_204 rfl rfl ob_77 rfl rfl hq1 ?_
    refine Rc.run tb_230 2 (pc' := 7) (ls' := [some (.ref (77)), some (.int (a1)), some (.int (a2)), some (.int (0)), none, none, none, none, none, none]) (st' := []) rfl rfl ?_
    refine Rc.mask (b := 13) ((tb_230.2 7).trans rfl) (ls' := [some (.ref (77)), none, some (.int (a2)), some (.int (0)), none, none, none, none, none, none]) rfl ?_
    cases hl20 : L_230_7 a2 0 M1 with
    | none => rw [hl20] at h; cases h
    | some rr20 =>
      rw [hl20] at h
      cases rr20 with
      | inl r20 =>
        obtain ⟨x3_20, M20⟩ := r20
        dsimp only at h
        refine TL_230_7 (X := X) (d := d + 1) (by omega) hl20 ?_
        refine Rc.run tb_230 1 (pc' := 209) (ls' := [none, none, none, none, none, none, none, none, none, none]) (st' := [.int (1)]) rfl rfl ?_
        obtain rfl := Option.some.inj h
        obtain ⟨rfl, rfl⟩ := hC
        exact Rc.zret tb_230 rfl mR_230 (Or.inr rfl)
      | inr q =>
        dsimp only at h
        refine TL_230_7 (X := X) (d := d + 1) (by omega) hl20 ?_
        obtain rfl := Option.some.inj h
        obtain ⟨rfl, rfl⟩ := hC
        exact ⟨rfl, rfl⟩
theorem T_230 {X : AX} {d : Nat} (hd : 129 ≤ d) {a1 : Int32} {a2 : Int32} {M : IM} {x : Int32} {M1 : IM} (h : F_230 a1 a2 M = some (x, M1)) : Rc X d 230 0 [some (.ref (77)), some (.int (a1)), some (.int (a2)), none, none, none, none, none, none, none] [] M (some (.int x)) M1 := TF_230 hd h ⟨rfl, rfl⟩
/-! 231: NineDemandsModel.follows -/
def J_231_16 (M : IM) : Option (Int32 × IM) := (match F_156 ((-1000001) : Int32) M with | none => none | some (c2, M2) => (some ((c2, M2))))
def F_231 (a1 : Int32) (a2 : Int32) (M : IM) : Option (Int32 × IM) := if F_161 a1 M = 0 then (J_231_16 M) else (if F_160 a2 M = 0 then (J_231_16 M) else (match F_230 a1 a2 M with | none => none | some (c4, M4) => (if c4 = 0 then (some ((0, M4))) else (some ((1, M4))))))
theorem TJ_231_16 {X : AX} {d : Nat} (hd : 130 ≤ d) {M : IM} {v : Option Value} {M' : IM} {o : Int32 × IM} (h : J_231_16 M = some o) (hC : v = some (.int o.1) ∧ M' = o.2) : Rc X d 231 16 [some (.ref (77)), none, none] [] M v M' := by
  obtain ⟨d, rfl⟩ : ∃ e, d = e + 1 := ⟨d - 1, by omega⟩
  unfold J_231_16 at h
  refine Rc.run tb_231 2 (pc' := 19) (ls' := [some (.ref (77)), none, none]) (st' := [.int ((-1000001)), .ref (77)]) rfl rfl ?_
  cases hc2 : F_156 ((-1000001) : Int32) M with
  | none => rw [hc2] at h; cases h
  | some r2 =>
    obtain ⟨c2, M2⟩ := r2
    rw [hc2] at h
    dsimp only at h
    have hq2 := T_156 (X := X) (d := d) (by omega) (M := M) hc2
    refine Rc.callV tb_231 rfl rfl rfl mS_156 mP_156 mL_156 mO_156 rfl rfl ob_77 rfl rfl hq2 ?_
    obtain rfl := Option.some.inj h
    obtain ⟨rfl, rfl⟩ := hC
    exact Rc.iret (ins := .ireturn) tb_231 rfl mR_231
theorem TF_231 {X : AX} {d : Nat} (hd : 130 ≤ d) {a1 : Int32} {a2 : Int32} {M : IM} {v : Option Value} {M' : IM} {o : Int32 × IM} (h : F_231 a1 a2 M = some o) (hC : v = some (.int o.1) ∧ M' = o.2) : Rc X d 231 0 [some (.ref (77)), some (.int (a1)), some (.int (a2))] [] M v M' := by
  obtain ⟨d, rfl⟩ : ∃ e, d = e + 1 := ⟨d - 1, by omega⟩
  unfold F_231 at h
  refine Rc.run tb_231 2 (pc' := 2) (ls' := [some (.ref (77)), some (.int (a1)), some (.int (a2))]) (st' := [.int (a1), .ref (77)]) rfl rfl ?_
  have hq1 := T_161 (X := X) (d := d) (by omega) a1 M
  have hz1 := Rc.bool mR_161 hq1
  refine Rc.callV tb_231 rfl rfl rfl mS_161 mP_161 mL_161 mO_161 rfl rfl ob_77 rfl rfl hq1 ?_
  refine Rc.if_eq (pc1 := 16) tb_231 rfl rfl (by decide) (by decide) (fun hb7 => ?_) (fun hb7 => ?_)
  · rw [if_pos hb7] at h
    refine Rc.mask (b := 1) ((tb_231.2 16).trans rfl) (ls' := [some (.ref (77)), none, none]) rfl ?_
    exact TJ_231_16 (X := X) (d := d + 1) (by omega) h hC
  · rw [if_neg hb7] at h
    refine Rc.run tb_231 2 (pc' := 10) (ls' := [some (.ref (77)), some (.int (a1)), some (.int (a2))]) (st' := [.int (a2), .ref (77)]) rfl rfl ?_
    have hq3 := T_160 (X := X) (d := d) (by omega) a2 M
    have hz3 := Rc.bool mR_160 hq3
    refine Rc.callV tb_231 rfl rfl rfl mS_160 mP_160 mL_160 mO_160 rfl rfl ob_77 rfl rfl hq3 ?_
    refine Rc.if_ne (pc1 := 23) tb_231 rfl rfl (by decide) (by decide) (fun hb6 => ?_) (fun hb6 => ?_)
    · rw [if_pos hb6] at h
      refine Rc.mask (b := 1) ((tb_231.2 16).trans rfl) (ls' := [some (.ref (77)), none, none]) rfl ?_
      exact TJ_231_16 (X := X) (d := d + 1) (by omega) h hC
    · rw [if_neg hb6] at h
      refine Rc.run tb_231 3 (pc' := 26) (ls' := [some (.ref (77)), some (.int (a1)), some (.int (a2))]) (st' := [.int (a2), .int (a1), .ref (77)]) rfl rfl ?_
      cases hc4 : F_230 a1 a2 M with
      | none => rw [hc4] at h; cases h
      | some r4 =>
        obtain ⟨c4, M4⟩ := r4
        rw [hc4] at h
        dsimp only at h
        have hq4 := T_230 (X := X) (d := d) (by omega) (M := M) hc4
        have hz4 := Rc.bool mR_230 hq4
        refine Rc.callV tb_231 rfl rfl rfl mS_230 mP_230 mL_230 mO_230 rfl rfl ob_77 rfl rfl hq4 ?_
        refine Rc.if_eq (pc1 := 36) tb_231 rfl rfl (by decide) (by decide) (fun hb5 => ?_) (fun hb5 => ?_)
        · rw [if_pos hb5] at h
          refine Rc.run tb_231 1 (pc' := 37) (ls' := [some (.ref (77)), some (.int (a1)), some (.int (a2))]) (st' := [.int (0)]) rfl rfl ?_
          obtain rfl := Option.some.inj h
          obtain ⟨rfl, rfl⟩ := hC
          exact Rc.iret (ins := .ireturn) tb_231 rfl mR_231
        · rw [if_neg hb5] at h
          refine Rc.run tb_231 2 (pc' := 37) (ls' := [some (.ref (77)), some (.int (a1)), some (.int (a2))]) (st' := [.int (1)]) rfl rfl ?_
          obtain rfl := Option.some.inj h
          obtain ⟨rfl, rfl⟩ := hC
          exact Rc.iret (ins := .ireturn) tb_231 rfl mR_231
theorem T_231 {X : AX} {d : Nat} (hd : 130 ≤ d) {a1 : Int32} {a2 : Int32} {M : IM} {x : Int32} {M1 : IM} (h : F_231 a1 a2 M = some (x, M1)) : Rc X d 231 0 [some (.ref (77)), some (.int (a1)), some (.int (a2))] [] M (some (.int x)) M1 := TF_231 hd h ⟨rfl, rfl⟩
/-! 232: NineDemandsModel.spare -/
def J_232_60_19 (x1 : Int32) (x3 : Int32) (s0 : Int32) (s1 : Int32) (M : IM) : Option ((Int32 × Int32 × IM) ⊕ (Int32 × Int32 × IM)) := some (Sum.inl (s1 ||| s0, x3 + 1, M))
def J_232_59_19 (x1 : Int32) (x3 : Int32) (s0 : Int32) (M : IM) : Option ((Int32 × Int32 × IM) ⊕ (Int32 × Int32 × IM)) := J_232_60_19 x1 x3 (0 : Int32) s0 M
def B_232_19 (x1 : Int32) : (Int32 × Int32 × IM) → Option ((Int32 × Int32 × IM) ⊕ (Int32 × Int32 × IM)) := fun (x2, x3, M) => if M 78 (0 : Int32).toNatClampNeg ≤ x3 then (some (Sum.inr (x2, x3, M))) else (if F_162 x1 x3 = 0 then (J_232_59_19 x1 x3 x2 M) else (match F_230 (x1 &&& (((1 : Int32) <<< (x3 &&& 31)) ^^^ (-1))) x3 M with | none => none | some (c4, M4) => (if c4 = 0 then (J_232_59_19 x1 x3 x2 M4) else (J_232_60_19 x1 x3 ((1 : Int32) <<< (x3 &&& 31)) x2 M4))))
def L_232_19 (x1 : Int32) (x2 : Int32) (x3 : Int32) (M : IM) : Option (Int32 × Int32 × IM) := loopN (B_232_19 x1) FU (x2, x3, M)
def F_232 (a1 : Int32) (M : IM) : Option (Int32 × IM) := if F_161 a1 M = 0 then (match F_156 ((-1000001) : Int32) M with | none => none | some (c2, M2) => (some ((c2, M2)))) else (match L_232_19 a1 0 0 M with | none => none | some (x2_9, x3_9, M9) => (some ((x2_9, M9))))
theorem TJ_232_60_19 {X : AX} {d : Nat} (hd : 130 ≤ d) {x1 : Int32} {x3 : Int32} {s0 : Int32} {s1 : Int32} {M : IM} {v : Option Value} {M' : IM} {o : (Int32 × Int32 × IM) ⊕ (Int32 × Int32 × IM)} (h : J_232_60_19 x1 x3 s0 s1 M = some o) (hP : ∀ s', o = .inl s' → (fun (x2, x3, M) => Rc X d 232 19 [some (.ref (77)), some (.int (x1)), some (.int (x2)), some (.int (x3))] [] M v M') s') (hE : ∀ r, o = .inr r → (fun (x2, x3, M) => Rc X d 232 68 [none, none, some (.int (x2)), none] [] M v M') r) : Rc X d 232 60 [some (.ref (77)), some (.int (x1)), none, some (.int (x3))] [.int (s0), .int (s1)] M v M' := by
  obtain ⟨d, rfl⟩ : ∃ e, d = e + 1 := ⟨d - 1, by omega⟩
  unfold J_232_60_19 at h
  dsimp only at hP hE
  refine Rc.run tb_232 4 (pc' := 19) (ls' := [some (.ref (77)), some (.int (x1)), some (.int (s1 ||| s0)), some (.int (x3 + 1))]) (st' := []) rfl rfl ?_
  refine Rc.mask (b := 15) ((tb_232.2 19).trans rfl) (ls' := [some (.ref (77)), some (.int (x1)), some (.int (s1 ||| s0)), some (.int (x3 + 1))]) rfl ?_
  obtain rfl := Option.some.inj h
  exact hP _ rfl
theorem TJ_232_59_19 {X : AX} {d : Nat} (hd : 130 ≤ d) {x1 : Int32} {x3 : Int32} {s0 : Int32} {M : IM} {v : Option Value} {M' : IM} {o : (Int32 × Int32 × IM) ⊕ (Int32 × Int32 × IM)} (h : J_232_59_19 x1 x3 s0 M = some o) (hP : ∀ s', o = .inl s' → (fun (x2, x3, M) => Rc X d 232 19 [some (.ref (77)), some (.int (x1)), some (.int (x2)), some (.int (x3))] [] M v M') s') (hE : ∀ r, o = .inr r → (fun (x2, x3, M) => Rc X d 232 68 [none, none, some (.int (x2)), none] [] M v M') r) : Rc X d 232 59 [some (.ref (77)), some (.int (x1)), none, some (.int (x3))] [.int (s0)] M v M' := by
  obtain ⟨d, rfl⟩ : ∃ e, d = e + 1 := ⟨d - 1, by omega⟩
  unfold J_232_59_19 at h
  dsimp only at hP hE
  refine Rc.run tb_232 1 (pc' := 60) (ls' := [some (.ref (77)), some (.int (x1)), none, some (.int (x3))]) (st' := [.int (0), .int (s0)]) rfl rfl ?_
  refine Rc.mask (b := 11) ((tb_232.2 60).trans rfl) (ls' := [some (.ref (77)), some (.int (x1)), none, some (.int (x3))]) rfl ?_
  exact TJ_232_60_19 (X := X) (d := d + 1) (by omega) h hP hE
theorem TB_232_19 {X : AX} {d : Nat} (hd : 130 ≤ d) {x1 : Int32} {v : Option Value} {M' : IM} : ∀ (s : Int32 × Int32 × IM) (o : (Int32 × Int32 × IM) ⊕ (Int32 × Int32 × IM)), B_232_19 x1 s = some o → (∀ s', o = .inl s' → (fun (x2, x3, M) => Rc X d 232 19 [some (.ref (77)), some (.int (x1)), some (.int (x2)), some (.int (x3))] [] M v M') s') → (∀ r, o = .inr r → (fun (x2, x3, M) => Rc X d 232 68 [none, none, some (.int (x2)), none] [] M v M') r) → (fun (x2, x3, M) => Rc X d 232 19 [some (.ref (77)), some (.int (x1)), some (.int (x2)), some (.int (x3))] [] M v M') s := by
  rintro ⟨x2, x3, M⟩ o h hP hE
  show Rc X d 232 19 [some (.ref (77)), some (.int (x1)), some (.int (x2)), some (.int (x3))] [] M v M'
  obtain ⟨d, rfl⟩ : ∃ e, d = e + 1 := ⟨d - 1, by omega⟩
  unfold B_232_19 at h
  dsimp only at h hP hE
  refine Rc.run tb_232 2 (pc' := 21) (ls' := [some (.ref (77)), some (.int (x1)), some (.int (x2)), some (.int (x3))]) (st' := [.ref (77), .int (x3)]) rfl rfl ?_
  refine Rc.getR tb_232 rfl rfl ob_77 (by decide +kernel) tg_77_0 (by decide) ?_
  refine Rc.run tb_232 1 (pc' := 25) (ls' := [some (.ref (77)), some (.int (x1)), some (.int (x2)), some (.int (x3))]) (st' := [.int (0), .ref (78), .int (x3)]) rfl rfl ?_
  refine Rc.iald tb_232 rfl rfl ia_78 (by decide) ?_
  refine Rc.icmp_ge (pc1 := 68) tb_232 rfl rfl (by decide) (by decide) (fun hb7 => ?_) (fun hb7 => ?_)
  · rw [if_pos hb7] at h
    refine Rc.mask (b := 4) ((tb_232.2 68).trans rfl) (ls' := [none, none, some (.int (x2)), none]) rfl ?_
    obtain rfl := Option.some.inj h
    exact hE _ rfl
  · rw [if_neg hb7] at h
    refine Rc.run tb_232 3 (pc' := 32) (ls' := [some (.ref (77)), some (.int (x1)), some (.int (x2)), some (.int (x3))]) (st' := [.int (x3), .int (x1), .int (x2)]) rfl rfl ?_
    have hq3 := T_162 (X := X) (d := d) (by omega) x1 x3 M
    have hz3 := Rc.bool mR_162 hq3
    refine Rc.callS tb_232 rfl rfl rfl mS_162 mP_162 mL_162 rfl rfl rfl hq3 ?_
    refine Rc.if_eq (pc1 := 59) tb_232 rfl rfl (by decide) (by decide) (fun hb6 => ?_) (fun hb6 => ?_)
    · rw [if_pos hb6] at h
      refine Rc.mask (b := 11) ((tb_232.2 59).trans rfl) (ls' := [some (.ref (77)), some (.int (x1)), none, some (.int (x3))]) rfl ?_
      exact TJ_232_59_19 (X := X) (d := d + 1) (by omega) h hP hE
    · rw [if_neg hb6] at h
      refine Rc.run tb_232 9 (pc' := 47) (ls' := [some (.ref (77)), some (.int (x1)), some (.int (x2)), some (.int (x3))]) (st' := [.int (x3), .int (x1 &&& (((1 : Int32) <<< (x3 &&& 31)) ^^^ (-1))), .ref (77), .int (x2)]) rfl rfl ?_
      cases hc4 : F_230 (x1 &&& (((1 : Int32) <<< (x3 &&& 31)) ^^^ (-1))) x3 M with
      | none => rw [hc4] at h; cases h
      | some r4 =>
        obtain ⟨c4, M4⟩ := r4
        rw [hc4] at h
        dsimp only at h
        have hq4 := T_230 (X := X) (d := d) (by omega) (M := M) hc4
        have hz4 := Rc.bool mR_230 hq4
        refine Rc.callV tb_232 rfl rfl rfl mS_230 mP_230 mL_230 mO_230 rfl rfl ob_77 rfl rfl hq4 ?_
        refine Rc.if_eq (pc1 := 59) tb_232 rfl rfl (by decide) (by decide) (fun hb5 => ?_) (fun hb5 => ?_)
        · rw [if_pos hb5] at h
          refine Rc.mask (b := 11) ((tb_232.2 59).trans rfl) (ls' := [some (.ref (77)), some (.int (x1)), none, some (.int (x3))]) rfl ?_
          exact TJ_232_59_19 (X := X) (d := d + 1) (by omega) h hP hE
        · rw [if_neg hb5] at h
          refine Rc.run tb_232 4 (pc' := 60) (ls' := [some (.ref (77)), some (.int (x1)), some (.int (x2)), some (.int (x3))]) (st' := [.int ((1 : Int32) <<< (x3 &&& 31)), .int (x2)]) rfl rfl ?_
          refine Rc.mask (b := 11) ((tb_232.2 60).trans rfl) (ls' := [some (.ref (77)), some (.int (x1)), none, some (.int (x3))]) rfl ?_
          exact TJ_232_60_19 (X := X) (d := d + 1) (by omega) h hP hE
theorem TL_232_19 {X : AX} {d : Nat} (hd : 130 ≤ d) {x1 : Int32} {x2 : Int32} {x3 : Int32} {M : IM} {v : Option Value} {M' : IM} {r : Int32 × Int32 × IM} (h : L_232_19 x1 x2 x3 M = some r) (hE : (fun (x2, x3, M) => Rc X d 232 68 [none, none, some (.int (x2)), none] [] M v M') r) : Rc X d 232 19 [some (.ref (77)), some (.int (x1)), some (.int (x2)), some (.int (x3))] [] M v M' := by
  exact loopN_rc (P := fun (x2, x3, M) => Rc X d 232 19 [some (.ref (77)), some (.int (x1)), some (.int (x2)), some (.int (x3))] [] M v M') (E := fun (x2, x3, M) => Rc X d 232 68 [none, none, some (.int (x2)), none] [] M v M') (TB_232_19 (X := X) hd) FU _ r h hE
theorem TF_232 {X : AX} {d : Nat} (hd : 130 ≤ d) {a1 : Int32} {M : IM} {v : Option Value} {M' : IM} {o : Int32 × IM} (h : F_232 a1 M = some o) (hC : v = some (.int o.1) ∧ M' = o.2) : Rc X d 232 0 [some (.ref (77)), some (.int (a1)), none, none] [] M v M' := by
  obtain ⟨d, rfl⟩ : ∃ e, d = e + 1 := ⟨d - 1, by omega⟩
  unfold F_232 at h
  refine Rc.run tb_232 2 (pc' := 2) (ls' := [some (.ref (77)), some (.int (a1)), none, none]) (st' := [.int (a1), .ref (77)]) rfl rfl ?_
  have hq1 := T_161 (X := X) (d := d) (by omega) a1 M
  have hz1 := Rc.bool mR_161 hq1
  refine Rc.callV tb_232 rfl rfl rfl mS_161 mP_161 mL_161 mO_161 rfl rfl ob_77 rfl rfl hq1 ?_
  refine Rc.if_ne (pc1 := 15) tb_232 rfl rfl (by decide) (by decide) (fun hb10 => ?_) (fun hb10 => ?_)
  · rw [if_pos hb10] at h
    refine Rc.run tb_232 2 (pc' := 11) (ls' := [some (.ref (77)), some (.int (a1)), none, none]) (st' := [.int ((-1000001)), .ref (77)]) rfl rfl ?_
    cases hc2 : F_156 ((-1000001) : Int32) M with
    | none => rw [hc2] at h; cases h
    | some r2 =>
      obtain ⟨c2, M2⟩ := r2
      rw [hc2] at h
      dsimp only at h
      have hq2 := T_156 (X := X) (d := d) (by omega) (M := M) hc2
      refine Rc.callV tb_232 rfl rfl rfl mS_156 mP_156 mL_156 mO_156 rfl rfl ob_77 rfl rfl hq2 ?_
      obtain rfl := Option.some.inj h
      obtain ⟨rfl, rfl⟩ := hC
      exact Rc.iret (ins := .ireturn) tb_232 rfl mR_232
  · rw [if_neg hb10] at h
    refine Rc.run tb_232 4 (pc' := 19) (ls' := [some (.ref (77)), some (.int (a1)), some (.int (0)), some (.int (0))]) (st' := []) rfl rfl ?_
    refine Rc.mask (b := 15) ((tb_232.2 19).trans rfl) (ls' := [some (.ref (77)), some (.int (a1)), some (.int (0)), some (.int (0))]) rfl ?_
    cases hl9 : L_232_19 a1 0 0 M with
    | none => rw [hl9] at h; cases h
    | some r9 =>
      obtain ⟨x2_9, x3_9, M9⟩ := r9
      rw [hl9] at h
      dsimp only at h
      refine TL_232_19 (X := X) (d := d + 1) (by omega) hl9 ?_
      refine Rc.run tb_232 1 (pc' := 69) (ls' := [none, none, some (.int (x2_9)), none]) (st' := [.int (x2_9)]) rfl rfl ?_
      obtain rfl := Option.some.inj h
      obtain ⟨rfl, rfl⟩ := hC
      exact Rc.iret (ins := .ireturn) tb_232 rfl mR_232
theorem T_232 {X : AX} {d : Nat} (hd : 130 ≤ d) {a1 : Int32} {M : IM} {x : Int32} {M1 : IM} (h : F_232 a1 M = some (x, M1)) : Rc X d 232 0 [some (.ref (77)), some (.int (a1)), none, none] [] M (some (.int x)) M1 := TF_232 hd h ⟨rfl, rfl⟩
/-! 233: NineDemandsModel.allFollow -/
def J_233_44_5 (x1 : Int32) (x2 : Int32) (x4 : Int32) (s0 : Int32) (M : IM) : Option ((Int32 × Int32 × IM) ⊕ (Int32 × Int32 × IM)) := some (Sum.inl (s0, x4 + 1, M))
def J_233_39_5 (x1 : Int32) (x2 : Int32) (x4 : Int32) (M : IM) : Option ((Int32 × Int32 × IM) ⊕ (Int32 × Int32 × IM)) := J_233_44_5 x1 x2 x4 (1 : Int32) M
def B_233_5 (x1 : Int32) (x2 : Int32) : (Int32 × Int32 × IM) → Option ((Int32 × Int32 × IM) ⊕ (Int32 × Int32 × IM)) := fun (x3, x4, M) => if M 78 (0 : Int32).toNatClampNeg ≤ x4 then (some (Sum.inr (x3, x4, M))) else (if x3 = 0 then (some (Sum.inr (x3, x4, M))) else (if F_162 x2 x4 = 0 then (J_233_39_5 x1 x2 x4 M) else (match F_230 x1 x4 M with | none => none | some (c2, M2) => (if c2 = 0 then (J_233_44_5 x1 x2 x4 (0 : Int32) M2) else (J_233_39_5 x1 x2 x4 M2)))))
def L_233_5 (x1 : Int32) (x2 : Int32) (x3 : Int32) (x4 : Int32) (M : IM) : Option (Int32 × Int32 × IM) := loopN (B_233_5 x1 x2) FU (x3, x4, M)
def F_233 (a1 : Int32) (a2 : Int32) (M : IM) : Option (Int32 × IM) := (match L_233_5 a1 a2 1 0 M with | none => none | some (x3_8, x4_8, M8) => (some ((x3_8, M8))))
theorem TJ_233_44_5 {X : AX} {d : Nat} (hd : 130 ≤ d) {x1 : Int32} {x2 : Int32} {x4 : Int32} {s0 : Int32} {M : IM} (hs0 : s0 = 0 ∨ s0 = 1) {v : Option Value} {M' : IM} {o : (Int32 × Int32 × IM) ⊕ (Int32 × Int32 × IM)} (h : J_233_44_5 x1 x2 x4 s0 M = some o) (hP : ∀ s', o = .inl s' → (fun (x3, x4, M) => (x3 = 0 ∨ x3 = 1) → Rc X d 233 5 [some (.ref (77)), some (.int (x1)), some (.int (x2)), some (.int (x3)), some (.int (x4))] [] M v M') s') (hE : ∀ r, o = .inr r → (fun (x3, x4, M) => (x3 = 0 ∨ x3 = 1) → Rc X d 233 51 [none, none, none, some (.int (x3)), none] [] M v M') r) : Rc X d 233 44 [some (.ref (77)), some (.int (x1)), some (.int (x2)), none, some (.int (x4))] [.int (s0)] M v M' := by
  obtain ⟨d, rfl⟩ : ∃ e, d = e + 1 := ⟨d - 1, by omega⟩
  unfold J_233_44_5 at h
  dsimp only at hP hE
  refine Rc.run tb_233 3 (pc' := 5) (ls' := [some (.ref (77)), some (.int (x1)), some (.int (x2)), some (.int (s0)), some (.int (x4 + 1))]) (st' := []) rfl rfl ?_
  refine Rc.mask (b := 31) ((tb_233.2 5).trans rfl) (ls' := [some (.ref (77)), some (.int (x1)), some (.int (x2)), some (.int (s0)), some (.int (x4 + 1))]) rfl ?_
  obtain rfl := Option.some.inj h
  exact hP _ rfl hs0
theorem TJ_233_39_5 {X : AX} {d : Nat} (hd : 130 ≤ d) {x1 : Int32} {x2 : Int32} {x4 : Int32} {M : IM} {v : Option Value} {M' : IM} {o : (Int32 × Int32 × IM) ⊕ (Int32 × Int32 × IM)} (h : J_233_39_5 x1 x2 x4 M = some o) (hP : ∀ s', o = .inl s' → (fun (x3, x4, M) => (x3 = 0 ∨ x3 = 1) → Rc X d 233 5 [some (.ref (77)), some (.int (x1)), some (.int (x2)), some (.int (x3)), some (.int (x4))] [] M v M') s') (hE : ∀ r, o = .inr r → (fun (x3, x4, M) => (x3 = 0 ∨ x3 = 1) → Rc X d 233 51 [none, none, none, some (.int (x3)), none] [] M v M') r) : Rc X d 233 39 [some (.ref (77)), some (.int (x1)), some (.int (x2)), none, some (.int (x4))] [] M v M' := by
  obtain ⟨d, rfl⟩ : ∃ e, d = e + 1 := ⟨d - 1, by omega⟩
  unfold J_233_39_5 at h
  dsimp only at hP hE
  refine Rc.run tb_233 2 (pc' := 44) (ls' := [some (.ref (77)), some (.int (x1)), some (.int (x2)), none, some (.int (x4))]) (st' := [.int (1)]) rfl rfl ?_
  refine Rc.mask (b := 23) ((tb_233.2 44).trans rfl) (ls' := [some (.ref (77)), some (.int (x1)), some (.int (x2)), none, some (.int (x4))]) rfl ?_
  exact TJ_233_44_5 (X := X) (d := d + 1) (by omega) (Or.inr rfl) h hP hE
theorem TB_233_5 {X : AX} {d : Nat} (hd : 130 ≤ d) {x1 : Int32} {x2 : Int32} {v : Option Value} {M' : IM} : ∀ (s : Int32 × Int32 × IM) (o : (Int32 × Int32 × IM) ⊕ (Int32 × Int32 × IM)), B_233_5 x1 x2 s = some o → (∀ s', o = .inl s' → (fun (x3, x4, M) => (x3 = 0 ∨ x3 = 1) → Rc X d 233 5 [some (.ref (77)), some (.int (x1)), some (.int (x2)), some (.int (x3)), some (.int (x4))] [] M v M') s') → (∀ r, o = .inr r → (fun (x3, x4, M) => (x3 = 0 ∨ x3 = 1) → Rc X d 233 51 [none, none, none, some (.int (x3)), none] [] M v M') r) → (fun (x3, x4, M) => (x3 = 0 ∨ x3 = 1) → Rc X d 233 5 [some (.ref (77)), some (.int (x1)), some (.int (x2)), some (.int (x3)), some (.int (x4))] [] M v M') s := by
  rintro ⟨x3, x4, M⟩ o h hP hE
  intro hx3
  show Rc X d 233 5 [some (.ref (77)), some (.int (x1)), some (.int (x2)), some (.int (x3)), some (.int (x4))] [] M v M'
  obtain ⟨d, rfl⟩ : ∃ e, d = e + 1 := ⟨d - 1, by omega⟩
  unfold B_233_5 at h
  dsimp only at h hP hE
  refine Rc.run tb_233 2 (pc' := 8) (ls' := [some (.ref (77)), some (.int (x1)), some (.int (x2)), some (.int (x3)), some (.int (x4))]) (st' := [.ref (77), .int (x4)]) rfl rfl ?_
  refine Rc.getR tb_233 rfl rfl ob_77 (by decide +kernel) tg_77_0 (by decide) ?_
  refine Rc.run tb_233 1 (pc' := 12) (ls' := [some (.ref (77)), some (.int (x1)), some (.int (x2)), some (.int (x3)), some (.int (x4))]) (st' := [.int (0), .ref (78), .int (x4)]) rfl rfl ?_
  refine Rc.iald tb_233 rfl rfl ia_78 (by decide) ?_
  refine Rc.icmp_ge (pc1 := 51) tb_233 rfl rfl (by decide) (by decide) (fun hb6 => ?_) (fun hb6 => ?_)
  · rw [if_pos hb6] at h
    refine Rc.mask (b := 8) ((tb_233.2 51).trans rfl) (ls' := [none, none, none, some (.int (x3)), none]) rfl ?_
    obtain rfl := Option.some.inj h
    exact hE _ rfl hx3
  · rw [if_neg hb6] at h
    refine Rc.run tb_233 1 (pc' := 17) (ls' := [some (.ref (77)), some (.int (x1)), some (.int (x2)), some (.int (x3)), some (.int (x4))]) (st' := [.int (x3)]) rfl rfl ?_
    refine Rc.if_eq (pc1 := 51) tb_233 rfl rfl (by decide) (by decide) (fun hb5 => ?_) (fun hb5 => ?_)
    · rw [if_pos hb5] at h
      refine Rc.mask (b := 8) ((tb_233.2 51).trans rfl) (ls' := [none, none, none, some (.int (x3)), none]) rfl ?_
      obtain rfl := Option.some.inj h
      exact hE _ rfl hx3
    · rw [if_neg hb5] at h
      refine Rc.run tb_233 2 (pc' := 23) (ls' := [some (.ref (77)), some (.int (x1)), some (.int (x2)), some (.int (x3)), some (.int (x4))]) (st' := [.int (x4), .int (x2)]) rfl rfl ?_
      have hq1 := T_162 (X := X) (d := d) (by omega) x2 x4 M
      have hz1 := Rc.bool mR_162 hq1
      refine Rc.callS tb_233 rfl rfl rfl mS_162 mP_162 mL_162 rfl rfl rfl hq1 ?_
      refine Rc.if_eq (pc1 := 39) tb_233 rfl rfl (by decide) (by decide) (fun hb4 => ?_) (fun hb4 => ?_)
      · rw [if_pos hb4] at h
        refine Rc.mask (b := 23) ((tb_233.2 39).trans rfl) (ls' := [some (.ref (77)), some (.int (x1)), some (.int (x2)), none, some (.int (x4))]) rfl ?_
        exact TJ_233_39_5 (X := X) (d := d + 1) (by omega) h hP hE
      · rw [if_neg hb4] at h
        refine Rc.run tb_233 3 (pc' := 33) (ls' := [some (.ref (77)), some (.int (x1)), some (.int (x2)), some (.int (x3)), some (.int (x4))]) (st' := [.int (x4), .int (x1), .ref (77)]) rfl rfl ?_
        cases hc2 : F_230 x1 x4 M with
        | none => rw [hc2] at h; cases h
        | some r2 =>
          obtain ⟨c2, M2⟩ := r2
          rw [hc2] at h
          dsimp only at h
          have hq2 := T_230 (X := X) (d := d) (by omega) (M := M) hc2
          have hz2 := Rc.bool mR_230 hq2
          refine Rc.callV tb_233 rfl rfl rfl mS_230 mP_230 mL_230 mO_230 rfl rfl ob_77 rfl rfl hq2 ?_
          refine Rc.if_eq (pc1 := 43) tb_233 rfl rfl (by decide) (by decide) (fun hb3 => ?_) (fun hb3 => ?_)
          · rw [if_pos hb3] at h
            refine Rc.run tb_233 1 (pc' := 44) (ls' := [some (.ref (77)), some (.int (x1)), some (.int (x2)), some (.int (x3)), some (.int (x4))]) (st' := [.int (0)]) rfl rfl ?_
            refine Rc.mask (b := 23) ((tb_233.2 44).trans rfl) (ls' := [some (.ref (77)), some (.int (x1)), some (.int (x2)), none, some (.int (x4))]) rfl ?_
            exact TJ_233_44_5 (X := X) (d := d + 1) (by omega) (Or.inl rfl) h hP hE
          · rw [if_neg hb3] at h
            refine Rc.mask (b := 23) ((tb_233.2 39).trans rfl) (ls' := [some (.ref (77)), some (.int (x1)), some (.int (x2)), none, some (.int (x4))]) rfl ?_
            exact TJ_233_39_5 (X := X) (d := d + 1) (by omega) h hP hE
theorem TL_233_5 {X : AX} {d : Nat} (hd : 130 ≤ d) {x1 : Int32} {x2 : Int32} {x3 : Int32} {x4 : Int32} {M : IM} (hx3 : x3 = 0 ∨ x3 = 1) {v : Option Value} {M' : IM} {r : Int32 × Int32 × IM} (h : L_233_5 x1 x2 x3 x4 M = some r) (hE : (fun (x3, x4, M) => (x3 = 0 ∨ x3 = 1) → Rc X d 233 51 [none, none, none, some (.int (x3)), none] [] M v M') r) : Rc X d 233 5 [some (.ref (77)), some (.int (x1)), some (.int (x2)), some (.int (x3)), some (.int (x4))] [] M v M' := by
  exact loopN_rc (P := fun (x3, x4, M) => (x3 = 0 ∨ x3 = 1) → Rc X d 233 5 [some (.ref (77)), some (.int (x1)), some (.int (x2)), some (.int (x3)), some (.int (x4))] [] M v M') (E := fun (x3, x4, M) => (x3 = 0 ∨ x3 = 1) → Rc X d 233 51 [none, none, none, some (.int (x3)), none] [] M v M') (TB_233_5 (X := X) hd) FU _ r h hE hx3
theorem TF_233 {X : AX} {d : Nat} (hd : 130 ≤ d) {a1 : Int32} {a2 : Int32} {M : IM} {v : Option Value} {M' : IM} {o : Int32 × IM} (h : F_233 a1 a2 M = some o) (hC : v = some (.int o.1) ∧ M' = o.2) : Rc X d 233 0 [some (.ref (77)), some (.int (a1)), some (.int (a2)), none, none] [] M v M' := by
  obtain ⟨d, rfl⟩ : ∃ e, d = e + 1 := ⟨d - 1, by omega⟩
  unfold F_233 at h
  refine Rc.run tb_233 4 (pc' := 5) (ls' := [some (.ref (77)), some (.int (a1)), some (.int (a2)), some (.int (1)), some (.int (0))]) (st' := []) rfl rfl ?_
  refine Rc.mask (b := 31) ((tb_233.2 5).trans rfl) (ls' := [some (.ref (77)), some (.int (a1)), some (.int (a2)), some (.int (1)), some (.int (0))]) rfl ?_
  cases hl8 : L_233_5 a1 a2 1 0 M with
  | none => rw [hl8] at h; cases h
  | some r8 =>
    obtain ⟨x3_8, x4_8, M8⟩ := r8
    rw [hl8] at h
    dsimp only at h
    refine TL_233_5 (X := X) (d := d + 1) (by omega) (Or.inr rfl) hl8 ?_
    intro hz_x3_8
    refine Rc.run tb_233 1 (pc' := 52) (ls' := [none, none, none, some (.int (x3_8)), none]) (st' := [.int (x3_8)]) rfl rfl ?_
    obtain rfl := Option.some.inj h
    obtain ⟨rfl, rfl⟩ := hC
    exact Rc.zret tb_233 rfl mR_233 hz_x3_8
theorem T_233 {X : AX} {d : Nat} (hd : 130 ≤ d) {a1 : Int32} {a2 : Int32} {M : IM} {x : Int32} {M1 : IM} (h : F_233 a1 a2 M = some (x, M1)) : Rc X d 233 0 [some (.ref (77)), some (.int (a1)), some (.int (a2)), none, none] [] M (some (.int x)) M1 := TF_233 hd h ⟨rfl, rfl⟩
/-! 234: NineDemandsModel.same -/
def J_234_16 (M : IM) : Option (Int32 × IM) := (match F_156 ((-1000001) : Int32) M with | none => none | some (c2, M2) => (some ((c2, M2))))
def F_234 (a1 : Int32) (a2 : Int32) (M : IM) : Option (Int32 × IM) := if F_161 a1 M = 0 then (J_234_16 M) else (if F_161 a2 M = 0 then (J_234_16 M) else (match F_233 a1 a2 M with | none => none | some (c4, M4) => (if c4 = 0 then (some ((0, M4))) else (match F_233 a2 a1 M4 with | none => none | some (c5, M5) => (if c5 = 0 then (some ((0, M5))) else (some ((1, M5))))))))
theorem TJ_234_16 {X : AX} {d : Nat} (hd : 131 ≤ d) {M : IM} {v : Option Value} {M' : IM} {o : Int32 × IM} (h : J_234_16 M = some o) (hC : v = some (.int o.1) ∧ M' = o.2) : Rc X d 234 16 [some (.ref (77)), none, none] [] M v M' := by
  obtain ⟨d, rfl⟩ : ∃ e, d = e + 1 := ⟨d - 1, by omega⟩
  unfold J_234_16 at h
  refine Rc.run tb_234 2 (pc' := 19) (ls' := [some (.ref (77)), none, none]) (st' := [.int ((-1000001)), .ref (77)]) rfl rfl ?_
  cases hc2 : F_156 ((-1000001) : Int32) M with
  | none => rw [hc2] at h; cases h
  | some r2 =>
    obtain ⟨c2, M2⟩ := r2
    rw [hc2] at h
    dsimp only at h
    have hq2 := T_156 (X := X) (d := d) (by omega) (M := M) hc2
    refine Rc.callV tb_234 rfl rfl rfl mS_156 mP_156 mL_156 mO_156 rfl rfl ob_77 rfl rfl hq2 ?_
    obtain rfl := Option.some.inj h
    obtain ⟨rfl, rfl⟩ := hC
    exact Rc.iret (ins := .ireturn) tb_234 rfl mR_234
theorem TF_234 {X : AX} {d : Nat} (hd : 131 ≤ d) {a1 : Int32} {a2 : Int32} {M : IM} {v : Option Value} {M' : IM} {o : Int32 × IM} (h : F_234 a1 a2 M = some o) (hC : v = some (.int o.1) ∧ M' = o.2) : Rc X d 234 0 [some (.ref (77)), some (.int (a1)), some (.int (a2))] [] M v M' := by
  obtain ⟨d, rfl⟩ : ∃ e, d = e + 1 := ⟨d - 1, by omega⟩
  unfold F_234 at h
  refine Rc.run tb_234 2 (pc' := 2) (ls' := [some (.ref (77)), some (.int (a1)), some (.int (a2))]) (st' := [.int (a1), .ref (77)]) rfl rfl ?_
  have hq1 := T_161 (X := X) (d := d) (by omega) a1 M
  have hz1 := Rc.bool mR_161 hq1
  refine Rc.callV tb_234 rfl rfl rfl mS_161 mP_161 mL_161 mO_161 rfl rfl ob_77 rfl rfl hq1 ?_
  refine Rc.if_eq (pc1 := 16) tb_234 rfl rfl (by decide) (by decide) (fun hb9 => ?_) (fun hb9 => ?_)
  · rw [if_pos hb9] at h
    refine Rc.mask (b := 1) ((tb_234.2 16).trans rfl) (ls' := [some (.ref (77)), none, none]) rfl ?_
    exact TJ_234_16 (X := X) (d := d + 1) (by omega) h hC
  · rw [if_neg hb9] at h
    refine Rc.run tb_234 2 (pc' := 10) (ls' := [some (.ref (77)), some (.int (a1)), some (.int (a2))]) (st' := [.int (a2), .ref (77)]) rfl rfl ?_
    have hq3 := T_161 (X := X) (d := d) (by omega) a2 M
    have hz3 := Rc.bool mR_161 hq3
    refine Rc.callV tb_234 rfl rfl rfl mS_161 mP_161 mL_161 mO_161 rfl rfl ob_77 rfl rfl hq3 ?_
    refine Rc.if_ne (pc1 := 23) tb_234 rfl rfl (by decide) (by decide) (fun hb8 => ?_) (fun hb8 => ?_)
    · rw [if_pos hb8] at h
      refine Rc.mask (b := 1) ((tb_234.2 16).trans rfl) (ls' := [some (.ref (77)), none, none]) rfl ?_
      exact TJ_234_16 (X := X) (d := d + 1) (by omega) h hC
    · rw [if_neg hb8] at h
      refine Rc.run tb_234 3 (pc' := 26) (ls' := [some (.ref (77)), some (.int (a1)), some (.int (a2))]) (st' := [.int (a2), .int (a1), .ref (77)]) rfl rfl ?_
      cases hc4 : F_233 a1 a2 M with
      | none => rw [hc4] at h; cases h
      | some r4 =>
        obtain ⟨c4, M4⟩ := r4
        rw [hc4] at h
        dsimp only at h
        have hq4 := T_233 (X := X) (d := d) (by omega) (M := M) hc4
        have hz4 := Rc.bool mR_233 hq4
        refine Rc.callV tb_234 rfl rfl rfl mS_233 mP_233 mL_233 mO_233 rfl rfl ob_77 rfl rfl hq4 ?_
        refine Rc.if_eq (pc1 := 45) tb_234 rfl rfl (by decide) (by decide) (fun hb7 => ?_) (fun hb7 => ?_)
        · rw [if_pos hb7] at h
          refine Rc.run tb_234 1 (pc' := 46) (ls' := [none, none, none]) (st' := [.int (0)]) rfl rfl ?_
          obtain rfl := Option.some.inj h
          obtain ⟨rfl, rfl⟩ := hC
          exact Rc.iret (ins := .ireturn) tb_234 rfl mR_234
        · rw [if_neg hb7] at h
          refine Rc.run tb_234 3 (pc' := 35) (ls' := [some (.ref (77)), some (.int (a1)), some (.int (a2))]) (st' := [.int (a1), .int (a2), .ref (77)]) rfl rfl ?_
          cases hc5 : F_233 a2 a1 M4 with
          | none => rw [hc5] at h; cases h
          | some r5 =>
            obtain ⟨c5, M5⟩ := r5
            rw [hc5] at h
            dsimp only at h
            have hq5 := T_233 (X := X) (d := d) (by omega) (M := M4) hc5
            have hz5 := Rc.bool mR_233 hq5
            refine Rc.callV tb_234 rfl rfl rfl mS_233 mP_233 mL_233 mO_233 rfl rfl ob_77 rfl rfl hq5 ?_
            refine Rc.if_eq (pc1 := 45) tb_234 rfl rfl (by decide) (by decide) (fun hb6 => ?_) (fun hb6 => ?_)
            · rw [if_pos hb6] at h
              refine Rc.run tb_234 1 (pc' := 46) (ls' := [none, none, none]) (st' := [.int (0)]) rfl rfl ?_
              obtain rfl := Option.some.inj h
              obtain ⟨rfl, rfl⟩ := hC
              exact Rc.iret (ins := .ireturn) tb_234 rfl mR_234
            · rw [if_neg hb6] at h
              refine Rc.run tb_234 2 (pc' := 46) (ls' := [some (.ref (77)), some (.int (a1)), some (.int (a2))]) (st' := [.int (1)]) rfl rfl ?_
              obtain rfl := Option.some.inj h
              obtain ⟨rfl, rfl⟩ := hC
              exact Rc.iret (ins := .ireturn) tb_234 rfl mR_234
theorem T_234 {X : AX} {d : Nat} (hd : 131 ≤ d) {a1 : Int32} {a2 : Int32} {M : IM} {x : Int32} {M1 : IM} (h : F_234 a1 a2 M = some (x, M1)) : Rc X d 234 0 [some (.ref (77)), some (.int (a1)), some (.int (a2))] [] M (some (.int x)) M1 := TF_234 hd h ⟨rfl, rfl⟩
/-! 238: NineDemandsModel.bodyFrom -/
def B_238_3 (rk : Int32 → Int32 → Int32 → IM → Option (Int32 × IM)) (x2 : Int32) (x3 : Int32) (M : IM) : (Int32) → Option ((Int32) ⊕ (Int32)) := fun x4 => if F_236 x4 x2 = 0 then (some (Sum.inl (F_192 x4))) else (some (Sum.inr x4))
def L_238_3 (rk : Int32 → Int32 → Int32 → IM → Option (Int32 × IM)) (x2 : Int32) (x3 : Int32) (M : IM) (x4 : Int32) : Option (Int32) := loopN (B_238_3 rk x2 x3 M) FU x4
def J_238_22 (rk : Int32 → Int32 → Int32 → IM → Option (Int32 × IM)) (x2 : Int32) (x3 : Int32) (x4 : Int32) (M : IM) : Option (Int32 × IM) := (match rk x4 x2 x3 M with | none => none | some (c5, M5) => (some ((c5, M5))))
def F_238 (rk : Int32 → Int32 → Int32 → IM → Option (Int32 × IM)) (a1 : Int32) (a2 : Int32) (a3 : Int32) (M : IM) : Option (Int32 × IM) := (match L_238_3 rk a2 a3 M a1 with | none => none | some x4_4 => (J_238_22 rk a2 a3 x4_4 M))
theorem TB_238_3 (Dk : Nat) (rk : Int32 → Int32 → Int32 → IM → Option (Int32 × IM)) (Hk : ∀ {X : AX} {d : Nat}, Dk ≤ d → ∀ {a1 : Int32} {a2 : Int32} {a3 : Int32} {M : IM} {x : Int32} {M1 : IM}, rk a1 a2 a3 M = some (x, M1) → Rc X d 239 0 [some (.ref (77)), some (.int (a1)), some (.int (a2)), some (.int (a3)), none, none] [] M (some (.int x)) M1) {X : AX} {d : Nat} (hd : Dk + 1 ≤ d) {x2 : Int32} {x3 : Int32} {M : IM} {v : Option Value} {M' : IM} : ∀ (s : Int32) (o : (Int32) ⊕ (Int32)), B_238_3 rk x2 x3 M s = some o → (∀ s', o = .inl s' → (fun x4 => Rc X d 238 3 [some (.ref (77)), none, some (.int (x2)), some (.int (x3)), some (.int (x4))] [] M v M') s') → (∀ r, o = .inr r → (fun x4 => Rc X d 238 22 [some (.ref (77)), none, some (.int (x2)), some (.int (x3)), some (.int (x4))] [] M v M') r) → (fun x4 => Rc X d 238 3 [some (.ref (77)), none, some (.int (x2)), some (.int (x3)), some (.int (x4))] [] M v M') s := by
  intro x4 o h hP hE
  show Rc X d 238 3 [some (.ref (77)), none, some (.int (x2)), some (.int (x3)), some (.int (x4))] [] M v M'
  obtain ⟨d, rfl⟩ : ∃ e, d = e + 1 := ⟨d - 1, by omega⟩
  unfold B_238_3 at h
  dsimp only at h hP hE
  refine Rc.run tb_238 2 (pc' := 6) (ls' := [some (.ref (77)), none, some (.int (x2)), some (.int (x3)), some (.int (x4))]) (st' := [.int (x2), .int (x4)]) rfl rfl ?_
  have hq1 := T_236 (X := X) (d := d) (by omega) x4 x2 M
  have hz1 := Rc.bool mR_236 hq1
  refine Rc.callS tb_238 rfl rfl rfl mS_236 mP_236 mL_236 rfl rfl rfl hq1 ?_
  refine Rc.if_ne (pc1 := 22) tb_238 rfl rfl (by decide) (by decide) (fun hb3 => ?_) (fun hb3 => ?_)
  · rw [if_pos hb3] at h
    refine Rc.run tb_238 1 (pc' := 14) (ls' := [some (.ref (77)), none, some (.int (x2)), some (.int (x3)), some (.int (x4))]) (st' := [.int (x4)]) rfl rfl ?_
    have hq2 := T_192 (X := X) (d := d) (by omega) x4 M
    refine Rc.callS tb_238 rfl rfl rfl mS_192 mP_192 mL_192 rfl rfl rfl hq2 ?_
    refine Rc.run tb_238 2 (pc' := 3) (ls' := [some (.ref (77)), none, some (.int (x2)), some (.int (x3)), some (.int (F_192 x4))]) (st' := []) rfl rfl ?_
    refine Rc.mask (b := 29) ((tb_238.2 3).trans rfl) (ls' := [some (.ref (77)), none, some (.int (x2)), some (.int (x3)), some (.int (F_192 x4))]) rfl ?_
    obtain rfl := Option.some.inj h
    exact hP _ rfl
  · rw [if_neg hb3] at h
    refine Rc.mask (b := 29) ((tb_238.2 22).trans rfl) (ls' := [some (.ref (77)), none, some (.int (x2)), some (.int (x3)), some (.int (x4))]) rfl ?_
    obtain rfl := Option.some.inj h
    exact hE _ rfl
theorem TL_238_3 (Dk : Nat) (rk : Int32 → Int32 → Int32 → IM → Option (Int32 × IM)) (Hk : ∀ {X : AX} {d : Nat}, Dk ≤ d → ∀ {a1 : Int32} {a2 : Int32} {a3 : Int32} {M : IM} {x : Int32} {M1 : IM}, rk a1 a2 a3 M = some (x, M1) → Rc X d 239 0 [some (.ref (77)), some (.int (a1)), some (.int (a2)), some (.int (a3)), none, none] [] M (some (.int x)) M1) {X : AX} {d : Nat} (hd : Dk + 1 ≤ d) {x2 : Int32} {x3 : Int32} {M : IM} {x4 : Int32} {v : Option Value} {M' : IM} {r : Int32} (h : L_238_3 rk x2 x3 M x4 = some r) (hE : (fun x4 => Rc X d 238 22 [some (.ref (77)), none, some (.int (x2)), some (.int (x3)), some (.int (x4))] [] M v M') r) : Rc X d 238 3 [some (.ref (77)), none, some (.int (x2)), some (.int (x3)), some (.int (x4))] [] M v M' := by
  exact loopN_rc (P := fun x4 => Rc X d 238 3 [some (.ref (77)), none, some (.int (x2)), some (.int (x3)), some (.int (x4))] [] M v M') (E := fun x4 => Rc X d 238 22 [some (.ref (77)), none, some (.int (x2)), some (.int (x3)), some (.int (x4))] [] M v M') (TB_238_3 Dk rk Hk (X := X) hd) FU _ r h hE
theorem TJ_238_22 (Dk : Nat) (rk : Int32 → Int32 → Int32 → IM → Option (Int32 × IM)) (Hk : ∀ {X : AX} {d : Nat}, Dk ≤ d → ∀ {a1 : Int32} {a2 : Int32} {a3 : Int32} {M : IM} {x : Int32} {M1 : IM}, rk a1 a2 a3 M = some (x, M1) → Rc X d 239 0 [some (.ref (77)), some (.int (a1)), some (.int (a2)), some (.int (a3)), none, none] [] M (some (.int x)) M1) {X : AX} {d : Nat} (hd : Dk + 1 ≤ d) {x2 : Int32} {x3 : Int32} {x4 : Int32} {M : IM} {v : Option Value} {M' : IM} {o : Int32 × IM} (h : J_238_22 rk x2 x3 x4 M = some o) (hC : v = some (.int o.1) ∧ M' = o.2) : Rc X d 238 22 [some (.ref (77)), none, some (.int (x2)), some (.int (x3)), some (.int (x4))] [] M v M' := by
  obtain ⟨d, rfl⟩ : ∃ e, d = e + 1 := ⟨d - 1, by omega⟩
  unfold J_238_22 at h
  refine Rc.run tb_238 4 (pc' := 27) (ls' := [some (.ref (77)), none, some (.int (x2)), some (.int (x3)), some (.int (x4))]) (st' := [.int (x3), .int (x2), .int (x4), .ref (77)]) rfl rfl ?_
  cases hc5 : rk x4 x2 x3 M with
  | none => rw [hc5] at h; cases h
  | some r5 =>
    obtain ⟨c5, M5⟩ := r5
    rw [hc5] at h
    dsimp only at h
    have hq5 := Hk (X := X) (d := d) (by omega) (M := M) hc5
    refine Rc.callV tb_238 rfl rfl rfl mS_239 mP_239 mL_239 mO_239 rfl rfl ob_77 rfl rfl hq5 ?_
    obtain rfl := Option.some.inj h
    obtain ⟨rfl, rfl⟩ := hC
    exact Rc.iret (ins := .ireturn) tb_238 rfl mR_238
theorem TF_238 (Dk : Nat) (rk : Int32 → Int32 → Int32 → IM → Option (Int32 × IM)) (Hk : ∀ {X : AX} {d : Nat}, Dk ≤ d → ∀ {a1 : Int32} {a2 : Int32} {a3 : Int32} {M : IM} {x : Int32} {M1 : IM}, rk a1 a2 a3 M = some (x, M1) → Rc X d 239 0 [some (.ref (77)), some (.int (a1)), some (.int (a2)), some (.int (a3)), none, none] [] M (some (.int x)) M1) {X : AX} {d : Nat} (hd : Dk + 1 ≤ d) {a1 : Int32} {a2 : Int32} {a3 : Int32} {M : IM} {v : Option Value} {M' : IM} {o : Int32 × IM} (h : F_238 rk a1 a2 a3 M = some o) (hC : v = some (.int o.1) ∧ M' = o.2) : Rc X d 238 0 [some (.ref (77)), some (.int (a1)), some (.int (a2)), some (.int (a3)), none] [] M v M' := by
  obtain ⟨d, rfl⟩ : ∃ e, d = e + 1 := ⟨d - 1, by omega⟩
  unfold F_238 at h
  refine Rc.run tb_238 2 (pc' := 3) (ls' := [some (.ref (77)), some (.int (a1)), some (.int (a2)), some (.int (a3)), some (.int (a1))]) (st' := []) rfl rfl ?_
  refine Rc.mask (b := 29) ((tb_238.2 3).trans rfl) (ls' := [some (.ref (77)), none, some (.int (a2)), some (.int (a3)), some (.int (a1))]) rfl ?_
  cases hl4 : L_238_3 rk a2 a3 M a1 with
  | none => rw [hl4] at h; cases h
  | some x4_4 =>
    rw [hl4] at h
    dsimp only at h
    refine TL_238_3 Dk rk Hk (X := X) (d := d + 1) (by omega) hl4 ?_
    refine Rc.mask (b := 29) ((tb_238.2 22).trans rfl) (ls' := [some (.ref (77)), none, some (.int (a2)), some (.int (a3)), some (.int (x4_4))]) rfl ?_
    exact TJ_238_22 Dk rk Hk (X := X) (d := d + 1) (by omega) h hC
theorem T_238 (Dk : Nat) (rk : Int32 → Int32 → Int32 → IM → Option (Int32 × IM)) (Hk : ∀ {X : AX} {d : Nat}, Dk ≤ d → ∀ {a1 : Int32} {a2 : Int32} {a3 : Int32} {M : IM} {x : Int32} {M1 : IM}, rk a1 a2 a3 M = some (x, M1) → Rc X d 239 0 [some (.ref (77)), some (.int (a1)), some (.int (a2)), some (.int (a3)), none, none] [] M (some (.int x)) M1) {X : AX} {d : Nat} (hd : Dk + 1 ≤ d) {a1 : Int32} {a2 : Int32} {a3 : Int32} {M : IM} {x : Int32} {M1 : IM} (h : F_238 rk a1 a2 a3 M = some (x, M1)) : Rc X d 238 0 [some (.ref (77)), some (.int (a1)), some (.int (a2)), some (.int (a3)), none] [] M (some (.int x)) M1 := TF_238 Dk rk Hk hd h ⟨rfl, rfl⟩
/-! 237: NineDemandsModel.voiced -/
def F_237 (rk : Int32 → Int32 → Int32 → IM → Option (Int32 × IM)) (a1 : Int32) (a2 : Int32) (M : IM) : Option (Int32 × IM) := (match F_163 (M 77 28) M with | none => none | some c1 => (match F_238 rk c1 a1 a2 M with | none => none | some (c2, M2) => (some ((c2, M2)))))
theorem TF_237 (Dk : Nat) (rk : Int32 → Int32 → Int32 → IM → Option (Int32 × IM)) (Hk : ∀ {X : AX} {d : Nat}, Dk ≤ d → ∀ {a1 : Int32} {a2 : Int32} {a3 : Int32} {M : IM} {x : Int32} {M1 : IM}, rk a1 a2 a3 M = some (x, M1) → Rc X d 239 0 [some (.ref (77)), some (.int (a1)), some (.int (a2)), some (.int (a3)), none, none] [] M (some (.int x)) M1) {X : AX} {d : Nat} (hd : Dk + 2 ≤ d) {a1 : Int32} {a2 : Int32} {M : IM} {v : Option Value} {M' : IM} {o : Int32 × IM} (h : F_237 rk a1 a2 M = some o) (hC : v = some (.int o.1) ∧ M' = o.2) : Rc X d 237 0 [some (.ref (77)), some (.int (a1)), some (.int (a2))] [] M v M' := by
  obtain ⟨d, rfl⟩ : ∃ e, d = e + 1 := ⟨d - 1, by omega⟩
  unfold F_237 at h
  refine Rc.run tb_237 3 (pc' := 3) (ls' := [some (.ref (77)), some (.int (a1)), some (.int (a2))]) (st' := [.ref (77), .ref (77), .ref (77)]) rfl rfl ?_
  refine Rc.getI tb_237 rfl rfl ob_77 (by decide +kernel) tg_77_28 ?_
  cases hc1 : F_163 (M 77 28) M with
  | none => rw [hc1] at h; cases h
  | some c1 =>
    rw [hc1] at h
    dsimp only at h
    have hq1 := T_163 (X := X) (d := d) (by omega) (M := M) hc1
    refine Rc.callV tb_237 rfl rfl rfl mS_163 mP_163 mL_163 mO_163 rfl rfl ob_77 rfl rfl hq1 ?_
    refine Rc.run tb_237 2 (pc' := 11) (ls' := [some (.ref (77)), some (.int (a1)), some (.int (a2))]) (st' := [.int (a2), .int (a1), .int (c1), .ref (77)]) rfl rfl ?_
    cases hc2 : F_238 rk c1 a1 a2 M with
    | none => rw [hc2] at h; cases h
    | some r2 =>
      obtain ⟨c2, M2⟩ := r2
      rw [hc2] at h
      dsimp only at h
      have hq2 := T_238 Dk rk Hk (X := X) (d := d) (by omega) (M := M) hc2
      refine Rc.callV tb_237 rfl rfl rfl mS_238 mP_238 mL_238 mO_238 rfl rfl ob_77 rfl rfl hq2 ?_
      obtain rfl := Option.some.inj h
      obtain ⟨rfl, rfl⟩ := hC
      exact Rc.iret (ins := .ireturn) tb_237 rfl mR_237
theorem T_237 (Dk : Nat) (rk : Int32 → Int32 → Int32 → IM → Option (Int32 × IM)) (Hk : ∀ {X : AX} {d : Nat}, Dk ≤ d → ∀ {a1 : Int32} {a2 : Int32} {a3 : Int32} {M : IM} {x : Int32} {M1 : IM}, rk a1 a2 a3 M = some (x, M1) → Rc X d 239 0 [some (.ref (77)), some (.int (a1)), some (.int (a2)), some (.int (a3)), none, none] [] M (some (.int x)) M1) {X : AX} {d : Nat} (hd : Dk + 2 ≤ d) {a1 : Int32} {a2 : Int32} {M : IM} {x : Int32} {M1 : IM} (h : F_237 rk a1 a2 M = some (x, M1)) : Rc X d 237 0 [some (.ref (77)), some (.int (a1)), some (.int (a2))] [] M (some (.int x)) M1 := TF_237 Dk rk Hk hd h ⟨rfl, rfl⟩
/-! 239: NineDemandsModel.body -/
def F_239 (rk : Int32 → Int32 → Int32 → IM → Option (Int32 × IM)) (a1 : Int32) (a2 : Int32) (a3 : Int32) (M : IM) : Option (Int32 × IM) := if inb (30 + (M 77 28)) 366 = true then (if ((4 * a1) + a2) = 0 then (match F_235 (10 : Int32) M with | none => none | some M37 => (some ((a3 + (M37 77 28), M37)))) else (if ((4 * a1) + a2) = 1 then (match F_235 (11 : Int32) M with | none => none | some M35 => (match F_237 rk (0 : Int32) a3 M35 with | none => none | some (c36, M36) => (some ((c36 * 2, M36))))) else (if ((4 * a1) + a2) = 2 then (match F_235 (12 : Int32) M with | none => none | some M34 => (some ((a3 - (M 78 (30 + (M 77 28)).toNatClampNeg), M34)))) else (if ((4 * a1) + a2) = 3 then (match F_235 (13 : Int32) M with | none => none | some M31 => (match F_237 rk (1 : Int32) a3 M31 with | none => none | some (c32, M32) => (match F_237 rk (2 : Int32) a3 M32 with | none => none | some (c33, M33) => (some ((c32 ^^^ c33, M33)))))) else (if ((4 * a1) + a2) = 5 then (match F_235 (20 : Int32) M with | none => none | some M28 => (match F_238 rk (0 : Int32) (1 : Int32) a3 M28 with | none => none | some (c29, M29) => (match F_237 rk (2 : Int32) a3 M29 with | none => none | some (c30, M30) => (some ((c29 + c30, M30)))))) else (if ((4 * a1) + a2) = 8 then (match F_235 (30 : Int32) M with | none => none | some M26 => (match F_238 rk (1 : Int32) (0 : Int32) a3 M26 with | none => none | some (c27, M27) => (some ((c27 - 1, M27))))) else (if ((4 * a1) + a2) = 11 then (match F_235 (31 : Int32) M with | none => none | some M24 => (match F_238 rk (1 : Int32) (3 : Int32) (a3 + 1) M24 with | none => none | some (c25, M25) => (some ((c25, M25))))) else (if ((4 * a1) + a2) = 14 then (match F_235 (40 : Int32) M with | none => none | some M22 => (match F_238 rk (1 : Int32) (2 : Int32) a3 M22 with | none => none | some (c23, M23) => (some ((-c23, M23))))) else (if ((4 * a1) + a2) = 17 then (match F_235 (51 : Int32) M with | none => none | some M20 => (match F_238 rk (1 : Int32) (1 : Int32) (a3 - (M 78 (30 + (M 77 28)).toNatClampNeg)) M20 with | none => none | some (c21, M21) => (some ((c21, M21))))) else (if ((4 * a1) + a2) = 19 then (match F_235 (50 : Int32) M with | none => none | some M17 => (match F_237 rk (2 : Int32) a3 M17 with | none => none | some (c18, M18) => (match F_238 rk (1 : Int32) (3 : Int32) a3 M18 with | none => none | some (c19, M19) => (some ((c18 - c19, M19)))))) else (if ((4 * a1) + a2) = 20 then (match F_235 (60 : Int32) M with | none => none | some M15 => (match F_238 rk (0 : Int32) (0 : Int32) a3 M15 with | none => none | some (c16, M16) => (some ((c16 ^^^ 5, M16))))) else (match F_235 (61 : Int32) M with | none => none | some M1 => (match F_238 rk (0 : Int32) (2 : Int32) a3 M1 with | none => none | some (c2, M2) => (match F_237 rk (0 : Int32) (1 : Int32) M2 with | none => none | some (c3, M3) => (some ((c2 * c3, M3))))))))))))))))) else none
theorem TF_239 (Dk : Nat) (rk : Int32 → Int32 → Int32 → IM → Option (Int32 × IM)) (Hk : ∀ {X : AX} {d : Nat}, Dk ≤ d → ∀ {a1 : Int32} {a2 : Int32} {a3 : Int32} {M : IM} {x : Int32} {M1 : IM}, rk a1 a2 a3 M = some (x, M1) → Rc X d 239 0 [some (.ref (77)), some (.int (a1)), some (.int (a2)), some (.int (a3)), none, none] [] M (some (.int x)) M1) {X : AX} {d : Nat} (hd : Dk + 3 ≤ d) {a1 : Int32} {a2 : Int32} {a3 : Int32} {M : IM} {v : Option Value} {M' : IM} {o : Int32 × IM} (h : F_239 rk a1 a2 a3 M = some o) (hC : v = some (.int o.1) ∧ M' = o.2) : Rc X d 239 0 [some (.ref (77)), some (.int (a1)), some (.int (a2)), some (.int (a3)), none, none] [] M v M' := by
  obtain ⟨d, rfl⟩ : ∃ e, d = e + 1 := ⟨d - 1, by omega⟩
  unfold F_239 at h
  refine Rc.run tb_239 1 (pc' := 1) (ls' := [some (.ref (77)), some (.int (a1)), some (.int (a2)), some (.int (a3)), none, none]) (st' := [.ref (77)]) rfl rfl ?_
  refine Rc.getR tb_239 rfl rfl ob_77 (by decide +kernel) tg_77_0 (by decide) ?_
  refine Rc.run tb_239 2 (pc' := 7) (ls' := [some (.ref (77)), some (.int (a1)), some (.int (a2)), some (.int (a3)), none, none]) (st' := [.ref (77), .int (30), .ref (78)]) rfl rfl ?_
  refine Rc.getI tb_239 rfl rfl ob_77 (by decide +kernel) tg_77_28 ?_
  refine Rc.run tb_239 1 (pc' := 11) (ls' := [some (.ref (77)), some (.int (a1)), some (.int (a2)), some (.int (a3)), none, none]) (st' := [.int (30 + (M 77 28)), .ref (78)]) rfl rfl ?_
  by_cases hb38 : inb (30 + (M 77 28)) 366 = true
  · rw [if_pos hb38] at h
    refine Rc.iald tb_239 rfl rfl ia_78 hb38 ?_
    refine Rc.run tb_239 6 (pc' := 19) (ls' := [some (.ref (77)), some (.int (a1)), some (.int (a2)), some (.int (a3)), some (.int (M 78 (30 + (M 77 28)).toNatClampNeg)), none]) (st' := [.int ((4 * a1) + a2)]) rfl rfl ?_
    by_cases hk4 : ((4 * a1) + a2) = 0
    · rw [if_pos hk4] at h
      refine Rc.table (off := 97) (pc1 := 116) tb_239 rfl rfl (by decide) (tsw_at (k := 0) (by rw [hk4]; decide) (by decide +kernel)) (by decide) (by decide) ?_
      refine Rc.run tb_239 2 (pc' := 119) (ls' := [some (.ref (77)), some (.int (a1)), some (.int (a2)), some (.int (a3)), some (.int (M 78 (30 + (M 77 28)).toNatClampNeg)), none]) (st' := [.int (10), .ref (77)]) rfl rfl ?_
      cases hc37 : F_235 (10 : Int32) M with
      | none => rw [hc37] at h; cases h
      | some M37 =>
        rw [hc37] at h
        dsimp only at h
        have hq37 := T_235 (X := X) (d := d) (by omega) (M := M) hc37
        refine Rc.callV tb_239 rfl rfl rfl mS_235 mP_235 mL_235 mO_235 rfl rfl ob_77 rfl rfl hq37 ?_
        refine Rc.run tb_239 2 (pc' := 124) (ls' := [some (.ref (77)), some (.int (a1)), some (.int (a2)), some (.int (a3)), some (.int (M 78 (30 + (M 77 28)).toNatClampNeg)), none]) (st' := [.ref (77), .int (a3)]) rfl rfl ?_
        refine Rc.getI tb_239 rfl rfl ob_77 (by decide +kernel) tg_77_28 ?_
        refine Rc.run tb_239 1 (pc' := 128) (ls' := [some (.ref (77)), some (.int (a1)), some (.int (a2)), some (.int (a3)), some (.int (M 78 (30 + (M 77 28)).toNatClampNeg)), none]) (st' := [.int (a3 + (M37 77 28))]) rfl rfl ?_
        obtain rfl := Option.some.inj h
        obtain ⟨rfl, rfl⟩ := hC
        exact Rc.iret (ins := .ireturn) tb_239 rfl mR_239
    · rw [if_neg hk4] at h
      by_cases hk5 : ((4 * a1) + a2) = 1
      · rw [if_pos hk5] at h
        refine Rc.table (off := 110) (pc1 := 129) tb_239 rfl rfl (by decide) (tsw_at (k := 1) (by rw [hk5]; decide) (by decide +kernel)) (by decide) (by decide) ?_
        refine Rc.run tb_239 2 (pc' := 132) (ls' := [some (.ref (77)), some (.int (a1)), some (.int (a2)), some (.int (a3)), some (.int (M 78 (30 + (M 77 28)).toNatClampNeg)), none]) (st' := [.int (11), .ref (77)]) rfl rfl ?_
        cases hc35 : F_235 (11 : Int32) M with
        | none => rw [hc35] at h; cases h
        | some M35 =>
          rw [hc35] at h
          dsimp only at h
          have hq35 := T_235 (X := X) (d := d) (by omega) (M := M) hc35
          refine Rc.callV tb_239 rfl rfl rfl mS_235 mP_235 mL_235 mO_235 rfl rfl ob_77 rfl rfl hq35 ?_
          refine Rc.run tb_239 3 (pc' := 138) (ls' := [some (.ref (77)), some (.int (a1)), some (.int (a2)), some (.int (a3)), some (.int (M 78 (30 + (M 77 28)).toNatClampNeg)), none]) (st' := [.int (a3), .int (0), .ref (77)]) rfl rfl ?_
          cases hc36 : F_237 rk (0 : Int32) a3 M35 with
          | none => rw [hc36] at h; cases h
          | some r36 =>
            obtain ⟨c36, M36⟩ := r36
            rw [hc36] at h
            dsimp only at h
            have hq36 := T_237 Dk rk Hk (X := X) (d := d) (by omega) (M := M35) hc36
            refine Rc.callV tb_239 rfl rfl rfl mS_237 mP_237 mL_237 mO_237 rfl rfl ob_77 rfl rfl hq36 ?_
            refine Rc.run tb_239 2 (pc' := 143) (ls' := [some (.ref (77)), some (.int (a1)), some (.int (a2)), some (.int (a3)), some (.int (M 78 (30 + (M 77 28)).toNatClampNeg)), none]) (st' := [.int (c36 * 2)]) rfl rfl ?_
            obtain rfl := Option.some.inj h
            obtain ⟨rfl, rfl⟩ := hC
            exact Rc.iret (ins := .ireturn) tb_239 rfl mR_239
      · rw [if_neg hk5] at h
        by_cases hk6 : ((4 * a1) + a2) = 2
        · rw [if_pos hk6] at h
          refine Rc.table (off := 125) (pc1 := 144) tb_239 rfl rfl (by decide) (tsw_at (k := 2) (by rw [hk6]; decide) (by decide +kernel)) (by decide) (by decide) ?_
          refine Rc.run tb_239 2 (pc' := 147) (ls' := [some (.ref (77)), some (.int (a1)), some (.int (a2)), some (.int (a3)), some (.int (M 78 (30 + (M 77 28)).toNatClampNeg)), none]) (st' := [.int (12), .ref (77)]) rfl rfl ?_
          cases hc34 : F_235 (12 : Int32) M with
          | none => rw [hc34] at h; cases h
          | some M34 =>
            rw [hc34] at h
            dsimp only at h
            have hq34 := T_235 (X := X) (d := d) (by omega) (M := M) hc34
            refine Rc.callV tb_239 rfl rfl rfl mS_235 mP_235 mL_235 mO_235 rfl rfl ob_77 rfl rfl hq34 ?_
            refine Rc.run tb_239 3 (pc' := 154) (ls' := [some (.ref (77)), some (.int (a1)), some (.int (a2)), some (.int (a3)), some (.int (M 78 (30 + (M 77 28)).toNatClampNeg)), none]) (st' := [.int (a3 - (M 78 (30 + (M 77 28)).toNatClampNeg))]) rfl rfl ?_
            obtain rfl := Option.some.inj h
            obtain ⟨rfl, rfl⟩ := hC
            exact Rc.iret (ins := .ireturn) tb_239 rfl mR_239
        · rw [if_neg hk6] at h
          by_cases hk7 : ((4 * a1) + a2) = 3
          · rw [if_pos hk7] at h
            refine Rc.table (off := 136) (pc1 := 155) tb_239 rfl rfl (by decide) (tsw_at (k := 3) (by rw [hk7]; decide) (by decide +kernel)) (by decide) (by decide) ?_
            refine Rc.run tb_239 2 (pc' := 158) (ls' := [some (.ref (77)), some (.int (a1)), some (.int (a2)), some (.int (a3)), some (.int (M 78 (30 + (M 77 28)).toNatClampNeg)), none]) (st' := [.int (13), .ref (77)]) rfl rfl ?_
            cases hc31 : F_235 (13 : Int32) M with
            | none => rw [hc31] at h; cases h
            | some M31 =>
              rw [hc31] at h
              dsimp only at h
              have hq31 := T_235 (X := X) (d := d) (by omega) (M := M) hc31
              refine Rc.callV tb_239 rfl rfl rfl mS_235 mP_235 mL_235 mO_235 rfl rfl ob_77 rfl rfl hq31 ?_
              refine Rc.run tb_239 3 (pc' := 164) (ls' := [some (.ref (77)), some (.int (a1)), some (.int (a2)), some (.int (a3)), some (.int (M 78 (30 + (M 77 28)).toNatClampNeg)), none]) (st' := [.int (a3), .int (1), .ref (77)]) rfl rfl ?_
              cases hc32 : F_237 rk (1 : Int32) a3 M31 with
              | none => rw [hc32] at h; cases h
              | some r32 =>
                obtain ⟨c32, M32⟩ := r32
                rw [hc32] at h
                dsimp only at h
                have hq32 := T_237 Dk rk Hk (X := X) (d := d) (by omega) (M := M31) hc32
                refine Rc.callV tb_239 rfl rfl rfl mS_237 mP_237 mL_237 mO_237 rfl rfl ob_77 rfl rfl hq32 ?_
                refine Rc.run tb_239 5 (pc' := 174) (ls' := [some (.ref (77)), some (.int (a1)), some (.int (a2)), some (.int (a3)), some (.int (M 78 (30 + (M 77 28)).toNatClampNeg)), some (.int (c32))]) (st' := [.int (a3), .int (2), .ref (77), .int (c32)]) rfl rfl ?_
                cases hc33 : F_237 rk (2 : Int32) a3 M32 with
                | none => rw [hc33] at h; cases h
                | some r33 =>
                  obtain ⟨c33, M33⟩ := r33
                  rw [hc33] at h
                  dsimp only at h
                  have hq33 := T_237 Dk rk Hk (X := X) (d := d) (by omega) (M := M32) hc33
                  refine Rc.callV tb_239 rfl rfl rfl mS_237 mP_237 mL_237 mO_237 rfl rfl ob_77 rfl rfl hq33 ?_
                  refine Rc.run tb_239 1 (pc' := 178) (ls' := [some (.ref (77)), some (.int (a1)), some (.int (a2)), some (.int (a3)), some (.int (M 78 (30 + (M 77 28)).toNatClampNeg)), some (.int (c32))]) (st' := [.int (c32 ^^^ c33)]) rfl rfl ?_
                  obtain rfl := Option.some.inj h
                  obtain ⟨rfl, rfl⟩ := hC
                  exact Rc.iret (ins := .ireturn) tb_239 rfl mR_239
          · rw [if_neg hk7] at h
            by_cases hk8 : ((4 * a1) + a2) = 5
            · rw [if_pos hk8] at h
              refine Rc.table (off := 160) (pc1 := 179) tb_239 rfl rfl (by decide) (tsw_at (k := 5) (by rw [hk8]; decide) (by decide +kernel)) (by decide) (by decide) ?_
              refine Rc.run tb_239 2 (pc' := 182) (ls' := [some (.ref (77)), some (.int (a1)), some (.int (a2)), some (.int (a3)), some (.int (M 78 (30 + (M 77 28)).toNatClampNeg)), none]) (st' := [.int (20), .ref (77)]) rfl rfl ?_
              cases hc28 : F_235 (20 : Int32) M with
              | none => rw [hc28] at h; cases h
              | some M28 =>
                rw [hc28] at h
                dsimp only at h
                have hq28 := T_235 (X := X) (d := d) (by omega) (M := M) hc28
                refine Rc.callV tb_239 rfl rfl rfl mS_235 mP_235 mL_235 mO_235 rfl rfl ob_77 rfl rfl hq28 ?_
                refine Rc.run tb_239 4 (pc' := 189) (ls' := [some (.ref (77)), some (.int (a1)), some (.int (a2)), some (.int (a3)), some (.int (M 78 (30 + (M 77 28)).toNatClampNeg)), none]) (st' := [.int (a3), .int (1), .int (0), .ref (77)]) rfl rfl ?_
                cases hc29 : F_238 rk (0 : Int32) (1 : Int32) a3 M28 with
                | none => rw [hc29] at h; cases h
                | some r29 =>
                  obtain ⟨c29, M29⟩ := r29
                  rw [hc29] at h
                  dsimp only at h
                  have hq29 := T_238 Dk rk Hk (X := X) (d := d) (by omega) (M := M28) hc29
                  refine Rc.callV tb_239 rfl rfl rfl mS_238 mP_238 mL_238 mO_238 rfl rfl ob_77 rfl rfl hq29 ?_
                  refine Rc.run tb_239 5 (pc' := 199) (ls' := [some (.ref (77)), some (.int (a1)), some (.int (a2)), some (.int (a3)), some (.int (M 78 (30 + (M 77 28)).toNatClampNeg)), some (.int (c29))]) (st' := [.int (a3), .int (2), .ref (77), .int (c29)]) rfl rfl ?_
                  cases hc30 : F_237 rk (2 : Int32) a3 M29 with
                  | none => rw [hc30] at h; cases h
                  | some r30 =>
                    obtain ⟨c30, M30⟩ := r30
                    rw [hc30] at h
                    dsimp only at h
                    have hq30 := T_237 Dk rk Hk (X := X) (d := d) (by omega) (M := M29) hc30
                    refine Rc.callV tb_239 rfl rfl rfl mS_237 mP_237 mL_237 mO_237 rfl rfl ob_77 rfl rfl hq30 ?_
                    refine Rc.run tb_239 1 (pc' := 203) (ls' := [some (.ref (77)), some (.int (a1)), some (.int (a2)), some (.int (a3)), some (.int (M 78 (30 + (M 77 28)).toNatClampNeg)), some (.int (c29))]) (st' := [.int (c29 + c30)]) rfl rfl ?_
                    obtain rfl := Option.some.inj h
                    obtain ⟨rfl, rfl⟩ := hC
                    exact Rc.iret (ins := .ireturn) tb_239 rfl mR_239
            · rw [if_neg hk8] at h
              by_cases hk9 : ((4 * a1) + a2) = 8
              · rw [if_pos hk9] at h
                refine Rc.table (off := 185) (pc1 := 204) tb_239 rfl rfl (by decide) (tsw_at (k := 8) (by rw [hk9]; decide) (by decide +kernel)) (by decide) (by decide) ?_
                refine Rc.run tb_239 2 (pc' := 207) (ls' := [some (.ref (77)), some (.int (a1)), some (.int (a2)), some (.int (a3)), some (.int (M 78 (30 + (M 77 28)).toNatClampNeg)), none]) (st' := [.int (30), .ref (77)]) rfl rfl ?_
                cases hc26 : F_235 (30 : Int32) M with
                | none => rw [hc26] at h; cases h
                | some M26 =>
                  rw [hc26] at h
                  dsimp only at h
                  have hq26 := T_235 (X := X) (d := d) (by omega) (M := M) hc26
                  refine Rc.callV tb_239 rfl rfl rfl mS_235 mP_235 mL_235 mO_235 rfl rfl ob_77 rfl rfl hq26 ?_
                  refine Rc.run tb_239 4 (pc' := 214) (ls' := [some (.ref (77)), some (.int (a1)), some (.int (a2)), some (.int (a3)), some (.int (M 78 (30 + (M 77 28)).toNatClampNeg)), none]) (st' := [.int (a3), .int (0), .int (1), .ref (77)]) rfl rfl ?_
                  cases hc27 : F_238 rk (1 : Int32) (0 : Int32) a3 M26 with
                  | none => rw [hc27] at h; cases h
                  | some r27 =>
                    obtain ⟨c27, M27⟩ := r27
                    rw [hc27] at h
                    dsimp only at h
                    have hq27 := T_238 Dk rk Hk (X := X) (d := d) (by omega) (M := M26) hc27
                    refine Rc.callV tb_239 rfl rfl rfl mS_238 mP_238 mL_238 mO_238 rfl rfl ob_77 rfl rfl hq27 ?_
                    refine Rc.run tb_239 2 (pc' := 219) (ls' := [some (.ref (77)), some (.int (a1)), some (.int (a2)), some (.int (a3)), some (.int (M 78 (30 + (M 77 28)).toNatClampNeg)), none]) (st' := [.int (c27 - 1)]) rfl rfl ?_
                    obtain rfl := Option.some.inj h
                    obtain ⟨rfl, rfl⟩ := hC
                    exact Rc.iret (ins := .ireturn) tb_239 rfl mR_239
              · rw [if_neg hk9] at h
                by_cases hk10 : ((4 * a1) + a2) = 11
                · rw [if_pos hk10] at h
                  refine Rc.table (off := 201) (pc1 := 220) tb_239 rfl rfl (by decide) (tsw_at (k := 11) (by rw [hk10]; decide) (by decide +kernel)) (by decide) (by decide) ?_
                  refine Rc.run tb_239 2 (pc' := 223) (ls' := [some (.ref (77)), some (.int (a1)), some (.int (a2)), some (.int (a3)), some (.int (M 78 (30 + (M 77 28)).toNatClampNeg)), none]) (st' := [.int (31), .ref (77)]) rfl rfl ?_
                  cases hc24 : F_235 (31 : Int32) M with
                  | none => rw [hc24] at h; cases h
                  | some M24 =>
                    rw [hc24] at h
                    dsimp only at h
                    have hq24 := T_235 (X := X) (d := d) (by omega) (M := M) hc24
                    refine Rc.callV tb_239 rfl rfl rfl mS_235 mP_235 mL_235 mO_235 rfl rfl ob_77 rfl rfl hq24 ?_
                    refine Rc.run tb_239 6 (pc' := 232) (ls' := [some (.ref (77)), some (.int (a1)), some (.int (a2)), some (.int (a3)), some (.int (M 78 (30 + (M 77 28)).toNatClampNeg)), none]) (st' := [.int (a3 + 1), .int (3), .int (1), .ref (77)]) rfl rfl ?_
                    cases hc25 : F_238 rk (1 : Int32) (3 : Int32) (a3 + 1) M24 with
                    | none => rw [hc25] at h; cases h
                    | some r25 =>
                      obtain ⟨c25, M25⟩ := r25
                      rw [hc25] at h
                      dsimp only at h
                      have hq25 := T_238 Dk rk Hk (X := X) (d := d) (by omega) (M := M24) hc25
                      refine Rc.callV tb_239 rfl rfl rfl mS_238 mP_238 mL_238 mO_238 rfl rfl ob_77 rfl rfl hq25 ?_
                      obtain rfl := Option.some.inj h
                      obtain ⟨rfl, rfl⟩ := hC
                      exact Rc.iret (ins := .ireturn) tb_239 rfl mR_239
                · rw [if_neg hk10] at h
                  by_cases hk11 : ((4 * a1) + a2) = 14
                  · rw [if_pos hk11] at h
                    refine Rc.table (off := 217) (pc1 := 236) tb_239 rfl rfl (by decide) (tsw_at (k := 14) (by rw [hk11]; decide) (by decide +kernel)) (by decide) (by decide) ?_
                    refine Rc.run tb_239 2 (pc' := 239) (ls' := [some (.ref (77)), some (.int (a1)), some (.int (a2)), some (.int (a3)), some (.int (M 78 (30 + (M 77 28)).toNatClampNeg)), none]) (st' := [.int (40), .ref (77)]) rfl rfl ?_
                    cases hc22 : F_235 (40 : Int32) M with
                    | none => rw [hc22] at h; cases h
                    | some M22 =>
                      rw [hc22] at h
                      dsimp only at h
                      have hq22 := T_235 (X := X) (d := d) (by omega) (M := M) hc22
                      refine Rc.callV tb_239 rfl rfl rfl mS_235 mP_235 mL_235 mO_235 rfl rfl ob_77 rfl rfl hq22 ?_
                      refine Rc.run tb_239 4 (pc' := 246) (ls' := [some (.ref (77)), some (.int (a1)), some (.int (a2)), some (.int (a3)), some (.int (M 78 (30 + (M 77 28)).toNatClampNeg)), none]) (st' := [.int (a3), .int (2), .int (1), .ref (77)]) rfl rfl ?_
                      cases hc23 : F_238 rk (1 : Int32) (2 : Int32) a3 M22 with
                      | none => rw [hc23] at h; cases h
                      | some r23 =>
                        obtain ⟨c23, M23⟩ := r23
                        rw [hc23] at h
                        dsimp only at h
                        have hq23 := T_238 Dk rk Hk (X := X) (d := d) (by omega) (M := M22) hc23
                        refine Rc.callV tb_239 rfl rfl rfl mS_238 mP_238 mL_238 mO_238 rfl rfl ob_77 rfl rfl hq23 ?_
                        refine Rc.run tb_239 1 (pc' := 250) (ls' := [some (.ref (77)), some (.int (a1)), some (.int (a2)), some (.int (a3)), some (.int (M 78 (30 + (M 77 28)).toNatClampNeg)), none]) (st' := [.int (-c23)]) rfl rfl ?_
                        obtain rfl := Option.some.inj h
                        obtain ⟨rfl, rfl⟩ := hC
                        exact Rc.iret (ins := .ireturn) tb_239 rfl mR_239
                  · rw [if_neg hk11] at h
                    by_cases hk12 : ((4 * a1) + a2) = 17
                    · rw [if_pos hk12] at h
                      refine Rc.table (off := 257) (pc1 := 276) tb_239 rfl rfl (by decide) (tsw_at (k := 17) (by rw [hk12]; decide) (by decide +kernel)) (by decide) (by decide) ?_
                      refine Rc.run tb_239 2 (pc' := 279) (ls' := [some (.ref (77)), some (.int (a1)), some (.int (a2)), some (.int (a3)), some (.int (M 78 (30 + (M 77 28)).toNatClampNeg)), none]) (st' := [.int (51), .ref (77)]) rfl rfl ?_
                      cases hc20 : F_235 (51 : Int32) M with
                      | none => rw [hc20] at h; cases h
                      | some M20 =>
                        rw [hc20] at h
                        dsimp only at h
                        have hq20 := T_235 (X := X) (d := d) (by omega) (M := M) hc20
                        refine Rc.callV tb_239 rfl rfl rfl mS_235 mP_235 mL_235 mO_235 rfl rfl ob_77 rfl rfl hq20 ?_
                        refine Rc.run tb_239 6 (pc' := 289) (ls' := [some (.ref (77)), some (.int (a1)), some (.int (a2)), some (.int (a3)), some (.int (M 78 (30 + (M 77 28)).toNatClampNeg)), none]) (st' := [.int (a3 - (M 78 (30 + (M 77 28)).toNatClampNeg)), .int (1), .int (1), .ref (77)]) rfl rfl ?_
                        cases hc21 : F_238 rk (1 : Int32) (1 : Int32) (a3 - (M 78 (30 + (M 77 28)).toNatClampNeg)) M20 with
                        | none => rw [hc21] at h; cases h
                        | some r21 =>
                          obtain ⟨c21, M21⟩ := r21
                          rw [hc21] at h
                          dsimp only at h
                          have hq21 := T_238 Dk rk Hk (X := X) (d := d) (by omega) (M := M20) hc21
                          refine Rc.callV tb_239 rfl rfl rfl mS_238 mP_238 mL_238 mO_238 rfl rfl ob_77 rfl rfl hq21 ?_
                          obtain rfl := Option.some.inj h
                          obtain ⟨rfl, rfl⟩ := hC
                          exact Rc.iret (ins := .ireturn) tb_239 rfl mR_239
                    · rw [if_neg hk12] at h
                      by_cases hk13 : ((4 * a1) + a2) = 19
                      · rw [if_pos hk13] at h
                        refine Rc.table (off := 232) (pc1 := 251) tb_239 rfl rfl (by decide) (tsw_at (k := 19) (by rw [hk13]; decide) (by decide +kernel)) (by decide) (by decide) ?_
                        refine Rc.run tb_239 2 (pc' := 254) (ls' := [some (.ref (77)), some (.int (a1)), some (.int (a2)), some (.int (a3)), some (.int (M 78 (30 + (M 77 28)).toNatClampNeg)), none]) (st' := [.int (50), .ref (77)]) rfl rfl ?_
                        cases hc17 : F_235 (50 : Int32) M with
                        | none => rw [hc17] at h; cases h
                        | some M17 =>
                          rw [hc17] at h
                          dsimp only at h
                          have hq17 := T_235 (X := X) (d := d) (by omega) (M := M) hc17
                          refine Rc.callV tb_239 rfl rfl rfl mS_235 mP_235 mL_235 mO_235 rfl rfl ob_77 rfl rfl hq17 ?_
                          refine Rc.run tb_239 3 (pc' := 260) (ls' := [some (.ref (77)), some (.int (a1)), some (.int (a2)), some (.int (a3)), some (.int (M 78 (30 + (M 77 28)).toNatClampNeg)), none]) (st' := [.int (a3), .int (2), .ref (77)]) rfl rfl ?_
                          cases hc18 : F_237 rk (2 : Int32) a3 M17 with
                          | none => rw [hc18] at h; cases h
                          | some r18 =>
                            obtain ⟨c18, M18⟩ := r18
                            rw [hc18] at h
                            dsimp only at h
                            have hq18 := T_237 Dk rk Hk (X := X) (d := d) (by omega) (M := M17) hc18
                            refine Rc.callV tb_239 rfl rfl rfl mS_237 mP_237 mL_237 mO_237 rfl rfl ob_77 rfl rfl hq18 ?_
                            refine Rc.run tb_239 6 (pc' := 271) (ls' := [some (.ref (77)), some (.int (a1)), some (.int (a2)), some (.int (a3)), some (.int (M 78 (30 + (M 77 28)).toNatClampNeg)), some (.int (c18))]) (st' := [.int (a3), .int (3), .int (1), .ref (77), .int (c18)]) rfl rfl ?_
                            cases hc19 : F_238 rk (1 : Int32) (3 : Int32) a3 M18 with
                            | none => rw [hc19] at h; cases h
                            | some r19 =>
                              obtain ⟨c19, M19⟩ := r19
                              rw [hc19] at h
                              dsimp only at h
                              have hq19 := T_238 Dk rk Hk (X := X) (d := d) (by omega) (M := M18) hc19
                              refine Rc.callV tb_239 rfl rfl rfl mS_238 mP_238 mL_238 mO_238 rfl rfl ob_77 rfl rfl hq19 ?_
                              refine Rc.run tb_239 1 (pc' := 275) (ls' := [some (.ref (77)), some (.int (a1)), some (.int (a2)), some (.int (a3)), some (.int (M 78 (30 + (M 77 28)).toNatClampNeg)), some (.int (c18))]) (st' := [.int (c18 - c19)]) rfl rfl ?_
                              obtain rfl := Option.some.inj h
                              obtain ⟨rfl, rfl⟩ := hC
                              exact Rc.iret (ins := .ireturn) tb_239 rfl mR_239
                      · rw [if_neg hk13] at h
                        by_cases hk14 : ((4 * a1) + a2) = 20
                        · rw [if_pos hk14] at h
                          refine Rc.table (off := 274) (pc1 := 293) tb_239 rfl rfl (by decide) (tsw_at (k := 20) (by rw [hk14]; decide) (by decide +kernel)) (by decide) (by decide) ?_
                          refine Rc.run tb_239 2 (pc' := 296) (ls' := [some (.ref (77)), some (.int (a1)), some (.int (a2)), some (.int (a3)), some (.int (M 78 (30 + (M 77 28)).toNatClampNeg)), none]) (st' := [.int (60), .ref (77)]) rfl rfl ?_
                          cases hc15 : F_235 (60 : Int32) M with
                          | none => rw [hc15] at h; cases h
                          | some M15 =>
                            rw [hc15] at h
                            dsimp only at h
                            have hq15 := T_235 (X := X) (d := d) (by omega) (M := M) hc15
                            refine Rc.callV tb_239 rfl rfl rfl mS_235 mP_235 mL_235 mO_235 rfl rfl ob_77 rfl rfl hq15 ?_
                            refine Rc.run tb_239 4 (pc' := 303) (ls' := [some (.ref (77)), some (.int (a1)), some (.int (a2)), some (.int (a3)), some (.int (M 78 (30 + (M 77 28)).toNatClampNeg)), none]) (st' := [.int (a3), .int (0), .int (0), .ref (77)]) rfl rfl ?_
                            cases hc16 : F_238 rk (0 : Int32) (0 : Int32) a3 M15 with
                            | none => rw [hc16] at h; cases h
                            | some r16 =>
                              obtain ⟨c16, M16⟩ := r16
                              rw [hc16] at h
                              dsimp only at h
                              have hq16 := T_238 Dk rk Hk (X := X) (d := d) (by omega) (M := M15) hc16
                              refine Rc.callV tb_239 rfl rfl rfl mS_238 mP_238 mL_238 mO_238 rfl rfl ob_77 rfl rfl hq16 ?_
                              refine Rc.run tb_239 2 (pc' := 308) (ls' := [some (.ref (77)), some (.int (a1)), some (.int (a2)), some (.int (a3)), some (.int (M 78 (30 + (M 77 28)).toNatClampNeg)), none]) (st' := [.int (c16 ^^^ 5)]) rfl rfl ?_
                              obtain rfl := Option.some.inj h
                              obtain ⟨rfl, rfl⟩ := hC
                              exact Rc.iret (ins := .ireturn) tb_239 rfl mR_239
                        · rw [if_neg hk14] at h
                          refine Rc.table (off := 290) (pc1 := 309) tb_239 rfl rfl (by decide) (tsw_df [0, 1, 2, 3, 5, 8, 11, 14, 17, 19, 20] (by decide +kernel) (fun k hk => by simp only [List.mem_cons, List.not_mem_nil, or_false] at hk; rcases hk with rfl | rfl | rfl | rfl | rfl | rfl | rfl | rfl | rfl | rfl | rfl <;> assumption)) (by decide) (by decide) ?_
                          refine Rc.run tb_239 2 (pc' := 312) (ls' := [some (.ref (77)), some (.int (a1)), some (.int (a2)), some (.int (a3)), some (.int (M 78 (30 + (M 77 28)).toNatClampNeg)), none]) (st' := [.int (61), .ref (77)]) rfl rfl ?_
                          cases hc1 : F_235 (61 : Int32) M with
                          | none => rw [hc1] at h; cases h
                          | some M1 =>
                            rw [hc1] at h
                            dsimp only at h
                            have hq1 := T_235 (X := X) (d := d) (by omega) (M := M) hc1
                            refine Rc.callV tb_239 rfl rfl rfl mS_235 mP_235 mL_235 mO_235 rfl rfl ob_77 rfl rfl hq1 ?_
                            refine Rc.run tb_239 4 (pc' := 319) (ls' := [some (.ref (77)), some (.int (a1)), some (.int (a2)), some (.int (a3)), some (.int (M 78 (30 + (M 77 28)).toNatClampNeg)), none]) (st' := [.int (a3), .int (2), .int (0), .ref (77)]) rfl rfl ?_
                            cases hc2 : F_238 rk (0 : Int32) (2 : Int32) a3 M1 with
                            | none => rw [hc2] at h; cases h
                            | some r2 =>
                              obtain ⟨c2, M2⟩ := r2
                              rw [hc2] at h
                              dsimp only at h
                              have hq2 := T_238 Dk rk Hk (X := X) (d := d) (by omega) (M := M1) hc2
                              refine Rc.callV tb_239 rfl rfl rfl mS_238 mP_238 mL_238 mO_238 rfl rfl ob_77 rfl rfl hq2 ?_
                              refine Rc.run tb_239 5 (pc' := 329) (ls' := [some (.ref (77)), some (.int (a1)), some (.int (a2)), some (.int (a3)), some (.int (M 78 (30 + (M 77 28)).toNatClampNeg)), some (.int (c2))]) (st' := [.int (1), .int (0), .ref (77), .int (c2)]) rfl rfl ?_
                              cases hc3 : F_237 rk (0 : Int32) (1 : Int32) M2 with
                              | none => rw [hc3] at h; cases h
                              | some r3 =>
                                obtain ⟨c3, M3⟩ := r3
                                rw [hc3] at h
                                dsimp only at h
                                have hq3 := T_237 Dk rk Hk (X := X) (d := d) (by omega) (M := M2) hc3
                                refine Rc.callV tb_239 rfl rfl rfl mS_237 mP_237 mL_237 mO_237 rfl rfl ob_77 rfl rfl hq3 ?_
                                refine Rc.run tb_239 1 (pc' := 333) (ls' := [some (.ref (77)), some (.int (a1)), some (.int (a2)), some (.int (a3)), some (.int (M 78 (30 + (M 77 28)).toNatClampNeg)), some (.int (c2))]) (st' := [.int (c2 * c3)]) rfl rfl ?_
                                obtain rfl := Option.some.inj h
                                obtain ⟨rfl, rfl⟩ := hC
                                exact Rc.iret (ins := .ireturn) tb_239 rfl mR_239
  · rw [if_neg hb38] at h
    cases h
theorem T_239 (Dk : Nat) (rk : Int32 → Int32 → Int32 → IM → Option (Int32 × IM)) (Hk : ∀ {X : AX} {d : Nat}, Dk ≤ d → ∀ {a1 : Int32} {a2 : Int32} {a3 : Int32} {M : IM} {x : Int32} {M1 : IM}, rk a1 a2 a3 M = some (x, M1) → Rc X d 239 0 [some (.ref (77)), some (.int (a1)), some (.int (a2)), some (.int (a3)), none, none] [] M (some (.int x)) M1) {X : AX} {d : Nat} (hd : Dk + 3 ≤ d) {a1 : Int32} {a2 : Int32} {a3 : Int32} {M : IM} {x : Int32} {M1 : IM} (h : F_239 rk a1 a2 a3 M = some (x, M1)) : Rc X d 239 0 [some (.ref (77)), some (.int (a1)), some (.int (a2)), some (.int (a3)), none, none] [] M (some (.int x)) M1 := TF_239 Dk rk Hk hd h ⟨rfl, rfl⟩
def KK_239 : Nat → Int32 → Int32 → Int32 → IM → Option (Int32 × IM)
  | 0, _, _, _, _ => none
  | k + 1, a1, a2, a3, M => F_239 (KK_239 k) a1 a2 a3 M
theorem TKK_239 : ∀ (k : Nat), ∀ {X : AX} {d : Nat}, k * 3 ≤ d → ∀ {a1 : Int32} {a2 : Int32} {a3 : Int32} {M : IM} {x : Int32} {M1 : IM}, KK_239 k a1 a2 a3 M = some (x, M1) → Rc X d 239 0 [some (.ref (77)), some (.int (a1)), some (.int (a2)), some (.int (a3)), none, none] [] M (some (.int x)) M1
  | 0 => by intros; rename_i h; cases h
  | k + 1 => by intro hd; intros; rename_i h; exact T_239 (k * 3) (KK_239 k) (@TKK_239 k) (by omega) h
def K_239 (a1 : Int32) (a2 : Int32) (a3 : Int32) (M : IM) : Option (Int32 × IM) := KK_239 64 a1 a2 a3 M
theorem TK_239 {X : AX} {d : Nat} (hd : 192 ≤ d)  {a1 : Int32} {a2 : Int32} {a3 : Int32} {M : IM} {x : Int32} {M1 : IM} (h : K_239 a1 a2 a3 M = some (x, M1)) : Rc X d 239 0 [some (.ref (77)), some (.int (a1)), some (.int (a2)), some (.int (a3)), none, none] [] M (some (.int x)) M1 := TKK_239 64 (by omega) h
def K_238 (a1 : Int32) (a2 : Int32) (a3 : Int32) (M : IM) : Option (Int32 × IM) := F_238 (KK_239 64) a1 a2 a3 M
theorem TK_238 {X : AX} {d : Nat} (hd : 193 ≤ d)  {a1 : Int32} {a2 : Int32} {a3 : Int32} {M : IM} {x : Int32} {M1 : IM} (h : K_238 a1 a2 a3 M = some (x, M1)) : Rc X d 238 0 [some (.ref (77)), some (.int (a1)), some (.int (a2)), some (.int (a3)), none] [] M (some (.int x)) M1 := T_238 (64 * 3) (KK_239 64) (@TKK_239 64) (X := X) (d := d) (by omega) h
def K_237 (a1 : Int32) (a2 : Int32) (M : IM) : Option (Int32 × IM) := F_237 (KK_239 64) a1 a2 M
theorem TK_237 {X : AX} {d : Nat} (hd : 194 ≤ d)  {a1 : Int32} {a2 : Int32} {M : IM} {x : Int32} {M1 : IM} (h : K_237 a1 a2 M = some (x, M1)) : Rc X d 237 0 [some (.ref (77)), some (.int (a1)), some (.int (a2))] [] M (some (.int x)) M1 := T_237 (64 * 3) (KK_239 64) (@TKK_239 64) (X := X) (d := d) (by omega) h
/-! 240: NineDemandsModel.voice -/
def J_240_17 (M : IM) : Option (Int32 × IM) := (match F_156 ((-1000001) : Int32) M with | none => none | some (c2, M2) => (some ((c2, M2))))
def F_240 (a1 : Int32) (a2 : Int32) (a3 : Int32) (M : IM) : Option (Int32 × IM) := if F_160 a1 M = 0 then (J_240_17 M) else (if F_157 a2 (0 : Int32) (3 : Int32) = 0 then (J_240_17 M) else (match K_237 a2 a3 (iset (iset M 77 27 0) 77 28 a1) with | none => none | some (c4, M4) => (some ((c4, M4)))))
theorem TJ_240_17 {X : AX} {d : Nat} (hd : 195 ≤ d) {M : IM} {v : Option Value} {M' : IM} {o : Int32 × IM} (h : J_240_17 M = some o) (hC : v = some (.int o.1) ∧ M' = o.2) : Rc X d 240 17 [some (.ref (77)), none, none, none] [] M v M' := by
  obtain ⟨d, rfl⟩ : ∃ e, d = e + 1 := ⟨d - 1, by omega⟩
  unfold J_240_17 at h
  refine Rc.run tb_240 2 (pc' := 20) (ls' := [some (.ref (77)), none, none, none]) (st' := [.int ((-1000001)), .ref (77)]) rfl rfl ?_
  cases hc2 : F_156 ((-1000001) : Int32) M with
  | none => rw [hc2] at h; cases h
  | some r2 =>
    obtain ⟨c2, M2⟩ := r2
    rw [hc2] at h
    dsimp only at h
    have hq2 := T_156 (X := X) (d := d) (by omega) (M := M) hc2
    refine Rc.callV tb_240 rfl rfl rfl mS_156 mP_156 mL_156 mO_156 rfl rfl ob_77 rfl rfl hq2 ?_
    obtain rfl := Option.some.inj h
    obtain ⟨rfl, rfl⟩ := hC
    exact Rc.iret (ins := .ireturn) tb_240 rfl mR_240
theorem TF_240 {X : AX} {d : Nat} (hd : 195 ≤ d) {a1 : Int32} {a2 : Int32} {a3 : Int32} {M : IM} {v : Option Value} {M' : IM} {o : Int32 × IM} (h : F_240 a1 a2 a3 M = some o) (hC : v = some (.int o.1) ∧ M' = o.2) : Rc X d 240 0 [some (.ref (77)), some (.int (a1)), some (.int (a2)), some (.int (a3))] [] M v M' := by
  obtain ⟨d, rfl⟩ : ∃ e, d = e + 1 := ⟨d - 1, by omega⟩
  unfold F_240 at h
  refine Rc.run tb_240 2 (pc' := 2) (ls' := [some (.ref (77)), some (.int (a1)), some (.int (a2)), some (.int (a3))]) (st' := [.int (a1), .ref (77)]) rfl rfl ?_
  have hq1 := T_160 (X := X) (d := d) (by omega) a1 M
  have hz1 := Rc.bool mR_160 hq1
  refine Rc.callV tb_240 rfl rfl rfl mS_160 mP_160 mL_160 mO_160 rfl rfl ob_77 rfl rfl hq1 ?_
  refine Rc.if_eq (pc1 := 17) tb_240 rfl rfl (by decide) (by decide) (fun hb6 => ?_) (fun hb6 => ?_)
  · rw [if_pos hb6] at h
    refine Rc.mask (b := 1) ((tb_240.2 17).trans rfl) (ls' := [some (.ref (77)), none, none, none]) rfl ?_
    exact TJ_240_17 (X := X) (d := d + 1) (by omega) h hC
  · rw [if_neg hb6] at h
    refine Rc.run tb_240 3 (pc' := 11) (ls' := [some (.ref (77)), some (.int (a1)), some (.int (a2)), some (.int (a3))]) (st' := [.int (3), .int (0), .int (a2)]) rfl rfl ?_
    have hq3 := T_157 (X := X) (d := d) (by omega) a2 (0 : Int32) (3 : Int32) M
    have hz3 := Rc.bool mR_157 hq3
    refine Rc.callS tb_240 rfl rfl rfl mS_157 mP_157 mL_157 rfl rfl rfl hq3 ?_
    refine Rc.if_ne (pc1 := 24) tb_240 rfl rfl (by decide) (by decide) (fun hb5 => ?_) (fun hb5 => ?_)
    · rw [if_pos hb5] at h
      refine Rc.mask (b := 1) ((tb_240.2 17).trans rfl) (ls' := [some (.ref (77)), none, none, none]) rfl ?_
      exact TJ_240_17 (X := X) (d := d + 1) (by omega) h hC
    · rw [if_neg hb5] at h
      refine Rc.run tb_240 2 (pc' := 26) (ls' := [some (.ref (77)), some (.int (a1)), some (.int (a2)), some (.int (a3))]) (st' := [.int (0), .ref (77)]) rfl rfl ?_
      refine Rc.putI tb_240 rfl rfl ob_77 (by decide +kernel) tg_77_27 rfl ?_
      refine Rc.run tb_240 2 (pc' := 31) (ls' := [some (.ref (77)), some (.int (a1)), some (.int (a2)), some (.int (a3))]) (st' := [.int (a1), .ref (77)]) rfl rfl ?_
      refine Rc.putI tb_240 rfl rfl ob_77 (by decide +kernel) tg_77_28 rfl ?_
      refine Rc.run tb_240 3 (pc' := 37) (ls' := [some (.ref (77)), some (.int (a1)), some (.int (a2)), some (.int (a3))]) (st' := [.int (a3), .int (a2), .ref (77)]) rfl rfl ?_
      cases hc4 : K_237 a2 a3 (iset (iset M 77 27 0) 77 28 a1) with
      | none => rw [hc4] at h; cases h
      | some r4 =>
        obtain ⟨c4, M4⟩ := r4
        rw [hc4] at h
        dsimp only at h
        have hq4 := TK_237 (X := X) (d := d) (by omega) (M := iset (iset M 77 27 0) 77 28 a1) hc4
        refine Rc.callV tb_240 rfl rfl rfl mS_237 mP_237 mL_237 mO_237 rfl rfl ob_77 rfl rfl hq4 ?_
        obtain rfl := Option.some.inj h
        obtain ⟨rfl, rfl⟩ := hC
        exact Rc.iret (ins := .ireturn) tb_240 rfl mR_240
theorem T_240 {X : AX} {d : Nat} (hd : 195 ≤ d) {a1 : Int32} {a2 : Int32} {a3 : Int32} {M : IM} {x : Int32} {M1 : IM} (h : F_240 a1 a2 a3 M = some (x, M1)) : Rc X d 240 0 [some (.ref (77)), some (.int (a1)), some (.int (a2)), some (.int (a3))] [] M (some (.int x)) M1 := TF_240 hd h ⟨rfl, rfl⟩
/-! 249: NineDemandsModel.learn -/
def B_249_46 (x2 : Int32) (M : IM) : (Int32) → Option ((Int32) ⊕ ((Int32) ⊕ (Int32 × IM))) := fun x3 => if x2 ≤ x3 then (some (Sum.inr (Sum.inl x3))) else (if (12 : Int32) ≤ x3 then (some (Sum.inr (Sum.inr (1 + x3, M)))) else (if inb (90 + x3) 366 = true then (if inb x3 12 = true then (if M 78 (90 + x3).toNatClampNeg = M 89 x3.toNatClampNeg then (some (Sum.inl (x3 + 1))) else (some (Sum.inr (Sum.inr (1 + x3, M))))) else none) else none))
def L_249_46 (x2 : Int32) (M : IM) (x3 : Int32) : Option ((Int32) ⊕ (Int32 × IM)) := loopN (B_249_46 x2 M) FU x3
def F_249 (a1 : Int32) (M : IM) : Option (Int32 × IM) := if F_161 a1 (iset M 78 (2 : Int32).toNatClampNeg 0) = 0 then (match F_156 ((-1000001) : Int32) (iset M 78 (2 : Int32).toNatClampNeg 0) with | none => none | some (c2, M2) => (some ((c2, M2)))) else (match F_207 a1 (iset M 78 (2 : Int32).toNatClampNeg 0) with | none => none | some (c3, M3) => (if c3 = 0 then (match F_156 ((-1000002) : Int32) M3 with | none => none | some (c4, M4) => (some ((c4, M4)))) else (match L_249_46 (M 78 (2 : Int32).toNatClampNeg) M3 0 with | none => none | some (.inl x3_10) => (some ((0, M3))) | some (.inr q) => some (q))))
theorem TB_249_46 {X : AX} {d : Nat} (hd : 130 ≤ d) {x2 : Int32} {M : IM} {v : Option Value} {M' : IM} : ∀ (s : Int32) (o : (Int32) ⊕ ((Int32) ⊕ (Int32 × IM))), B_249_46 x2 M s = some o → (∀ s', o = .inl s' → (fun x3 => Rc X d 249 46 [some (.ref (77)), none, some (.int (x2)), some (.int (x3))] [] M v M') s') → (∀ r, o = .inr r → (fun r => match r with | .inl x3 => Rc X d 249 85 [none, none, none, none] [] M v M' | .inr q => v = some (.int q.1) ∧ M' = q.2) r) → (fun x3 => Rc X d 249 46 [some (.ref (77)), none, some (.int (x2)), some (.int (x3))] [] M v M') s := by
  intro x3 o h hP hE
  show Rc X d 249 46 [some (.ref (77)), none, some (.int (x2)), some (.int (x3))] [] M v M'
  obtain ⟨d, rfl⟩ : ∃ e, d = e + 1 := ⟨d - 1, by omega⟩
  unfold B_249_46 at h
  dsimp only at h hP hE
  refine Rc.run tb_249 2 (pc' := 48) (ls' := [some (.ref (77)), none, some (.int (x2)), some (.int (x3))]) (st' := [.int (x2), .int (x3)]) rfl rfl ?_
  refine Rc.icmp_ge (pc1 := 85) tb_249 rfl rfl (by decide) (by decide) (fun hb9 => ?_) (fun hb9 => ?_)
  · rw [if_pos hb9] at h
    refine Rc.mask (b := 0) ((tb_249.2 85).trans rfl) (ls' := [none, none, none, none]) rfl ?_
    obtain rfl := Option.some.inj h
    exact hE _ rfl
  · rw [if_neg hb9] at h
    refine Rc.run tb_249 2 (pc' := 54) (ls' := [some (.ref (77)), none, some (.int (x2)), some (.int (x3))]) (st' := [.int (12), .int (x3)]) rfl rfl ?_
    refine Rc.icmp_ge (pc1 := 75) tb_249 rfl rfl (by decide) (by decide) (fun hb8 => ?_) (fun hb8 => ?_)
    · rw [if_pos hb8] at h
      refine Rc.run tb_249 3 (pc' := 78) (ls' := [none, none, none, some (.int (x3))]) (st' := [.int (1 + x3)]) rfl rfl ?_
      obtain rfl := Option.some.inj h
      obtain ⟨rfl, rfl⟩ := hE _ rfl
      exact Rc.iret (ins := .ireturn) tb_249 rfl mR_249
    · rw [if_neg hb8] at h
      refine Rc.run tb_249 1 (pc' := 58) (ls' := [some (.ref (77)), none, some (.int (x2)), some (.int (x3))]) (st' := [.ref (77)]) rfl rfl ?_
      refine Rc.getR tb_249 rfl rfl ob_77 (by decide +kernel) tg_77_0 (by decide) ?_
      refine Rc.run tb_249 3 (pc' := 65) (ls' := [some (.ref (77)), none, some (.int (x2)), some (.int (x3))]) (st' := [.int (90 + x3), .ref (78)]) rfl rfl ?_
      by_cases hb7 : inb (90 + x3) 366 = true
      · rw [if_pos hb7] at h
        refine Rc.iald tb_249 rfl rfl ia_78 hb7 ?_
        refine Rc.run tb_249 1 (pc' := 67) (ls' := [some (.ref (77)), none, some (.int (x2)), some (.int (x3))]) (st' := [.ref (77), .int (M 78 (90 + x3).toNatClampNeg)]) rfl rfl ?_
        refine Rc.getR tb_249 rfl rfl ob_77 (by decide +kernel) tg_77_21 (by decide) ?_
        refine Rc.run tb_249 1 (pc' := 71) (ls' := [some (.ref (77)), none, some (.int (x2)), some (.int (x3))]) (st' := [.int (x3), .ref (89), .int (M 78 (90 + x3).toNatClampNeg)]) rfl rfl ?_
        by_cases hb6 : inb x3 12 = true
        · rw [if_pos hb6] at h
          refine Rc.iald tb_249 rfl rfl ia_89 hb6 ?_
          refine Rc.icmp_eq (pc1 := 79) tb_249 rfl rfl (by decide) (by decide) (fun hb5 => ?_) (fun hb5 => ?_)
          · rw [if_pos hb5] at h
            refine Rc.run tb_249 2 (pc' := 46) (ls' := [some (.ref (77)), none, some (.int (x2)), some (.int (x3 + 1))]) (st' := []) rfl rfl ?_
            refine Rc.mask (b := 13) ((tb_249.2 46).trans rfl) (ls' := [some (.ref (77)), none, some (.int (x2)), some (.int (x3 + 1))]) rfl ?_
            obtain rfl := Option.some.inj h
            exact hP _ rfl
          · rw [if_neg hb5] at h
            refine Rc.run tb_249 3 (pc' := 78) (ls' := [none, none, none, some (.int (x3))]) (st' := [.int (1 + x3)]) rfl rfl ?_
            obtain rfl := Option.some.inj h
            obtain ⟨rfl, rfl⟩ := hE _ rfl
            exact Rc.iret (ins := .ireturn) tb_249 rfl mR_249
        · rw [if_neg hb6] at h
          cases h
      · rw [if_neg hb7] at h
        cases h
theorem TL_249_46 {X : AX} {d : Nat} (hd : 130 ≤ d) {x2 : Int32} {M : IM} {x3 : Int32} {v : Option Value} {M' : IM} {r : (Int32) ⊕ (Int32 × IM)} (h : L_249_46 x2 M x3 = some r) (hE : (fun r => match r with | .inl x3 => Rc X d 249 85 [none, none, none, none] [] M v M' | .inr q => v = some (.int q.1) ∧ M' = q.2) r) : Rc X d 249 46 [some (.ref (77)), none, some (.int (x2)), some (.int (x3))] [] M v M' := by
  exact loopN_rc (P := fun x3 => Rc X d 249 46 [some (.ref (77)), none, some (.int (x2)), some (.int (x3))] [] M v M') (E := fun r => match r with | .inl x3 => Rc X d 249 85 [none, none, none, none] [] M v M' | .inr q => v = some (.int q.1) ∧ M' = q.2) (TB_249_46 (X := X) hd) FU _ r h hE
theorem TF_249 {X : AX} {d : Nat} (hd : 130 ≤ d) {a1 : Int32} {M : IM} {v : Option Value} {M' : IM} {o : Int32 × IM} (h : F_249 a1 M = some o) (hC : v = some (.int o.1) ∧ M' = o.2) : Rc X d 249 0 [some (.ref (77)), some (.int (a1)), none, none] [] M v M' := by
  obtain ⟨d, rfl⟩ : ∃ e, d = e + 1 := ⟨d - 1, by omega⟩
  unfold F_249 at h
  refine Rc.run tb_249 1 (pc' := 1) (ls' := [some (.ref (77)), some (.int (a1)), none, none]) (st' := [.ref (77)]) rfl rfl ?_
  refine Rc.getR tb_249 rfl rfl ob_77 (by decide +kernel) tg_77_0 (by decide) ?_
  refine Rc.run tb_249 1 (pc' := 5) (ls' := [some (.ref (77)), some (.int (a1)), none, none]) (st' := [.int (2), .ref (78)]) rfl rfl ?_
  refine Rc.iald tb_249 rfl rfl ia_78 (by decide) ?_
  refine Rc.run tb_249 2 (pc' := 8) (ls' := [some (.ref (77)), some (.int (a1)), some (.int (M 78 (2 : Int32).toNatClampNeg)), none]) (st' := [.ref (77)]) rfl rfl ?_
  refine Rc.getR tb_249 rfl rfl ob_77 (by decide +kernel) tg_77_0 (by decide) ?_
  refine Rc.run tb_249 2 (pc' := 13) (ls' := [some (.ref (77)), some (.int (a1)), some (.int (M 78 (2 : Int32).toNatClampNeg)), none]) (st' := [.int (0), .int (2), .ref (78)]) rfl rfl ?_
  refine Rc.iast tb_249 rfl rfl ia_78 (by decide) ?_
  refine Rc.run tb_249 2 (pc' := 16) (ls' := [some (.ref (77)), some (.int (a1)), some (.int (M 78 (2 : Int32).toNatClampNeg)), none]) (st' := [.int (a1), .ref (77)]) rfl rfl ?_
  have hq1 := T_161 (X := X) (d := d) (by omega) a1 (iset M 78 (2 : Int32).toNatClampNeg 0)
  have hz1 := Rc.bool mR_161 hq1
  refine Rc.callV tb_249 rfl rfl rfl mS_161 mP_161 mL_161 mO_161 rfl rfl ob_77 rfl rfl hq1 ?_
  refine Rc.if_ne (pc1 := 29) tb_249 rfl rfl (by decide) (by decide) (fun hb12 => ?_) (fun hb12 => ?_)
  · rw [if_pos hb12] at h
    refine Rc.run tb_249 2 (pc' := 25) (ls' := [some (.ref (77)), some (.int (a1)), some (.int (M 78 (2 : Int32).toNatClampNeg)), none]) (st' := [.int ((-1000001)), .ref (77)]) rfl rfl ?_
    cases hc2 : F_156 ((-1000001) : Int32) (iset M 78 (2 : Int32).toNatClampNeg 0) with
    | none => rw [hc2] at h; cases h
    | some r2 =>
      obtain ⟨c2, M2⟩ := r2
      rw [hc2] at h
      dsimp only at h
      have hq2 := T_156 (X := X) (d := d) (by omega) (M := iset M 78 (2 : Int32).toNatClampNeg 0) hc2
      refine Rc.callV tb_249 rfl rfl rfl mS_156 mP_156 mL_156 mO_156 rfl rfl ob_77 rfl rfl hq2 ?_
      obtain rfl := Option.some.inj h
      obtain ⟨rfl, rfl⟩ := hC
      exact Rc.iret (ins := .ireturn) tb_249 rfl mR_249
  · rw [if_neg hb12] at h
    refine Rc.run tb_249 2 (pc' := 31) (ls' := [some (.ref (77)), some (.int (a1)), some (.int (M 78 (2 : Int32).toNatClampNeg)), none]) (st' := [.int (a1), .ref (77)]) rfl rfl ?_
    cases hc3 : F_207 a1 (iset M 78 (2 : Int32).toNatClampNeg 0) with
    | none => rw [hc3] at h; cases h
    | some r3 =>
      obtain ⟨c3, M3⟩ := r3
      rw [hc3] at h
      dsimp only at h
      have hq3 := T_207 (X := X) (d := d) (by omega) (M := iset M 78 (2 : Int32).toNatClampNeg 0) hc3
      have hz3 := Rc.bool mR_207 hq3
      refine Rc.callV tb_249 rfl rfl rfl mS_207 mP_207 mL_207 mO_207 rfl rfl ob_77 rfl rfl hq3 ?_
      refine Rc.if_ne (pc1 := 44) tb_249 rfl rfl (by decide) (by decide) (fun hb11 => ?_) (fun hb11 => ?_)
      · rw [if_pos hb11] at h
        refine Rc.run tb_249 2 (pc' := 40) (ls' := [some (.ref (77)), some (.int (a1)), some (.int (M 78 (2 : Int32).toNatClampNeg)), none]) (st' := [.int ((-1000002)), .ref (77)]) rfl rfl ?_
        cases hc4 : F_156 ((-1000002) : Int32) M3 with
        | none => rw [hc4] at h; cases h
        | some r4 =>
          obtain ⟨c4, M4⟩ := r4
          rw [hc4] at h
          dsimp only at h
          have hq4 := T_156 (X := X) (d := d) (by omega) (M := M3) hc4
          refine Rc.callV tb_249 rfl rfl rfl mS_156 mP_156 mL_156 mO_156 rfl rfl ob_77 rfl rfl hq4 ?_
          obtain rfl := Option.some.inj h
          obtain ⟨rfl, rfl⟩ := hC
          exact Rc.iret (ins := .ireturn) tb_249 rfl mR_249
      · rw [if_neg hb11] at h
        refine Rc.run tb_249 2 (pc' := 46) (ls' := [some (.ref (77)), some (.int (a1)), some (.int (M 78 (2 : Int32).toNatClampNeg)), some (.int (0))]) (st' := []) rfl rfl ?_
        refine Rc.mask (b := 13) ((tb_249.2 46).trans rfl) (ls' := [some (.ref (77)), none, some (.int (M 78 (2 : Int32).toNatClampNeg)), some (.int (0))]) rfl ?_
        cases hl10 : L_249_46 (M 78 (2 : Int32).toNatClampNeg) M3 0 with
        | none => rw [hl10] at h; cases h
        | some rr10 =>
          rw [hl10] at h
          cases rr10 with
          | inl x3_10 =>
            dsimp only at h
            refine TL_249_46 (X := X) (d := d + 1) (by omega) hl10 ?_
            refine Rc.run tb_249 1 (pc' := 86) (ls' := [none, none, none, none]) (st' := [.int (0)]) rfl rfl ?_
            obtain rfl := Option.some.inj h
            obtain ⟨rfl, rfl⟩ := hC
            exact Rc.iret (ins := .ireturn) tb_249 rfl mR_249
          | inr q =>
            dsimp only at h
            refine TL_249_46 (X := X) (d := d + 1) (by omega) hl10 ?_
            obtain rfl := Option.some.inj h
            obtain ⟨rfl, rfl⟩ := hC
            exact ⟨rfl, rfl⟩
theorem T_249 {X : AX} {d : Nat} (hd : 130 ≤ d) {a1 : Int32} {M : IM} {x : Int32} {M1 : IM} (h : F_249 a1 M = some (x, M1)) : Rc X d 249 0 [some (.ref (77)), some (.int (a1)), none, none] [] M (some (.int x)) M1 := TF_249 hd h ⟨rfl, rfl⟩
/-! 60: NineDemands$Text.read -/
def J_60_72 (M : IM) : Option (Int32 × IM) := some ((M 45 3, M))
def J_60_49 (s0 : Int32) (M : IM) : Option (Int32 × IM) := (match K_61 (0 : Int32) (iset M 45 4 s0) with | none => none | some M1 => (if M1 45 1 ≤ M1 45 2 then (J_60_72 M1) else (J_60_72 (F_70 M1))))
def F_60 (r1 : Nat) (a2 : Int32) (a3 : Int32) (M : IM) : Option (Int32 × IM) := if a3 = 0 then (J_60_49 (7 : Int32) (iset (iset (iset (iset (iset M 45 0 (nI r1)) 45 1 a2) 45 2 0) 45 6 0) 45 3 (-1))) else (if a3 = 4 then (J_60_49 (9 : Int32) (iset (iset (iset (iset (iset M 45 0 (nI r1)) 45 1 a2) 45 2 0) 45 6 0) 45 3 (-1))) else (J_60_49 (10 : Int32) (iset (iset (iset (iset (iset M 45 0 (nI r1)) 45 1 a2) 45 2 0) 45 6 0) 45 3 (-1))))
theorem TJ_60_72 {X : AX} {d : Nat} (hd : 390 ≤ d) {M : IM} {v : Option Value} {M' : IM} {o : Int32 × IM} (h : J_60_72 M = some o) (hC : v = some (.int o.1) ∧ M' = o.2) : Rc X d 60 72 [some (.ref (45)), none, none, none] [] M v M' := by
  obtain ⟨d, rfl⟩ : ∃ e, d = e + 1 := ⟨d - 1, by omega⟩
  unfold J_60_72 at h
  refine Rc.run tb_60 1 (pc' := 73) (ls' := [some (.ref (45)), none, none, none]) (st' := [.ref (45)]) rfl rfl ?_
  refine Rc.getI tb_60 rfl rfl ob_45 (by decide +kernel) tg_45_3 ?_
  obtain rfl := Option.some.inj h
  obtain ⟨rfl, rfl⟩ := hC
  exact Rc.iret (ins := .ireturn) tb_60 rfl mR_60
theorem TJ_60_49 {X : AX} {d : Nat} (hd : 390 ≤ d) {s0 : Int32} {M : IM} {v : Option Value} {M' : IM} {o : Int32 × IM} (h : J_60_49 s0 M = some o) (hC : v = some (.int o.1) ∧ M' = o.2) : Rc X d 60 49 [some (.ref (45)), none, none, none] [.int (s0), .ref (45)] M v M' := by
  obtain ⟨d, rfl⟩ : ∃ e, d = e + 1 := ⟨d - 1, by omega⟩
  unfold J_60_49 at h
  refine Rc.putI tb_60 rfl rfl ob_45 (by decide +kernel) tg_45_4 rfl ?_
  refine Rc.run tb_60 2 (pc' := 54) (ls' := [some (.ref (45)), none, none, none]) (st' := [.int (0), .ref (45)]) rfl rfl ?_
  cases hc1 : K_61 (0 : Int32) (iset M 45 4 s0) with
  | none => rw [hc1] at h; cases h
  | some M1 =>
    rw [hc1] at h
    dsimp only at h
    have hq1 := TK_61 (X := X) (d := d) (by omega) (M := iset M 45 4 s0) hc1
    refine Rc.callV tb_60 rfl rfl rfl mS_61 mP_61 mL_61 mO_61 rfl rfl ob_45 rfl rfl hq1 ?_
    refine Rc.run tb_60 1 (pc' := 58) (ls' := [some (.ref (45)), none, none, none]) (st' := [.ref (45)]) rfl rfl ?_
    refine Rc.getI tb_60 rfl rfl ob_45 (by decide +kernel) tg_45_2 ?_
    refine Rc.run tb_60 1 (pc' := 62) (ls' := [some (.ref (45)), none, none, none]) (st' := [.ref (45), .int (M1 45 2)]) rfl rfl ?_
    refine Rc.getI tb_60 rfl rfl ob_45 (by decide +kernel) tg_45_1 ?_
    refine Rc.icmp_ge (pc1 := 72) tb_60 rfl rfl (by decide) (by decide) (fun hb3 => ?_) (fun hb3 => ?_)
    · rw [if_pos hb3] at h
      refine Rc.mask (b := 1) ((tb_60.2 72).trans rfl) (ls' := [some (.ref (45)), none, none, none]) rfl ?_
      exact TJ_60_72 (X := X) (d := d + 1) (by omega) h hC
    · rw [if_neg hb3] at h
      refine Rc.run tb_60 1 (pc' := 69) (ls' := [some (.ref (45)), none, none, none]) (st' := [.ref (45)]) rfl rfl ?_
      have hq2 := T_70 (X := X) (d := d) (by omega) M1
      refine Rc.callV tb_60 rfl rfl rfl mS_70 mP_70 mL_70 mO_70 rfl rfl ob_45 rfl rfl hq2 ?_
      refine Rc.mask (b := 1) ((tb_60.2 72).trans rfl) (ls' := [some (.ref (45)), none, none, none]) rfl ?_
      exact TJ_60_72 (X := X) (d := d + 1) (by omega) h hC
theorem TF_60 {X : AX} {d : Nat} (hd : 390 ≤ d) {r1 : Nat} {a2 : Int32} {a3 : Int32} {M : IM} (hr1 : IA r1) {v : Option Value} {M' : IM} {o : Int32 × IM} (h : F_60 r1 a2 a3 M = some o) (hC : v = some (.int o.1) ∧ M' = o.2) : Rc X d 60 0 [some (.ref (45)), some (.ref (r1)), some (.int (a2)), some (.int (a3))] [] M v M' := by
  obtain ⟨d, rfl⟩ : ∃ e, d = e + 1 := ⟨d - 1, by omega⟩
  unfold F_60 at h
  refine Rc.run tb_60 2 (pc' := 2) (ls' := [some (.ref (45)), some (.ref (r1)), some (.int (a2)), some (.int (a3))]) (st' := [.ref (r1), .ref (45)]) rfl rfl ?_
  refine Rc.putT tb_60 rfl rfl (IAn.lt31 (k := r1) (n := (ln r1)) (IA.n hr1)) ?_
  refine Rc.run tb_60 2 (pc' := 7) (ls' := [some (.ref (45)), some (.ref (r1)), some (.int (a2)), some (.int (a3))]) (st' := [.int (a2), .ref (45)]) rfl rfl ?_
  refine Rc.putI tb_60 rfl rfl ob_45 (by decide +kernel) tg_45_1 rfl ?_
  refine Rc.run tb_60 2 (pc' := 12) (ls' := [some (.ref (45)), some (.ref (r1)), some (.int (a2)), some (.int (a3))]) (st' := [.int (0), .ref (45)]) rfl rfl ?_
  refine Rc.putI tb_60 rfl rfl ob_45 (by decide +kernel) tg_45_2 rfl ?_
  refine Rc.run tb_60 2 (pc' := 17) (ls' := [some (.ref (45)), some (.ref (r1)), some (.int (a2)), some (.int (a3))]) (st' := [.int (0), .ref (45)]) rfl rfl ?_
  refine Rc.putI tb_60 rfl rfl ob_45 (by decide +kernel) tg_45_6 rfl ?_
  refine Rc.run tb_60 2 (pc' := 22) (ls' := [some (.ref (45)), some (.ref (r1)), some (.int (a2)), some (.int (a3))]) (st' := [.int ((-1)), .ref (45)]) rfl rfl ?_
  refine Rc.putI tb_60 rfl rfl ob_45 (by decide +kernel) tg_45_3 rfl ?_
  refine Rc.run tb_60 2 (pc' := 27) (ls' := [some (.ref (45)), some (.ref (r1)), some (.int (a2)), some (.int (a3))]) (st' := [.int (a3), .ref (45)]) rfl rfl ?_
  refine Rc.if_ne (pc1 := 35) tb_60 rfl rfl (by decide) (by decide) (fun hb5 => ?_) (fun hb5 => ?_)
  · rw [if_pos hb5] at h
    refine Rc.run tb_60 2 (pc' := 49) (ls' := [some (.ref (45)), some (.ref (r1)), some (.int (a2)), some (.int (a3))]) (st' := [.int (7), .ref (45)]) rfl rfl ?_
    refine Rc.mask (b := 1) ((tb_60.2 49).trans rfl) (ls' := [some (.ref (45)), none, none, none]) rfl ?_
    exact TJ_60_49 (X := X) (d := d + 1) (by omega) h hC
  · rw [if_neg hb5] at h
    refine Rc.run tb_60 2 (pc' := 37) (ls' := [some (.ref (45)), some (.ref (r1)), some (.int (a2)), some (.int (a3))]) (st' := [.int (4), .int (a3), .ref (45)]) rfl rfl ?_
    refine Rc.icmp_ne (pc1 := 45) tb_60 rfl rfl (by decide) (by decide) (fun hb4 => ?_) (fun hb4 => ?_)
    · rw [if_pos hb4] at h
      refine Rc.run tb_60 2 (pc' := 49) (ls' := [some (.ref (45)), some (.ref (r1)), some (.int (a2)), some (.int (a3))]) (st' := [.int (9), .ref (45)]) rfl rfl ?_
      refine Rc.mask (b := 1) ((tb_60.2 49).trans rfl) (ls' := [some (.ref (45)), none, none, none]) rfl ?_
      exact TJ_60_49 (X := X) (d := d + 1) (by omega) h hC
    · rw [if_neg hb4] at h
      refine Rc.run tb_60 1 (pc' := 48) (ls' := [some (.ref (45)), some (.ref (r1)), some (.int (a2)), some (.int (a3))]) (st' := [.ref (1000), .ref (45)]) rfl rfl ?_
      refine Rc.slen tb_60 rfl rfl (q := 0) (n := 10) (x := 10) (by decide) (by decide +kernel) ?_
      refine Rc.mask (b := 1) ((tb_60.2 49).trans rfl) (ls' := [some (.ref (45)), none, none, none]) rfl ?_
      exact TJ_60_49 (X := X) (d := d + 1) (by omega) h hC
theorem T_60 {X : AX} {d : Nat} (hd : 390 ≤ d) {r1 : Nat} {a2 : Int32} {a3 : Int32} {M : IM} (hr1 : IA r1) {x : Int32} {M1 : IM} (h : F_60 r1 a2 a3 M = some (x, M1)) : Rc X d 60 0 [some (.ref (45)), some (.ref (r1)), some (.int (a2)), some (.int (a3))] [] M (some (.int x)) M1 := TF_60 hd hr1 h ⟨rfl, rfl⟩
/-! 100: NineDemands.law -/
def J_100_14 (M : IM) : Option (Int32 × IM) := (match F_132 (1 : Int32) M with | none => none | some (c2, M2) => (some ((c2, M2))))
def B_100_120 (x1 : Int32) (x3 : Int32) (t4 : Nat) : (Int32 × IM) → Option ((Int32 × IM) ⊕ (Int32 × IM)) := fun (x5, M) => (match F_0 x1 with | none => none | some c6 => (if c6 ≤ x5 then (some (Sum.inr (x5, M))) else (match F_145 x1 x5 M with | none => none | some (c7, M7) => (if inb x5 32 = true then (some (Sum.inl (x5 + 1, iset M7 (t4 + 1) x5.toNatClampNeg c7))) else none))))
def L_100_120 (x1 : Int32) (x3 : Int32) (t4 : Nat) (x5 : Int32) (M : IM) : Option (Int32 × IM) := loopN (B_100_120 x1 x3 t4) FU (x5, M)
def J_100_150 (x3 : Int32) (M : IM) : Option (Int32 × IM) := some ((x3, iset M 1 2 ((M 1 2) + 1)))
def J_100_86 (x1 : Int32) (x2 : Int32) (M : IM) : Option (Int32 × IM) := if inb (M 1 2) 8 = true then (match L_100_120 x1 (M 1 2) (6 + 2 * (M 1 2).toNatClampNeg) 0 (iset (iset M (6 + 2 * (M 1 2).toNatClampNeg) 0 x1) (6 + 2 * (M 1 2).toNatClampNeg) 1 x2) with | none => none | some (x5_10, M10) => (J_100_150 (M 1 2) M10)) else none
def F_100 (a1 : Int32) (a2 : Int32) (M : IM) : Option (Int32 × IM) := if F_137 a1 = 0 then (J_100_14 M) else (if F_138 a2 = 0 then (J_100_14 M) else (if M 1 2 < 8 then (if F_140 a1 = 0 then (J_100_86 a1 a2 M) else (match F_60 4 (M 1 4) a1 M with | none => none | some (c11, M11) => (if c11 = (-1) then (J_100_86 a1 a2 (iset M11 1 4 0)) else (some (((-10) - c11, iset M11 1 4 0)))))) else (match F_132 (4 : Int32) M with | none => none | some (c14, M14) => (some ((c14, M14))))))
theorem TJ_100_14 {X : AX} {d : Nat} (hd : 391 ≤ d) {M : IM} {v : Option Value} {M' : IM} {o : Int32 × IM} (h : J_100_14 M = some o) (hC : v = some (.int o.1) ∧ M' = o.2) : Rc X d 100 14 [some (.ref (0)), none, none, none, none, none] [] M v M' := by
  obtain ⟨d, rfl⟩ : ∃ e, d = e + 1 := ⟨d - 1, by omega⟩
  unfold J_100_14 at h
  refine Rc.run tb_100 2 (pc' := 16) (ls' := [some (.ref (0)), none, none, none, none, none]) (st' := [.int (1), .ref (0)]) rfl rfl ?_
  cases hc2 : F_132 (1 : Int32) M with
  | none => rw [hc2] at h; cases h
  | some r2 =>
    obtain ⟨c2, M2⟩ := r2
    rw [hc2] at h
    dsimp only at h
    have hq2 := T_132 (X := X) (d := d) (by omega) (M := M) hc2
    refine Rc.callV tb_100 rfl rfl rfl mS_132 mP_132 mL_132 mO_132 rfl rfl ob_0 rfl rfl hq2 ?_
    obtain rfl := Option.some.inj h
    obtain ⟨rfl, rfl⟩ := hC
    exact Rc.iret (ins := .ireturn) tb_100 rfl mR_100
theorem TB_100_120 {X : AX} {d : Nat} (hd : 391 ≤ d) {x1 : Int32} {x3 : Int32} {t4 : Nat} (ht4 : LawH t4) {v : Option Value} {M' : IM} : ∀ (s : Int32 × IM) (o : (Int32 × IM) ⊕ (Int32 × IM)), B_100_120 x1 x3 t4 s = some o → (∀ s', o = .inl s' → (fun (x5, M) => Rc X d 100 120 [some (.ref (0)), some (.int (x1)), none, some (.int (x3)), some (.ref (t4)), some (.int (x5))] [] M v M') s') → (∀ r, o = .inr r → (fun (x5, M) => Rc X d 100 150 [some (.ref (0)), none, none, some (.int (x3)), none, none] [] M v M') r) → (fun (x5, M) => Rc X d 100 120 [some (.ref (0)), some (.int (x1)), none, some (.int (x3)), some (.ref (t4)), some (.int (x5))] [] M v M') s := by
  rintro ⟨x5, M⟩ o h hP hE
  show Rc X d 100 120 [some (.ref (0)), some (.int (x1)), none, some (.int (x3)), some (.ref (t4)), some (.int (x5))] [] M v M'
  obtain ⟨d, rfl⟩ : ∃ e, d = e + 1 := ⟨d - 1, by omega⟩
  unfold B_100_120 at h
  dsimp only at h hP hE
  refine Rc.run tb_100 2 (pc' := 123) (ls' := [some (.ref (0)), some (.int (x1)), none, some (.int (x3)), some (.ref (t4)), some (.int (x5))]) (st' := [.int (x1), .int (x5)]) rfl rfl ?_
  cases hc6 : F_0 x1 with
  | none => rw [hc6] at h; cases h
  | some c6 =>
    rw [hc6] at h
    dsimp only at h
    have hq6 := T_0 (X := X) (d := d) (by omega) (M := M) hc6
    refine Rc.callS tb_100 rfl rfl rfl mS_0 mP_0 mL_0 rfl rfl rfl hq6 ?_
    refine Rc.icmp_ge (pc1 := 150) tb_100 rfl rfl (by decide) (by decide) (fun hb9 => ?_) (fun hb9 => ?_)
    · rw [if_pos hb9] at h
      refine Rc.mask (b := 9) ((tb_100.2 150).trans rfl) (ls' := [some (.ref (0)), none, none, some (.int (x3)), none, none]) rfl ?_
      obtain rfl := Option.some.inj h
      exact hE _ rfl
    · rw [if_neg hb9] at h
      refine Rc.run tb_100 1 (pc' := 131) (ls' := [some (.ref (0)), some (.int (x1)), none, some (.int (x3)), some (.ref (t4)), some (.int (x5))]) (st' := [.ref (t4)]) rfl rfl ?_
      refine Rc.getR tb_100 rfl rfl (LawH.ob ht4) (by decide +kernel) (LawH.f2 ht4) (by have := LawH.lt ht4; omega) ?_
      refine Rc.run tb_100 4 (pc' := 140) (ls' := [some (.ref (0)), some (.int (x1)), none, some (.int (x3)), some (.ref (t4)), some (.int (x5))]) (st' := [.int (x5), .int (x1), .ref (0), .int (x5), .ref ((t4 + 1))]) rfl rfl ?_
      cases hc7 : F_145 x1 x5 M with
      | none => rw [hc7] at h; cases h
      | some r7 =>
        obtain ⟨c7, M7⟩ := r7
        rw [hc7] at h
        dsimp only at h
        have hq7 := T_145 (X := X) (d := d) (by omega) (M := M) hc7
        refine Rc.callV tb_100 rfl rfl rfl mS_145 mP_145 mL_145 mO_145 rfl rfl ob_0 rfl rfl hq7 ?_
        by_cases hb8 : inb x5 32 = true
        · rw [if_pos hb8] at h
          refine Rc.iast tb_100 rfl rfl (LawH.row ht4) hb8 ?_
          refine Rc.run tb_100 2 (pc' := 120) (ls' := [some (.ref (0)), some (.int (x1)), none, some (.int (x3)), some (.ref (t4)), some (.int (x5 + 1))]) (st' := []) rfl rfl ?_
          refine Rc.mask (b := 59) ((tb_100.2 120).trans rfl) (ls' := [some (.ref (0)), some (.int (x1)), none, some (.int (x3)), some (.ref (t4)), some (.int (x5 + 1))]) rfl ?_
          obtain rfl := Option.some.inj h
          exact hP _ rfl
        · rw [if_neg hb8] at h
          cases h
theorem TL_100_120 {X : AX} {d : Nat} (hd : 391 ≤ d) {x1 : Int32} {x3 : Int32} {t4 : Nat} {x5 : Int32} {M : IM} (ht4 : LawH t4) {v : Option Value} {M' : IM} {r : Int32 × IM} (h : L_100_120 x1 x3 t4 x5 M = some r) (hE : (fun (x5, M) => Rc X d 100 150 [some (.ref (0)), none, none, some (.int (x3)), none, none] [] M v M') r) : Rc X d 100 120 [some (.ref (0)), some (.int (x1)), none, some (.int (x3)), some (.ref (t4)), some (.int (x5))] [] M v M' := by
  exact loopN_rc (P := fun (x5, M) => Rc X d 100 120 [some (.ref (0)), some (.int (x1)), none, some (.int (x3)), some (.ref (t4)), some (.int (x5))] [] M v M') (E := fun (x5, M) => Rc X d 100 150 [some (.ref (0)), none, none, some (.int (x3)), none, none] [] M v M') (TB_100_120 (X := X) hd ht4) FU _ r h hE
theorem TJ_100_150 {X : AX} {d : Nat} (hd : 391 ≤ d) {x3 : Int32} {M : IM} {v : Option Value} {M' : IM} {o : Int32 × IM} (h : J_100_150 x3 M = some o) (hC : v = some (.int o.1) ∧ M' = o.2) : Rc X d 100 150 [some (.ref (0)), none, none, some (.int (x3)), none, none] [] M v M' := by
  obtain ⟨d, rfl⟩ : ∃ e, d = e + 1 := ⟨d - 1, by omega⟩
  unfold J_100_150 at h
  refine Rc.run tb_100 1 (pc' := 151) (ls' := [some (.ref (0)), none, none, some (.int (x3)), none, none]) (st' := [.ref (0)]) rfl rfl ?_
  refine Rc.getR tb_100 rfl rfl ob_0 (by decide +kernel) tg_0_0 (by decide) ?_
  refine Rc.run tb_100 1 (pc' := 155) (ls' := [some (.ref (0)), none, none, some (.int (x3)), none, none]) (st' := [.ref (1), .ref (1)]) rfl rfl ?_
  refine Rc.getI tb_100 rfl rfl (VilH.ob vh_1) (by decide +kernel) (VilH.f2 vh_1) ?_
  refine Rc.run tb_100 2 (pc' := 160) (ls' := [some (.ref (0)), none, none, some (.int (x3)), none, none]) (st' := [.int ((M 1 2) + 1), .ref (1)]) rfl rfl ?_
  refine Rc.putI tb_100 rfl rfl (VilH.ob vh_1) (by decide +kernel) (VilH.f2 vh_1) rfl ?_
  refine Rc.run tb_100 1 (pc' := 164) (ls' := [some (.ref (0)), none, none, some (.int (x3)), none, none]) (st' := [.int (x3)]) rfl rfl ?_
  obtain rfl := Option.some.inj h
  obtain ⟨rfl, rfl⟩ := hC
  exact Rc.iret (ins := .ireturn) tb_100 rfl mR_100
theorem TJ_100_86 {X : AX} {d : Nat} (hd : 391 ≤ d) {x1 : Int32} {x2 : Int32} {M : IM} {v : Option Value} {M' : IM} {o : Int32 × IM} (h : J_100_86 x1 x2 M = some o) (hC : v = some (.int o.1) ∧ M' = o.2) : Rc X d 100 86 [some (.ref (0)), some (.int (x1)), some (.int (x2)), none, none, none] [] M v M' := by
  obtain ⟨d, rfl⟩ : ∃ e, d = e + 1 := ⟨d - 1, by omega⟩
  unfold J_100_86 at h
  refine Rc.run tb_100 1 (pc' := 87) (ls' := [some (.ref (0)), some (.int (x1)), some (.int (x2)), none, none, none]) (st' := [.ref (0)]) rfl rfl ?_
  refine Rc.getR tb_100 rfl rfl ob_0 (by decide +kernel) tg_0_0 (by decide) ?_
  refine Rc.getI tb_100 rfl rfl (VilH.ob vh_1) (by decide +kernel) (VilH.f2 vh_1) ?_
  refine Rc.run tb_100 2 (pc' := 95) (ls' := [some (.ref (0)), some (.int (x1)), some (.int (x2)), some (.int (M 1 2)), none, none]) (st' := [.ref (0)]) rfl rfl ?_
  refine Rc.getR tb_100 rfl rfl ob_0 (by decide +kernel) tg_0_0 (by decide) ?_
  refine Rc.getR tb_100 rfl rfl (VilH.ob vh_1) (by decide +kernel) (VilH.f1 vh_1) (by decide) ?_
  refine Rc.run tb_100 1 (pc' := 102) (ls' := [some (.ref (0)), some (.int (x1)), some (.int (x2)), some (.int (M 1 2)), none, none]) (st' := [.int (M 1 2), .ref (3)]) rfl rfl ?_
  by_cases hb5 : inb (M 1 2) 8 = true
  · rw [if_pos hb5] at h
    refine Rc.aald tb_100 rfl rfl (by decide) (Or.inl (by decide +kernel)) (by rw [ln_3]; exact hb5) (la_3 hb5) (by have := lawEl_1 hb5; exact LawH.lt0 this) ?_
    refine Rc.run tb_100 3 (pc' := 108) (ls' := [some (.ref (0)), some (.int (x1)), some (.int (x2)), some (.int (M 1 2)), some (.ref ((6 + 2 * (M 1 2).toNatClampNeg))), none]) (st' := [.int (x1), .ref ((6 + 2 * (M 1 2).toNatClampNeg))]) rfl rfl ?_
    refine Rc.putI tb_100 rfl rfl (LawH.ob (lawEl_1 hb5)) (by decide +kernel) (LawH.f0 (lawEl_1 hb5)) rfl ?_
    refine Rc.run tb_100 2 (pc' := 114) (ls' := [some (.ref (0)), some (.int (x1)), some (.int (x2)), some (.int (M 1 2)), some (.ref ((6 + 2 * (M 1 2).toNatClampNeg))), none]) (st' := [.int (x2), .ref ((6 + 2 * (M 1 2).toNatClampNeg))]) rfl rfl ?_
    refine Rc.putI tb_100 rfl rfl (LawH.ob (lawEl_1 hb5)) (by decide +kernel) (LawH.f1 (lawEl_1 hb5)) rfl ?_
    refine Rc.run tb_100 2 (pc' := 120) (ls' := [some (.ref (0)), some (.int (x1)), some (.int (x2)), some (.int (M 1 2)), some (.ref ((6 + 2 * (M 1 2).toNatClampNeg))), some (.int (0))]) (st' := []) rfl rfl ?_
    refine Rc.mask (b := 59) ((tb_100.2 120).trans rfl) (ls' := [some (.ref (0)), some (.int (x1)), none, some (.int (M 1 2)), some (.ref ((6 + 2 * (M 1 2).toNatClampNeg))), some (.int (0))]) rfl ?_
    cases hl10 : L_100_120 x1 (M 1 2) (6 + 2 * (M 1 2).toNatClampNeg) 0 (iset (iset M (6 + 2 * (M 1 2).toNatClampNeg) 0 x1) (6 + 2 * (M 1 2).toNatClampNeg) 1 x2) with
    | none => rw [hl10] at h; cases h
    | some r10 =>
      obtain ⟨x5_10, M10⟩ := r10
      rw [hl10] at h
      dsimp only at h
      refine TL_100_120 (X := X) (d := d + 1) (by omega) (lawEl_1 hb5) hl10 ?_
      refine Rc.mask (b := 9) ((tb_100.2 150).trans rfl) (ls' := [some (.ref (0)), none, none, some (.int (M 1 2)), none, none]) rfl ?_
      exact TJ_100_150 (X := X) (d := d + 1) (by omega) h hC
  · rw [if_neg hb5] at h
    cases h
theorem TF_100 {X : AX} {d : Nat} (hd : 391 ≤ d) {a1 : Int32} {a2 : Int32} {M : IM} {v : Option Value} {M' : IM} {o : Int32 × IM} (h : F_100 a1 a2 M = some o) (hC : v = some (.int o.1) ∧ M' = o.2) : Rc X d 100 0 [some (.ref (0)), some (.int (a1)), some (.int (a2)), none, none, none] [] M v M' := by
  obtain ⟨d, rfl⟩ : ∃ e, d = e + 1 := ⟨d - 1, by omega⟩
  unfold F_100 at h
  refine Rc.run tb_100 1 (pc' := 1) (ls' := [some (.ref (0)), some (.int (a1)), some (.int (a2)), none, none, none]) (st' := [.int (a1)]) rfl rfl ?_
  have hq1 := T_137 (X := X) (d := d) (by omega) a1 M
  have hz1 := Rc.bool mR_137 hq1
  refine Rc.callS tb_100 rfl rfl rfl mS_137 mP_137 mL_137 rfl rfl rfl hq1 ?_
  refine Rc.if_eq (pc1 := 14) tb_100 rfl rfl (by decide) (by decide) (fun hb17 => ?_) (fun hb17 => ?_)
  · rw [if_pos hb17] at h
    refine Rc.mask (b := 1) ((tb_100.2 14).trans rfl) (ls' := [some (.ref (0)), none, none, none, none, none]) rfl ?_
    exact TJ_100_14 (X := X) (d := d + 1) (by omega) h hC
  · rw [if_neg hb17] at h
    refine Rc.run tb_100 1 (pc' := 8) (ls' := [some (.ref (0)), some (.int (a1)), some (.int (a2)), none, none, none]) (st' := [.int (a2)]) rfl rfl ?_
    have hq3 := T_138 (X := X) (d := d) (by omega) a2 M
    have hz3 := Rc.bool mR_138 hq3
    refine Rc.callS tb_100 rfl rfl rfl mS_138 mP_138 mL_138 rfl rfl rfl hq3 ?_
    refine Rc.if_ne (pc1 := 20) tb_100 rfl rfl (by decide) (by decide) (fun hb16 => ?_) (fun hb16 => ?_)
    · rw [if_pos hb16] at h
      refine Rc.mask (b := 1) ((tb_100.2 14).trans rfl) (ls' := [some (.ref (0)), none, none, none, none, none]) rfl ?_
      exact TJ_100_14 (X := X) (d := d + 1) (by omega) h hC
    · rw [if_neg hb16] at h
      refine Rc.run tb_100 1 (pc' := 21) (ls' := [some (.ref (0)), some (.int (a1)), some (.int (a2)), none, none, none]) (st' := [.ref (0)]) rfl rfl ?_
      refine Rc.getR tb_100 rfl rfl ob_0 (by decide +kernel) tg_0_0 (by decide) ?_
      refine Rc.getI tb_100 rfl rfl (VilH.ob vh_1) (by decide +kernel) (VilH.f2 vh_1) ?_
      refine Rc.run tb_100 1 (pc' := 29) (ls' := [some (.ref (0)), some (.int (a1)), some (.int (a2)), none, none, none]) (st' := [.int (8), .int (M 1 2)]) rfl rfl ?_
      refine Rc.icmp_lt (pc1 := 38) tb_100 rfl rfl (by decide) (by decide) (fun hb15 => ?_) (fun hb15 => ?_)
      · rw [if_pos hb15] at h
        refine Rc.run tb_100 1 (pc' := 39) (ls' := [some (.ref (0)), some (.int (a1)), some (.int (a2)), none, none, none]) (st' := [.int (a1)]) rfl rfl ?_
        have hq4 := T_140 (X := X) (d := d) (by omega) a1 M
        have hz4 := Rc.bool mR_140 hq4
        refine Rc.callS tb_100 rfl rfl rfl mS_140 mP_140 mL_140 rfl rfl rfl hq4 ?_
        refine Rc.if_eq (pc1 := 86) tb_100 rfl rfl (by decide) (by decide) (fun hb13 => ?_) (fun hb13 => ?_)
        · rw [if_pos hb13] at h
          refine Rc.mask (b := 7) ((tb_100.2 86).trans rfl) (ls' := [some (.ref (0)), some (.int (a1)), some (.int (a2)), none, none, none]) rfl ?_
          exact TJ_100_86 (X := X) (d := d + 1) (by omega) h hC
        · rw [if_neg hb13] at h
          refine Rc.run tb_100 1 (pc' := 46) (ls' := [some (.ref (0)), some (.int (a1)), some (.int (a2)), none, none, none]) (st' := [.ref (0)]) rfl rfl ?_
          refine Rc.getR tb_100 rfl rfl ob_0 (by decide +kernel) tg_0_5 (by decide) ?_
          refine Rc.run tb_100 1 (pc' := 50) (ls' := [some (.ref (0)), some (.int (a1)), some (.int (a2)), none, none, none]) (st' := [.ref (0), .ref (45)]) rfl rfl ?_
          refine Rc.getR tb_100 rfl rfl ob_0 (by decide +kernel) tg_0_0 (by decide) ?_
          refine Rc.getR tb_100 rfl rfl (VilH.ob vh_1) (by decide +kernel) (VilH.f3 vh_1) (by decide) ?_
          refine Rc.run tb_100 1 (pc' := 57) (ls' := [some (.ref (0)), some (.int (a1)), some (.int (a2)), none, none, none]) (st' := [.ref (0), .ref (4), .ref (45)]) rfl rfl ?_
          refine Rc.getR tb_100 rfl rfl ob_0 (by decide +kernel) tg_0_0 (by decide) ?_
          refine Rc.getI tb_100 rfl rfl (VilH.ob vh_1) (by decide +kernel) (VilH.f4 vh_1) ?_
          refine Rc.run tb_100 1 (pc' := 64) (ls' := [some (.ref (0)), some (.int (a1)), some (.int (a2)), none, none, none]) (st' := [.int (a1), .int (M 1 4), .ref (4), .ref (45)]) rfl rfl ?_
          cases hc11 : F_60 4 (M 1 4) a1 M with
          | none => rw [hc11] at h; cases h
          | some r11 =>
            obtain ⟨c11, M11⟩ := r11
            rw [hc11] at h
            dsimp only at h
            have hq11 := T_60 (X := X) (d := d) (by omega) (M := M) (ia_4).1 hc11
            refine Rc.callV tb_100 rfl rfl rfl mS_60 mP_60 mL_60 mO_60 rfl rfl ob_45 rfl rfl hq11 ?_
            refine Rc.run tb_100 2 (pc' := 69) (ls' := [some (.ref (0)), some (.int (a1)), some (.int (a2)), some (.int (c11)), none, none]) (st' := [.ref (0)]) rfl rfl ?_
            refine Rc.getR tb_100 rfl rfl ob_0 (by decide +kernel) tg_0_0 (by decide) ?_
            refine Rc.run tb_100 1 (pc' := 73) (ls' := [some (.ref (0)), some (.int (a1)), some (.int (a2)), some (.int (c11)), none, none]) (st' := [.int (0), .ref (1)]) rfl rfl ?_
            refine Rc.putI tb_100 rfl rfl (VilH.ob vh_1) (by decide +kernel) (VilH.f4 vh_1) rfl ?_
            refine Rc.run tb_100 2 (pc' := 78) (ls' := [some (.ref (0)), some (.int (a1)), some (.int (a2)), some (.int (c11)), none, none]) (st' := [.int ((-1)), .int (c11)]) rfl rfl ?_
            refine Rc.icmp_eq (pc1 := 86) tb_100 rfl rfl (by decide) (by decide) (fun hb12 => ?_) (fun hb12 => ?_)
            · rw [if_pos hb12] at h
              refine Rc.mask (b := 7) ((tb_100.2 86).trans rfl) (ls' := [some (.ref (0)), some (.int (a1)), some (.int (a2)), none, none, none]) rfl ?_
              exact TJ_100_86 (X := X) (d := d + 1) (by omega) h hC
            · rw [if_neg hb12] at h
              refine Rc.run tb_100 3 (pc' := 85) (ls' := [some (.ref (0)), some (.int (a1)), some (.int (a2)), some (.int (c11)), none, none]) (st' := [.int ((-10) - c11)]) rfl rfl ?_
              obtain rfl := Option.some.inj h
              obtain ⟨rfl, rfl⟩ := hC
              exact Rc.iret (ins := .ireturn) tb_100 rfl mR_100
      · rw [if_neg hb15] at h
        refine Rc.run tb_100 2 (pc' := 34) (ls' := [some (.ref (0)), some (.int (a1)), some (.int (a2)), none, none, none]) (st' := [.int (4), .ref (0)]) rfl rfl ?_
        cases hc14 : F_132 (4 : Int32) M with
        | none => rw [hc14] at h; cases h
        | some r14 =>
          obtain ⟨c14, M14⟩ := r14
          rw [hc14] at h
          dsimp only at h
          have hq14 := T_132 (X := X) (d := d) (by omega) (M := M) hc14
          refine Rc.callV tb_100 rfl rfl rfl mS_132 mP_132 mL_132 mO_132 rfl rfl ob_0 rfl rfl hq14 ?_
          obtain rfl := Option.some.inj h
          obtain ⟨rfl, rfl⟩ := hC
          exact Rc.iret (ins := .ireturn) tb_100 rfl mR_100
theorem T_100 {X : AX} {d : Nat} (hd : 391 ≤ d) {a1 : Int32} {a2 : Int32} {M : IM} {x : Int32} {M1 : IM} (h : F_100 a1 a2 M = some (x, M1)) : Rc X d 100 0 [some (.ref (0)), some (.int (a1)), some (.int (a2)), none, none, none] [] M (some (.int x)) M1 := TF_100 hd h ⟨rfl, rfl⟩
