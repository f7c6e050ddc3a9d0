/-! methods as functions, printed by wip/gen/emit.py -/
/-! 255: java/util/Arrays.rangeCheck -/
def F_255 (a1 : Int32) (a2 : Int32) (a3 : Int32) : Option (Unit) := if a2 ≤ a3 then (if (0 : Int32) ≤ a2 then (if a3 ≤ a1 then (some (())) else none) else none) else none
theorem TF_255 {X : AX} {d : Nat} (hd : 0 ≤ d) {a1 : Int32} {a2 : Int32} {a3 : Int32} {M : IM} {v : Option Value} {M' : IM} {o : Unit} (h : F_255 a1 a2 a3 = some o) (hC : v = none ∧ M' = M) : Rc X d 255 0 [some (.int (a1)), some (.int (a2)), some (.int (a3))] [] M v M' := by
  unfold F_255 at h
  refine Rc.run tb_255 2 (pc' := 2) (ls' := [some (.int (a1)), some (.int (a2)), some (.int (a3))]) (st' := [.int (a3), .int (a2)]) rfl rfl ?_
  refine Rc.icmp_le (pc1 := 46) tb_255 rfl rfl (by decide) (by decide) (fun hb3 => ?_) (fun hb3 => ?_)
  · rw [if_pos hb3] at h
    refine Rc.run tb_255 1 (pc' := 47) (ls' := [some (.int (a1)), some (.int (a2)), some (.int (a3))]) (st' := [.int (a2)]) rfl rfl ?_
    refine Rc.if_ge (pc1 := 59) tb_255 rfl rfl (by decide) (by decide) (fun hb2 => ?_) (fun hb2 => ?_)
    · rw [if_pos hb2] at h
      refine Rc.run tb_255 2 (pc' := 61) (ls' := [some (.int (a1)), some (.int (a2)), some (.int (a3))]) (st' := [.int (a1), .int (a3)]) rfl rfl ?_
      refine Rc.icmp_le (pc1 := 73) tb_255 rfl rfl (by decide) (by decide) (fun hb1 => ?_) (fun hb1 => ?_)
      · rw [if_pos hb1] at h
        obtain rfl := Option.some.inj h
        obtain ⟨rfl, rfl⟩ := hC
        exact Rc.vret tb_255 rfl mR_255
      · rw [if_neg hb1] at h
        cases h
    · rw [if_neg hb2] at h
      cases h
  · rw [if_neg hb3] at h
    cases h
theorem T_255 {X : AX} {d : Nat} (hd : 0 ≤ d) {a1 : Int32} {a2 : Int32} {a3 : Int32} {M : IM} {x : Unit} (h : F_255 a1 a2 a3 = some x) : Rc X d 255 0 [some (.int (a1)), some (.int (a2)), some (.int (a3))] [] M none M := TF_255 hd h ⟨rfl, rfl⟩
/-! 257: java/util/Arrays.fill -/
def B_257_10 (t0 : Nat) (x2 : Int32) (x3 : Int32) : (Int32 × IM) → Option ((Int32 × IM) ⊕ (Int32 × IM)) := fun (x4, M) => if x2 ≤ x4 then (some (Sum.inr (x4, M))) else (if inb x4 (ln t0) = true then (some (Sum.inl (x4 + 1, iset M t0 x4.toNatClampNeg x3))) else none)
def L_257_10 (t0 : Nat) (x2 : Int32) (x3 : Int32) (x4 : Int32) (M : IM) : Option (Int32 × IM) := loopN (B_257_10 t0 x2 x3) FU (x4, M)
def F_257 (r1 : Nat) (a2 : Int32) (a3 : Int32) (a4 : Int32) (M : IM) : Option (IM) := (match F_255 (Int32.ofNat (ln r1)) a2 a3 with | none => none | some _ => (match L_257_10 r1 a3 a4 a2 M with | none => none | some (x4_4, M4) => (some (M4))))
theorem TB_257_10 {X : AX} {d : Nat} (hd : 1 ≤ d) {t0 : Nat} {x2 : Int32} {x3 : Int32} (ht0 : IA t0) {v : Option Value} {M' : IM} : ∀ (s : Int32 × IM) (o : (Int32 × IM) ⊕ (Int32 × IM)), B_257_10 t0 x2 x3 s = some o → (∀ s', o = .inl s' → (fun (x4, M) => Rc X d 257 10 [some (.ref (t0)), none, some (.int (x2)), some (.int (x3)), some (.int (x4))] [] M v M') s') → (∀ r, o = .inr r → (fun (x4, M) => Rc X d 257 27 [none, none, none, none, none] [] M v M') r) → (fun (x4, M) => Rc X d 257 10 [some (.ref (t0)), none, some (.int (x2)), some (.int (x3)), some (.int (x4))] [] M v M') s := by
  rintro ⟨x4, M⟩ o h hP hE
  show Rc X d 257 10 [some (.ref (t0)), none, some (.int (x2)), some (.int (x3)), some (.int (x4))] [] M v M'
  obtain ⟨d, rfl⟩ : ∃ e, d = e + 1 := ⟨d - 1, by omega⟩
  unfold B_257_10 at h
  dsimp only at h hP hE
  refine Rc.run tb_257 2 (pc' := 13) (ls' := [some (.ref (t0)), none, some (.int (x2)), some (.int (x3)), some (.int (x4))]) (st' := [.int (x2), .int (x4)]) rfl rfl ?_
  refine Rc.icmp_ge (pc1 := 27) tb_257 rfl rfl (by decide) (by decide) (fun hb3 => ?_) (fun hb3 => ?_)
  · rw [if_pos hb3] at h
    refine Rc.mask (b := 0) ((tb_257.2 27).trans rfl) (ls' := [none, none, none, none, none]) rfl ?_
    obtain rfl := Option.some.inj h
    exact hE _ rfl
  · rw [if_neg hb3] at h
    refine Rc.run tb_257 3 (pc' := 20) (ls' := [some (.ref (t0)), none, some (.int (x2)), some (.int (x3)), some (.int (x4))]) (st' := [.int (x3), .int (x4), .ref (t0)]) rfl rfl ?_
    by_cases hb2 : inb x4 (ln t0) = true
    · rw [if_pos hb2] at h
      refine Rc.iast tb_257 rfl rfl (IA.n ht0) hb2 ?_
      refine Rc.run tb_257 2 (pc' := 10) (ls' := [some (.ref (t0)), none, some (.int (x2)), some (.int (x3)), some (.int (x4 + 1))]) (st' := []) rfl rfl ?_
      refine Rc.mask (b := 29) ((tb_257.2 10).trans rfl) (ls' := [some (.ref (t0)), none, some (.int (x2)), some (.int (x3)), some (.int (x4 + 1))]) rfl ?_
      obtain rfl := Option.some.inj h
      exact hP _ rfl
    · rw [if_neg hb2] at h
      cases h
theorem TL_257_10 {X : AX} {d : Nat} (hd : 1 ≤ d) {t0 : Nat} {x2 : Int32} {x3 : Int32} {x4 : Int32} {M : IM} (ht0 : IA t0) {v : Option Value} {M' : IM} {r : Int32 × IM} (h : L_257_10 t0 x2 x3 x4 M = some r) (hE : (fun (x4, M) => Rc X d 257 27 [none, none, none, none, none] [] M v M') r) : Rc X d 257 10 [some (.ref (t0)), none, some (.int (x2)), some (.int (x3)), some (.int (x4))] [] M v M' := by
  exact loopN_rc (P := fun (x4, M) => Rc X d 257 10 [some (.ref (t0)), none, some (.int (x2)), some (.int (x3)), some (.int (x4))] [] M v M') (E := fun (x4, M) => Rc X d 257 27 [none, none, none, none, none] [] M v M') (TB_257_10 (X := X) hd ht0) FU _ r h hE
theorem TF_257 {X : AX} {d : Nat} (hd : 1 ≤ d) {r1 : Nat} {a2 : Int32} {a3 : Int32} {a4 : Int32} {M : IM} (hr1 : IA r1) {v : Option Value} {M' : IM} {o : IM} (h : F_257 r1 a2 a3 a4 M = some o) (hC : v = none ∧ M' = o) : Rc X d 257 0 [some (.ref (r1)), some (.int (a2)), some (.int (a3)), some (.int (a4)), none] [] M v M' := by
  obtain ⟨d, rfl⟩ : ∃ e, d = e + 1 := ⟨d - 1, by omega⟩
  unfold F_257 at h
  refine Rc.run tb_257 1 (pc' := 1) (ls' := [some (.ref (r1)), some (.int (a2)), some (.int (a3)), some (.int (a4)), none]) (st' := [.ref (r1)]) rfl rfl ?_
  refine Rc.alen tb_257 rfl rfl (IA.n hr1) ?_
  refine Rc.run tb_257 2 (pc' := 4) (ls' := [some (.ref (r1)), some (.int (a2)), some (.int (a3)), some (.int (a4)), none]) (st' := [.int (a3), .int (a2), .int (Int32.ofNat (ln r1))]) rfl rfl ?_
  cases hc1 : F_255 (Int32.ofNat (ln r1)) a2 a3 with
  | none => rw [hc1] at h; cases h
  | some _ =>
    rw [hc1] at h
    dsimp only at h
    have hq1 := T_255 (X := X) (d := d) (by omega) (M := M) hc1
    refine Rc.callS tb_257 rfl rfl rfl mS_255 mP_255 mL_255 rfl rfl rfl hq1 ?_
    refine Rc.run tb_257 2 (pc' := 10) (ls' := [some (.ref (r1)), some (.int (a2)), some (.int (a3)), some (.int (a4)), some (.int (a2))]) (st' := []) rfl rfl ?_
    refine Rc.mask (b := 29) ((tb_257.2 10).trans rfl) (ls' := [some (.ref (r1)), none, some (.int (a3)), some (.int (a4)), some (.int (a2))]) rfl ?_
    cases hl4 : L_257_10 r1 a3 a4 a2 M with
    | none => rw [hl4] at h; cases h
    | some r4 =>
      obtain ⟨x4_4, M4⟩ := r4
      rw [hl4] at h
      dsimp only at h
      refine TL_257_10 (X := X) (d := d + 1) (by omega) ((IA.n hr1)).1 hl4 ?_
      obtain rfl := Option.some.inj h
      obtain ⟨rfl, rfl⟩ := hC
      exact Rc.vret tb_257 rfl mR_257
theorem T_257 {X : AX} {d : Nat} (hd : 1 ≤ d) {r1 : Nat} {a2 : Int32} {a3 : Int32} {a4 : Int32} {M : IM} (hr1 : IA r1) {M1 : IM} (h : F_257 r1 a2 a3 a4 M = some M1) : Rc X d 257 0 [some (.ref (r1)), some (.int (a2)), some (.int (a3)), some (.int (a4)), none] [] M none M1 := TF_257 hd hr1 h ⟨rfl, rfl⟩
/-! 22: NineDemands$Seeker.take -/
def J_22_55_28 (t1 : Nat) (x2 : Int32) (x3 : Int32) (M : IM) : Option ((Int32 × IM) ⊕ (Int32 × IM)) := some (Sum.inl (x3 + 1, M))
def B_22_28 (t1 : Nat) (x2 : Int32) : (Int32 × IM) → Option ((Int32 × IM) ⊕ (Int32 × IM)) := fun (x3, M) => if M t1 2 ≤ x3 then (some (Sum.inr (x3, M))) else (if F_83 t1 x2 x3 M = 0 then (J_22_55_28 t1 x2 x3 M) else (if inb x3 8 = true then (match F_23 (t1 + 5 + 2 * x3.toNatClampNeg) M with | none => none | some M5 => (J_22_55_28 t1 x2 x3 M5)) else none))
def L_22_28 (t1 : Nat) (x2 : Int32) (x3 : Int32) (M : IM) : Option (Int32 × IM) := loopN (B_22_28 t1 x2) FU (x3, M)
def F_22 (t1 : Nat) (a2 : Int32) (M : IM) : Option (IM) := (match F_256 52 (7 : Int32) M with | none => none | some M1 => (match F_257 53 (0 : Int32) (12 : Int32) (7 : Int32) M1 with | none => none | some M2 => (match L_22_28 t1 a2 0 (iset M2 51 3 0) with | none => none | some (x3_8, M8) => (some (M8)))))
theorem TJ_22_55_28 {X : AX} {d : Nat} (hd : 4 ≤ d) {t1 : Nat} {x2 : Int32} {x3 : Int32} {M : IM} (ht1 : VilH t1) {v : Option Value} {M' : IM} {o : (Int32 × IM) ⊕ (Int32 × IM)} (h : J_22_55_28 t1 x2 x3 M = some o) (hP : ∀ s', o = .inl s' → (fun (x3, M) => Rc X d 22 28 [some (.ref (51)), some (.ref (t1)), some (.int (x2)), some (.int (x3))] [] M v M') s') (hE : ∀ r, o = .inr r → (fun (x3, M) => Rc X d 22 61 [none, none, none, none] [] M v M') r) : Rc X d 22 55 [some (.ref (51)), some (.ref (t1)), some (.int (x2)), some (.int (x3))] [] M v M' := by
  obtain ⟨d, rfl⟩ : ∃ e, d = e + 1 := ⟨d - 1, by omega⟩
  unfold J_22_55_28 at h
  dsimp only at hP hE
  refine Rc.run tb_22 2 (pc' := 28) (ls' := [some (.ref (51)), some (.ref (t1)), some (.int (x2)), some (.int (x3 + 1))]) (st' := []) rfl rfl ?_
  refine Rc.mask (b := 15) ((tb_22.2 28).trans rfl) (ls' := [some (.ref (51)), some (.ref (t1)), some (.int (x2)), some (.int (x3 + 1))]) rfl ?_
  obtain rfl := Option.some.inj h
  exact hP _ rfl
theorem TB_22_28 {X : AX} {d : Nat} (hd : 4 ≤ d) {t1 : Nat} {x2 : Int32} (ht1 : VilH t1) {v : Option Value} {M' : IM} : ∀ (s : Int32 × IM) (o : (Int32 × IM) ⊕ (Int32 × IM)), B_22_28 t1 x2 s = some o → (∀ s', o = .inl s' → (fun (x3, M) => Rc X d 22 28 [some (.ref (51)), some (.ref (t1)), some (.int (x2)), some (.int (x3))] [] M v M') s') → (∀ r, o = .inr r → (fun (x3, M) => Rc X d 22 61 [none, none, none, none] [] M v M') r) → (fun (x3, M) => Rc X d 22 28 [some (.ref (51)), some (.ref (t1)), some (.int (x2)), some (.int (x3))] [] M v M') s := by
  rintro ⟨x3, M⟩ o h hP hE
  show Rc X d 22 28 [some (.ref (51)), some (.ref (t1)), some (.int (x2)), some (.int (x3))] [] M v M'
  obtain ⟨d, rfl⟩ : ∃ e, d = e + 1 := ⟨d - 1, by omega⟩
  unfold B_22_28 at h
  dsimp only at h hP hE
  refine Rc.run tb_22 2 (pc' := 30) (ls' := [some (.ref (51)), some (.ref (t1)), some (.int (x2)), some (.int (x3))]) (st' := [.ref (t1), .int (x3)]) rfl rfl ?_
  refine Rc.getI tb_22 rfl rfl (VilH.ob ht1) (by decide +kernel) (VilH.f2 ht1) ?_
  refine Rc.icmp_ge (pc1 := 61) tb_22 rfl rfl (by decide) (by decide) (fun hb7 => ?_) (fun hb7 => ?_)
  · rw [if_pos hb7] at h
    refine Rc.mask (b := 0) ((tb_22.2 61).trans rfl) (ls' := [none, none, none, none]) rfl ?_
    obtain rfl := Option.some.inj h
    exact hE _ rfl
  · rw [if_neg hb7] at h
    refine Rc.run tb_22 3 (pc' := 39) (ls' := [some (.ref (51)), some (.ref (t1)), some (.int (x2)), some (.int (x3))]) (st' := [.int (x3), .int (x2), .ref (t1)]) rfl rfl ?_
    have hq3 := T_83 (X := X) (d := d) (by omega) ht1 x2 x3 M
    have hz3 := Rc.bool mR_83 hq3
    refine Rc.callV tb_22 rfl rfl rfl mS_83 mP_83 mL_83 mO_83 rfl rfl (VilH.ob ht1) rfl rfl hq3 ?_
    refine Rc.if_eq (pc1 := 55) tb_22 rfl rfl (by decide) (by decide) (fun hb6 => ?_) (fun hb6 => ?_)
    · rw [if_pos hb6] at h
      refine Rc.mask (b := 15) ((tb_22.2 55).trans rfl) (ls' := [some (.ref (51)), some (.ref (t1)), some (.int (x2)), some (.int (x3))]) rfl ?_
      exact TJ_22_55_28 (X := X) (d := d + 1) (by omega) ht1 h hP hE
    · rw [if_neg hb6] at h
      refine Rc.run tb_22 2 (pc' := 47) (ls' := [some (.ref (51)), some (.ref (t1)), some (.int (x2)), some (.int (x3))]) (st' := [.ref (t1), .ref (51)]) rfl rfl ?_
      refine Rc.getR tb_22 rfl rfl (VilH.ob ht1) (by decide +kernel) (VilH.f1 ht1) (by have := VilH.lt ht1; omega) ?_
      refine Rc.run tb_22 1 (pc' := 51) (ls' := [some (.ref (51)), some (.ref (t1)), some (.int (x2)), some (.int (x3))]) (st' := [.int (x3), .ref ((t1 + 2)), .ref (51)]) rfl rfl ?_
      by_cases hb4 : inb x3 8 = true
      · rw [if_pos hb4] at h
        refine Rc.aald tb_22 rfl rfl (VilH.lt98 ht1) (Or.inl (VilH.kd2 ht1)) (by rw [VilH.ln2 ht1]; exact hb4) (VilH.tg2 ht1 hb4) (LawH.lt0 (VilH.el ht1 hb4)) ?_
        cases hc5 : F_23 (t1 + 5 + 2 * x3.toNatClampNeg) M with
        | none => rw [hc5] at h; cases h
        | some M5 =>
          rw [hc5] at h
          dsimp only at h
          have hq5 := T_23 (X := X) (d := d) (by omega) (M := M) (VilH.el ht1 hb4) hc5
          refine Rc.callV tb_22 rfl rfl rfl mS_23 mP_23 mL_23 mO_23 rfl rfl ob_51 rfl rfl hq5 ?_
          refine Rc.mask (b := 15) ((tb_22.2 55).trans rfl) (ls' := [some (.ref (51)), some (.ref (t1)), some (.int (x2)), some (.int (x3))]) rfl ?_
          exact TJ_22_55_28 (X := X) (d := d + 1) (by omega) ht1 h hP hE
      · rw [if_neg hb4] at h
        cases h
theorem TL_22_28 {X : AX} {d : Nat} (hd : 4 ≤ d) {t1 : Nat} {x2 : Int32} {x3 : Int32} {M : IM} (ht1 : VilH t1) {v : Option Value} {M' : IM} {r : Int32 × IM} (h : L_22_28 t1 x2 x3 M = some r) (hE : (fun (x3, M) => Rc X d 22 61 [none, none, none, none] [] M v M') r) : Rc X d 22 28 [some (.ref (51)), some (.ref (t1)), some (.int (x2)), some (.int (x3))] [] M v M' := by
  exact loopN_rc (P := fun (x3, M) => Rc X d 22 28 [some (.ref (51)), some (.ref (t1)), some (.int (x2)), some (.int (x3))] [] M v M') (E := fun (x3, M) => Rc X d 22 61 [none, none, none, none] [] M v M') (TB_22_28 (X := X) hd ht1) FU _ r h hE
theorem TF_22 {X : AX} {d : Nat} (hd : 4 ≤ d) {t1 : Nat} {a2 : Int32} {M : IM} (ht1 : VilH t1) {v : Option Value} {M' : IM} {o : IM} (h : F_22 t1 a2 M = some o) (hC : v = none ∧ M' = o) : Rc X d 22 0 [some (.ref (51)), some (.ref (t1)), some (.int (a2)), none] [] M v M' := by
  obtain ⟨d, rfl⟩ : ∃ e, d = e + 1 := ⟨d - 1, by omega⟩
  unfold F_22 at h
  refine Rc.run tb_22 1 (pc' := 1) (ls' := [some (.ref (51)), some (.ref (t1)), some (.int (a2)), none]) (st' := [.ref (51)]) rfl rfl ?_
  refine Rc.getR tb_22 rfl rfl ob_51 (by decide +kernel) tg_51_0 (by decide) ?_
  refine Rc.run tb_22 1 (pc' := 6) (ls' := [some (.ref (51)), some (.ref (t1)), some (.int (a2)), none]) (st' := [.int (7), .ref (52)]) rfl rfl ?_
  cases hc1 : F_256 52 (7 : Int32) M with
  | none => rw [hc1] at h; cases h
  | some M1 =>
    rw [hc1] at h
    dsimp only at h
    have hq1 := T_256 (X := X) (d := d) (by omega) (M := M) (ia_52).1 hc1
    refine Rc.callS tb_22 rfl rfl rfl mS_256 mP_256 mL_256 rfl rfl rfl hq1 ?_
    refine Rc.run tb_22 1 (pc' := 10) (ls' := [some (.ref (51)), some (.ref (t1)), some (.int (a2)), none]) (st' := [.ref (51)]) rfl rfl ?_
    refine Rc.getR tb_22 rfl rfl ob_51 (by decide +kernel) tg_51_1 (by decide) ?_
    refine Rc.run tb_22 3 (pc' := 18) (ls' := [some (.ref (51)), some (.ref (t1)), some (.int (a2)), none]) (st' := [.int (7), .int (12), .int (0), .ref (53)]) rfl rfl ?_
    cases hc2 : F_257 53 (0 : Int32) (12 : Int32) (7 : Int32) M1 with
    | none => rw [hc2] at h; cases h
    | some M2 =>
      rw [hc2] at h
      dsimp only at h
      have hq2 := T_257 (X := X) (d := d) (by omega) (M := M1) (ia_53).1 hc2
      refine Rc.callS tb_22 rfl rfl rfl mS_257 mP_257 mL_257 rfl rfl rfl hq2 ?_
      refine Rc.run tb_22 2 (pc' := 23) (ls' := [some (.ref (51)), some (.ref (t1)), some (.int (a2)), none]) (st' := [.int (0), .ref (51)]) rfl rfl ?_
      refine Rc.putI tb_22 rfl rfl ob_51 (by decide +kernel) tg_51_3 (fokZ (Or.inl rfl)) ?_
      refine Rc.run tb_22 2 (pc' := 28) (ls' := [some (.ref (51)), some (.ref (t1)), some (.int (a2)), some (.int (0))]) (st' := []) rfl rfl ?_
      refine Rc.mask (b := 15) ((tb_22.2 28).trans rfl) (ls' := [some (.ref (51)), some (.ref (t1)), some (.int (a2)), some (.int (0))]) rfl ?_
      cases hl8 : L_22_28 t1 a2 0 (iset M2 51 3 0) with
      | none => rw [hl8] at h; cases h
      | some r8 =>
        obtain ⟨x3_8, M8⟩ := r8
        rw [hl8] at h
        dsimp only at h
        refine TL_22_28 (X := X) (d := d + 1) (by omega) ht1 hl8 ?_
        obtain rfl := Option.some.inj h
        obtain ⟨rfl, rfl⟩ := hC
        exact Rc.vret tb_22 rfl mR_22
theorem T_22 {X : AX} {d : Nat} (hd : 4 ≤ d) {t1 : Nat} {a2 : Int32} {M : IM} (ht1 : VilH t1) {M1 : IM} (h : F_22 t1 a2 M = some M1) : Rc X d 22 0 [some (.ref (51)), some (.ref (t1)), some (.int (a2)), none] [] M none M1 := TF_22 hd ht1 h ⟨rfl, rfl⟩
/-! 26: NineDemands$Seeker.seek -/
def B_26_3 (rk : Int32 → Int32 → Int32 → IM → Option (Int32 × IM)) (x1 : Int32) (x3 : Int32) (M : IM) : (Int32) → Option ((Int32) ⊕ (Int32)) := fun x4 => if (12 : Int32) ≤ x4 then (some (Sum.inr x4)) else (if (x3 >>> (x4 &&& 31)) &&& 1 = 0 then (some (Sum.inl (x4 + 1))) else (some (Sum.inr x4)))
def L_26_3 (rk : Int32 → Int32 → Int32 → IM → Option (Int32 × IM)) (x1 : Int32) (x3 : Int32) (M : IM) (x4 : Int32) : Option (Int32) := loopN (B_26_3 rk x1 x3 M) FU x4
def J_26_112_57 (rk : Int32 → Int32 → Int32 → IM → Option (Int32 × IM)) (x1 : Int32) (x3 : Int32) (x4 : Int32) (x5 : Int32) (x6 : Int32) (M : IM) : Option ((Int32 × IM) ⊕ ((Int32 × IM) ⊕ (Int32 × IM))) := some (Sum.inl (x6 + 1, M))
def B_26_57 (rk : Int32 → Int32 → Int32 → IM → Option (Int32 × IM)) (x1 : Int32) (x3 : Int32) (x4 : Int32) (x5 : Int32) : (Int32 × IM) → Option ((Int32 × IM) ⊕ ((Int32 × IM) ⊕ (Int32 × IM))) := fun (x6, M) => if (3 : Int32) < x6 then (some (Sum.inr (Sum.inl (x6, M)))) else (if F_143 x5 x6 = 0 then (J_26_112_57 rk x1 x3 x4 x5 x6 M) else (match F_27 x1 x4 x6 x3 M with | none => none | some (c5, M5) => (if c5 = 0 then (J_26_112_57 rk x1 x3 x4 x5 x6 M5) else (if inb x4 12 = true then (match rk (x1 + 1) (x4 + 1) x3 (iset M5 54 x4.toNatClampNeg x6) with | none => none | some (c6, M6) => (if c6 = 0 then (J_26_112_57 rk x1 x3 x4 x5 x6 M6) else (some (Sum.inr (Sum.inr (1, M6)))))) else none))))
def L_26_57 (rk : Int32 → Int32 → Int32 → IM → Option (Int32 × IM)) (x1 : Int32) (x3 : Int32) (x4 : Int32) (x5 : Int32) (x6 : Int32) (M : IM) : Option ((Int32 × IM) ⊕ (Int32 × IM)) := loopN (B_26_57 rk x1 x3 x4 x5) FU (x6, M)
def J_26_25 (rk : Int32 → Int32 → Int32 → IM → Option (Int32 × IM)) (x1 : Int32) (x3 : Int32) (x4 : Int32) (M : IM) : Option (Int32 × IM) := if (12 : Int32) ≤ x4 then (some ((1, M))) else (if x1 < 12 then (if inb ((x1 * 12) + x4) 156 = true then (match L_26_57 rk x1 x3 x4 (M 53 ((x1 * 12) + x4).toNatClampNeg) 1 M with | none => none | some (.inl (x6_12, M12)) => (some ((0, M12))) | some (.inr q) => some (q)) else none) else (some ((1, M))))
def F_26 (rk : Int32 → Int32 → Int32 → IM → Option (Int32 × IM)) (a1 : Int32) (a2 : Int32) (a3 : Int32) (M : IM) : Option (Int32 × IM) := (match L_26_3 rk a1 a3 M a2 with | none => none | some x4_3 => (J_26_25 rk a1 a3 x4_3 M))
theorem TB_26_3 (Dk : Nat) (rk : Int32 → Int32 → Int32 → IM → Option (Int32 × IM)) (Hk : ∀ {X : AX} {d : Nat}, Dk ≤ d → ∀ {a1 : Int32} {a2 : Int32} {a3 : Int32} {M : IM} {x : Int32} {M1 : IM}, rk a1 a2 a3 M = some (x, M1) → Rc X d 26 0 [some (.ref (51)), some (.int (a1)), some (.int (a2)), some (.int (a3)), none, none, none] [] M (some (.int x)) M1) {X : AX} {d : Nat} (hd : Dk + 1 ≤ d) {x1 : Int32} {x3 : Int32} {M : IM} {v : Option Value} {M' : IM} : ∀ (s : Int32) (o : (Int32) ⊕ (Int32)), B_26_3 rk x1 x3 M s = some o → (∀ s', o = .inl s' → (fun x4 => Rc X d 26 3 [some (.ref (51)), some (.int (x1)), none, some (.int (x3)), some (.int (x4)), none, none] [] M v M') s') → (∀ r, o = .inr r → (fun x4 => Rc X d 26 25 [some (.ref (51)), some (.int (x1)), none, some (.int (x3)), some (.int (x4)), none, none] [] M v M') r) → (fun x4 => Rc X d 26 3 [some (.ref (51)), some (.int (x1)), none, some (.int (x3)), some (.int (x4)), none, none] [] M v M') s := by
  intro x4 o h hP hE
  show Rc X d 26 3 [some (.ref (51)), some (.int (x1)), none, some (.int (x3)), some (.int (x4)), none, none] [] M v M'
  obtain ⟨d, rfl⟩ : ∃ e, d = e + 1 := ⟨d - 1, by omega⟩
  unfold B_26_3 at h
  dsimp only at h hP hE
  refine Rc.run tb_26 2 (pc' := 7) (ls' := [some (.ref (51)), some (.int (x1)), none, some (.int (x3)), some (.int (x4)), none, none]) (st' := [.int (12), .int (x4)]) rfl rfl ?_
  refine Rc.icmp_ge (pc1 := 25) tb_26 rfl rfl (by decide) (by decide) (fun hb2 => ?_) (fun hb2 => ?_)
  · rw [if_pos hb2] at h
    refine Rc.mask (b := 27) ((tb_26.2 25).trans rfl) (ls' := [some (.ref (51)), some (.int (x1)), none, some (.int (x3)), some (.int (x4)), none, none]) rfl ?_
    obtain rfl := Option.some.inj h
    exact hE _ rfl
  · rw [if_neg hb2] at h
    refine Rc.run tb_26 5 (pc' := 16) (ls' := [some (.ref (51)), some (.int (x1)), none, some (.int (x3)), some (.int (x4)), none, none]) (st' := [.int ((x3 >>> (x4 &&& 31)) &&& 1)]) rfl rfl ?_
    refine Rc.if_ne (pc1 := 25) tb_26 rfl rfl (by decide) (by decide) (fun hb1 => ?_) (fun hb1 => ?_)
    · rw [if_pos hb1] at h
      refine Rc.run tb_26 2 (pc' := 3) (ls' := [some (.ref (51)), some (.int (x1)), none, some (.int (x3)), some (.int (x4 + 1)), none, none]) (st' := []) rfl rfl ?_
      refine Rc.mask (b := 27) ((tb_26.2 3).trans rfl) (ls' := [some (.ref (51)), some (.int (x1)), none, some (.int (x3)), some (.int (x4 + 1)), none, none]) rfl ?_
      obtain rfl := Option.some.inj h
      exact hP _ rfl
    · rw [if_neg hb1] at h
      refine Rc.mask (b := 27) ((tb_26.2 25).trans rfl) (ls' := [some (.ref (51)), some (.int (x1)), none, some (.int (x3)), some (.int (x4)), none, none]) rfl ?_
      obtain rfl := Option.some.inj h
      exact hE _ rfl
theorem TL_26_3 (Dk : Nat) (rk : Int32 → Int32 → Int32 → IM → Option (Int32 × IM)) (Hk : ∀ {X : AX} {d : Nat}, Dk ≤ d → ∀ {a1 : Int32} {a2 : Int32} {a3 : Int32} {M : IM} {x : Int32} {M1 : IM}, rk a1 a2 a3 M = some (x, M1) → Rc X d 26 0 [some (.ref (51)), some (.int (a1)), some (.int (a2)), some (.int (a3)), none, none, none] [] M (some (.int x)) M1) {X : AX} {d : Nat} (hd : Dk + 1 ≤ d) {x1 : Int32} {x3 : Int32} {M : IM} {x4 : Int32} {v : Option Value} {M' : IM} {r : Int32} (h : L_26_3 rk x1 x3 M x4 = some r) (hE : (fun x4 => Rc X d 26 25 [some (.ref (51)), some (.int (x1)), none, some (.int (x3)), some (.int (x4)), none, none] [] M v M') r) : Rc X d 26 3 [some (.ref (51)), some (.int (x1)), none, some (.int (x3)), some (.int (x4)), none, none] [] M v M' := by
  exact loopN_rc (P := fun x4 => Rc X d 26 3 [some (.ref (51)), some (.int (x1)), none, some (.int (x3)), some (.int (x4)), none, none] [] M v M') (E := fun x4 => Rc X d 26 25 [some (.ref (51)), some (.int (x1)), none, some (.int (x3)), some (.int (x4)), none, none] [] M v M') (TB_26_3 Dk rk Hk (X := X) hd) FU _ r h hE
theorem TJ_26_112_57 (Dk : Nat) (rk : Int32 → Int32 → Int32 → IM → Option (Int32 × IM)) (Hk : ∀ {X : AX} {d : Nat}, Dk ≤ d → ∀ {a1 : Int32} {a2 : Int32} {a3 : Int32} {M : IM} {x : Int32} {M1 : IM}, rk a1 a2 a3 M = some (x, M1) → Rc X d 26 0 [some (.ref (51)), some (.int (a1)), some (.int (a2)), some (.int (a3)), none, none, none] [] M (some (.int x)) M1) {X : AX} {d : Nat} (hd : Dk + 1 ≤ d) {x1 : Int32} {x3 : Int32} {x4 : Int32} {x5 : Int32} {x6 : Int32} {M : IM} {v : Option Value} {M' : IM} {o : (Int32 × IM) ⊕ ((Int32 × IM) ⊕ (Int32 × IM))} (h : J_26_112_57 rk x1 x3 x4 x5 x6 M = some o) (hP : ∀ s', o = .inl s' → (fun (x6, M) => Rc X d 26 57 [some (.ref (51)), some (.int (x1)), none, some (.int (x3)), some (.int (x4)), some (.int (x5)), some (.int (x6))] [] M v M') s') (hE : ∀ r, o = .inr r → (fun r => match r with | .inl (x6, M) => Rc X d 26 118 [none, none, none, none, none, none, none] [] M v M' | .inr q => v = some (.int q.1) ∧ M' = q.2) r) : Rc X d 26 112 [some (.ref (51)), some (.int (x1)), none, some (.int (x3)), some (.int (x4)), some (.int (x5)), some (.int (x6))] [] M v M' := by
  obtain ⟨d, rfl⟩ : ∃ e, d = e + 1 := ⟨d - 1, by omega⟩
  unfold J_26_112_57 at h
  dsimp only at hP hE
  refine Rc.run tb_26 2 (pc' := 57) (ls' := [some (.ref (51)), some (.int (x1)), none, some (.int (x3)), some (.int (x4)), some (.int (x5)), some (.int (x6 + 1))]) (st' := []) rfl rfl ?_
  refine Rc.mask (b := 123) ((tb_26.2 57).trans rfl) (ls' := [some (.ref (51)), some (.int (x1)), none, some (.int (x3)), some (.int (x4)), some (.int (x5)), some (.int (x6 + 1))]) rfl ?_
  obtain rfl := Option.some.inj h
  exact hP _ rfl
theorem TB_26_57 (Dk : Nat) (rk : Int32 → Int32 → Int32 → IM → Option (Int32 × IM)) (Hk : ∀ {X : AX} {d : Nat}, Dk ≤ d → ∀ {a1 : Int32} {a2 : Int32} {a3 : Int32} {M : IM} {x : Int32} {M1 : IM}, rk a1 a2 a3 M = some (x, M1) → Rc X d 26 0 [some (.ref (51)), some (.int (a1)), some (.int (a2)), some (.int (a3)), none, none, none] [] M (some (.int x)) M1) {X : AX} {d : Nat} (hd : Dk + 1 ≤ d) {x1 : Int32} {x3 : Int32} {x4 : Int32} {x5 : Int32} {v : Option Value} {M' : IM} : ∀ (s : Int32 × IM) (o : (Int32 × IM) ⊕ ((Int32 × IM) ⊕ (Int32 × IM))), B_26_57 rk x1 x3 x4 x5 s = some o → (∀ s', o = .inl s' → (fun (x6, M) => Rc X d 26 57 [some (.ref (51)), some (.int (x1)), none, some (.int (x3)), some (.int (x4)), some (.int (x5)), some (.int (x6))] [] M v M') s') → (∀ r, o = .inr r → (fun r => match r with | .inl (x6, M) => Rc X d 26 118 [none, none, none, none, none, none, none] [] M v M' | .inr q => v = some (.int q.1) ∧ M' = q.2) r) → (fun (x6, M) => Rc X d 26 57 [some (.ref (51)), some (.int (x1)), none, some (.int (x3)), some (.int (x4)), some (.int (x5)), some (.int (x6))] [] M v M') s := by
  rintro ⟨x6, M⟩ o h hP hE
  show Rc X d 26 57 [some (.ref (51)), some (.int (x1)), none, some (.int (x3)), some (.int (x4)), some (.int (x5)), some (.int (x6))] [] M v M'
  obtain ⟨d, rfl⟩ : ∃ e, d = e + 1 := ⟨d - 1, by omega⟩
  unfold B_26_57 at h
  dsimp only at h hP hE
  refine Rc.run tb_26 2 (pc' := 60) (ls' := [some (.ref (51)), some (.int (x1)), none, some (.int (x3)), some (.int (x4)), some (.int (x5)), some (.int (x6))]) (st' := [.int (3), .int (x6)]) rfl rfl ?_
  refine Rc.icmp_gt (pc1 := 118) tb_26 rfl rfl (by decide) (by decide) (fun hb11 => ?_) (fun hb11 => ?_)
  · rw [if_pos hb11] at h
    refine Rc.mask (b := 0) ((tb_26.2 118).trans rfl) (ls' := [none, none, none, none, none, none, none]) rfl ?_
    obtain rfl := Option.some.inj h
    exact hE _ rfl
  · rw [if_neg hb11] at h
    refine Rc.run tb_26 2 (pc' := 67) (ls' := [some (.ref (51)), some (.int (x1)), none, some (.int (x3)), some (.int (x4)), some (.int (x5)), some (.int (x6))]) (st' := [.int (x6), .int (x5)]) rfl rfl ?_
    have hq4 := T_143 (X := X) (d := d) (by omega) x5 x6 M
    have hz4 := Rc.bool mR_143 hq4
    refine Rc.callS tb_26 rfl rfl rfl mS_143 mP_143 mL_143 rfl rfl rfl hq4 ?_
    refine Rc.if_eq (pc1 := 112) tb_26 rfl rfl (by decide) (by decide) (fun hb10 => ?_) (fun hb10 => ?_)
    · rw [if_pos hb10] at h
      refine Rc.mask (b := 123) ((tb_26.2 112).trans rfl) (ls' := [some (.ref (51)), some (.int (x1)), none, some (.int (x3)), some (.int (x4)), some (.int (x5)), some (.int (x6))]) rfl ?_
      exact TJ_26_112_57 Dk rk Hk (X := X) (d := d + 1) (by omega) h hP hE
    · rw [if_neg hb10] at h
      refine Rc.run tb_26 5 (pc' := 80) (ls' := [some (.ref (51)), some (.int (x1)), none, some (.int (x3)), some (.int (x4)), some (.int (x5)), some (.int (x6))]) (st' := [.int (x3), .int (x6), .int (x4), .int (x1), .ref (51)]) rfl rfl ?_
      cases hc5 : F_27 x1 x4 x6 x3 M with
      | none => rw [hc5] at h; cases h
      | some r5 =>
        obtain ⟨c5, M5⟩ := r5
        rw [hc5] at h
        dsimp only at h
        have hq5 := T_27 (X := X) (d := d) (by omega) (M := M) hc5
        have hz5 := Rc.bool mR_27 hq5
        refine Rc.callV tb_26 rfl rfl rfl mS_27 mP_27 mL_27 mO_27 rfl rfl ob_51 rfl rfl hq5 ?_
        refine Rc.if_eq (pc1 := 112) tb_26 rfl rfl (by decide) (by decide) (fun hb9 => ?_) (fun hb9 => ?_)
        · rw [if_pos hb9] at h
          refine Rc.mask (b := 123) ((tb_26.2 112).trans rfl) (ls' := [some (.ref (51)), some (.int (x1)), none, some (.int (x3)), some (.int (x4)), some (.int (x5)), some (.int (x6))]) rfl ?_
          exact TJ_26_112_57 Dk rk Hk (X := X) (d := d + 1) (by omega) h hP hE
        · rw [if_neg hb9] at h
          refine Rc.run tb_26 1 (pc' := 87) (ls' := [some (.ref (51)), some (.int (x1)), none, some (.int (x3)), some (.int (x4)), some (.int (x5)), some (.int (x6))]) (st' := [.ref (51)]) rfl rfl ?_
          refine Rc.getR tb_26 rfl rfl ob_51 (by decide +kernel) tg_51_2 (by decide) ?_
          refine Rc.run tb_26 2 (pc' := 94) (ls' := [some (.ref (51)), some (.int (x1)), none, some (.int (x3)), some (.int (x4)), some (.int (x5)), some (.int (x6))]) (st' := [.int (x6), .int (x4), .ref (54)]) rfl rfl ?_
          by_cases hb8 : inb x4 12 = true
          · rw [if_pos hb8] at h
            refine Rc.iast tb_26 rfl rfl ia_54 hb8 ?_
            refine Rc.run tb_26 8 (pc' := 104) (ls' := [some (.ref (51)), some (.int (x1)), none, some (.int (x3)), some (.int (x4)), some (.int (x5)), some (.int (x6))]) (st' := [.int (x3), .int (x4 + 1), .int (x1 + 1), .ref (51)]) rfl rfl ?_
            cases hc6 : rk (x1 + 1) (x4 + 1) x3 (iset M5 54 x4.toNatClampNeg x6) with
            | none => rw [hc6] at h; cases h
            | some r6 =>
              obtain ⟨c6, M6⟩ := r6
              rw [hc6] at h
              dsimp only at h
              have hq6 := Hk (X := X) (d := d) (by omega) (M := iset M5 54 x4.toNatClampNeg x6) hc6
              have hz6 := Rc.bool mR_26 hq6
              refine Rc.callV tb_26 rfl rfl rfl mS_26 mP_26 mL_26 mO_26 rfl rfl ob_51 rfl rfl hq6 ?_
              refine Rc.if_eq (pc1 := 112) tb_26 rfl rfl (by decide) (by decide) (fun hb7 => ?_) (fun hb7 => ?_)
              · rw [if_pos hb7] at h
                refine Rc.mask (b := 123) ((tb_26.2 112).trans rfl) (ls' := [some (.ref (51)), some (.int (x1)), none, some (.int (x3)), some (.int (x4)), some (.int (x5)), some (.int (x6))]) rfl ?_
                exact TJ_26_112_57 Dk rk Hk (X := X) (d := d + 1) (by omega) h hP hE
              · rw [if_neg hb7] at h
                refine Rc.run tb_26 1 (pc' := 111) (ls' := [some (.ref (51)), some (.int (x1)), none, some (.int (x3)), some (.int (x4)), some (.int (x5)), some (.int (x6))]) (st' := [.int (1)]) rfl rfl ?_
                obtain rfl := Option.some.inj h
                obtain ⟨rfl, rfl⟩ := hE _ rfl
                exact Rc.zret tb_26 rfl mR_26 (Or.inr rfl)
          · rw [if_neg hb8] at h
            cases h
theorem TL_26_57 (Dk : Nat) (rk : Int32 → Int32 → Int32 → IM → Option (Int32 × IM)) (Hk : ∀ {X : AX} {d : Nat}, Dk ≤ d → ∀ {a1 : Int32} {a2 : Int32} {a3 : Int32} {M : IM} {x : Int32} {M1 : IM}, rk a1 a2 a3 M = some (x, M1) → Rc X d 26 0 [some (.ref (51)), some (.int (a1)), some (.int (a2)), some (.int (a3)), none, none, none] [] M (some (.int x)) M1) {X : AX} {d : Nat} (hd : Dk + 1 ≤ d) {x1 : Int32} {x3 : Int32} {x4 : Int32} {x5 : Int32} {x6 : Int32} {M : IM} {v : Option Value} {M' : IM} {r : (Int32 × IM) ⊕ (Int32 × IM)} (h : L_26_57 rk x1 x3 x4 x5 x6 M = some r) (hE : (fun r => match r with | .inl (x6, M) => Rc X d 26 118 [none, none, none, none, none, none, none] [] M v M' | .inr q => v = some (.int q.1) ∧ M' = q.2) r) : Rc X d 26 57 [some (.ref (51)), some (.int (x1)), none, some (.int (x3)), some (.int (x4)), some (.int (x5)), some (.int (x6))] [] M v M' := by
  exact loopN_rc (P := fun (x6, M) => Rc X d 26 57 [some (.ref (51)), some (.int (x1)), none, some (.int (x3)), some (.int (x4)), some (.int (x5)), some (.int (x6))] [] M v M') (E := fun r => match r with | .inl (x6, M) => Rc X d 26 118 [none, none, none, none, none, none, none] [] M v M' | .inr q => v = some (.int q.1) ∧ M' = q.2) (TB_26_57 Dk rk Hk (X := X) hd) FU _ r h hE
theorem TJ_26_25 (Dk : Nat) (rk : Int32 → Int32 → Int32 → IM → Option (Int32 × IM)) (Hk : ∀ {X : AX} {d : Nat}, Dk ≤ d → ∀ {a1 : Int32} {a2 : Int32} {a3 : Int32} {M : IM} {x : Int32} {M1 : IM}, rk a1 a2 a3 M = some (x, M1) → Rc X d 26 0 [some (.ref (51)), some (.int (a1)), some (.int (a2)), some (.int (a3)), none, none, none] [] M (some (.int x)) M1) {X : AX} {d : Nat} (hd : Dk + 1 ≤ d) {x1 : Int32} {x3 : Int32} {x4 : Int32} {M : IM} {v : Option Value} {M' : IM} {o : Int32 × IM} (h : J_26_25 rk x1 x3 x4 M = some o) (hC : v = some (.int o.1) ∧ M' = o.2) : Rc X d 26 25 [some (.ref (51)), some (.int (x1)), none, some (.int (x3)), some (.int (x4)), none, none] [] M v M' := by
  obtain ⟨d, rfl⟩ : ∃ e, d = e + 1 := ⟨d - 1, by omega⟩
  unfold J_26_25 at h
  refine Rc.run tb_26 2 (pc' := 29) (ls' := [some (.ref (51)), some (.int (x1)), none, some (.int (x3)), some (.int (x4)), none, none]) (st' := [.int (12), .int (x4)]) rfl rfl ?_
  refine Rc.icmp_ge (pc1 := 38) tb_26 rfl rfl (by decide) (by decide) (fun hb15 => ?_) (fun hb15 => ?_)
  · rw [if_pos hb15] at h
    refine Rc.run tb_26 1 (pc' := 39) (ls' := [none, none, none, none, none, none, none]) (st' := [.int (1)]) rfl rfl ?_
    obtain rfl := Option.some.inj h
    obtain ⟨rfl, rfl⟩ := hC
    exact Rc.zret tb_26 rfl mR_26 (Or.inr rfl)
  · rw [if_neg hb15] at h
    refine Rc.run tb_26 2 (pc' := 35) (ls' := [some (.ref (51)), some (.int (x1)), none, some (.int (x3)), some (.int (x4)), none, none]) (st' := [.int (12), .int (x1)]) rfl rfl ?_
    refine Rc.icmp_lt (pc1 := 40) tb_26 rfl rfl (by decide) (by decide) (fun hb14 => ?_) (fun hb14 => ?_)
    · rw [if_pos hb14] at h
      refine Rc.run tb_26 1 (pc' := 41) (ls' := [some (.ref (51)), some (.int (x1)), none, some (.int (x3)), some (.int (x4)), none, none]) (st' := [.ref (51)]) rfl rfl ?_
      refine Rc.getR tb_26 rfl rfl ob_51 (by decide +kernel) tg_51_1 (by decide) ?_
      refine Rc.run tb_26 5 (pc' := 51) (ls' := [some (.ref (51)), some (.int (x1)), none, some (.int (x3)), some (.int (x4)), none, none]) (st' := [.int ((x1 * 12) + x4), .ref (53)]) rfl rfl ?_
      by_cases hb13 : inb ((x1 * 12) + x4) 156 = true
      · rw [if_pos hb13] at h
        refine Rc.iald tb_26 rfl rfl ia_53 hb13 ?_
        refine Rc.run tb_26 3 (pc' := 57) (ls' := [some (.ref (51)), some (.int (x1)), none, some (.int (x3)), some (.int (x4)), some (.int (M 53 ((x1 * 12) + x4).toNatClampNeg)), some (.int (1))]) (st' := []) rfl rfl ?_
        refine Rc.mask (b := 123) ((tb_26.2 57).trans rfl) (ls' := [some (.ref (51)), some (.int (x1)), none, some (.int (x3)), some (.int (x4)), some (.int (M 53 ((x1 * 12) + x4).toNatClampNeg)), some (.int (1))]) rfl ?_
        cases hl12 : L_26_57 rk x1 x3 x4 (M 53 ((x1 * 12) + x4).toNatClampNeg) 1 M with
        | none => rw [hl12] at h; cases h
        | some rr12 =>
          rw [hl12] at h
          cases rr12 with
          | inl r12 =>
            obtain ⟨x6_12, M12⟩ := r12
            dsimp only at h
            refine TL_26_57 Dk rk Hk (X := X) (d := d + 1) (by omega) hl12 ?_
            refine Rc.run tb_26 1 (pc' := 119) (ls' := [none, none, none, none, none, none, none]) (st' := [.int (0)]) rfl rfl ?_
            obtain rfl := Option.some.inj h
            obtain ⟨rfl, rfl⟩ := hC
            exact Rc.zret tb_26 rfl mR_26 (Or.inl rfl)
          | inr q =>
            dsimp only at h
            refine TL_26_57 Dk rk Hk (X := X) (d := d + 1) (by omega) hl12 ?_
            obtain rfl := Option.some.inj h
            obtain ⟨rfl, rfl⟩ := hC
            exact ⟨rfl, rfl⟩
      · rw [if_neg hb13] at h
        cases h
    · rw [if_neg hb14] at h
      refine Rc.run tb_26 1 (pc' := 39) (ls' := [none, none, none, none, none, none, none]) (st' := [.int (1)]) rfl rfl ?_
      obtain rfl := Option.some.inj h
      obtain ⟨rfl, rfl⟩ := hC
      exact Rc.zret tb_26 rfl mR_26 (Or.inr rfl)
theorem TF_26 (Dk : Nat) (rk : Int32 → Int32 → Int32 → IM → Option (Int32 × IM)) (Hk : ∀ {X : AX} {d : Nat}, Dk ≤ d → ∀ {a1 : Int32} {a2 : Int32} {a3 : Int32} {M : IM} {x : Int32} {M1 : IM}, rk a1 a2 a3 M = some (x, M1) → Rc X d 26 0 [some (.ref (51)), some (.int (a1)), some (.int (a2)), some (.int (a3)), none, none, none] [] M (some (.int x)) M1) {X : AX} {d : Nat} (hd : Dk + 1 ≤ d) {a1 : Int32} {a2 : Int32} {a3 : Int32} {M : IM} {v : Option Value} {M' : IM} {o : Int32 × IM} (h : F_26 rk a1 a2 a3 M = some o) (hC : v = some (.int o.1) ∧ M' = o.2) : Rc X d 26 0 [some (.ref (51)), some (.int (a1)), some (.int (a2)), some (.int (a3)), none, none, none] [] M v M' := by
  obtain ⟨d, rfl⟩ : ∃ e, d = e + 1 := ⟨d - 1, by omega⟩
  unfold F_26 at h
  refine Rc.run tb_26 2 (pc' := 3) (ls' := [some (.ref (51)), some (.int (a1)), some (.int (a2)), some (.int (a3)), some (.int (a2)), none, none]) (st' := []) rfl rfl ?_
  refine Rc.mask (b := 27) ((tb_26.2 3).trans rfl) (ls' := [some (.ref (51)), some (.int (a1)), none, some (.int (a3)), some (.int (a2)), none, none]) rfl ?_
  cases hl3 : L_26_3 rk a1 a3 M a2 with
  | none => rw [hl3] at h; cases h
  | some x4_3 =>
    rw [hl3] at h
    dsimp only at h
    refine TL_26_3 Dk rk Hk (X := X) (d := d + 1) (by omega) hl3 ?_
    refine Rc.mask (b := 27) ((tb_26.2 25).trans rfl) (ls' := [some (.ref (51)), some (.int (a1)), none, some (.int (a3)), some (.int (x4_3)), none, none]) rfl ?_
    exact TJ_26_25 Dk rk Hk (X := X) (d := d + 1) (by omega) h hC
theorem T_26 (Dk : Nat) (rk : Int32 → Int32 → Int32 → IM → Option (Int32 × IM)) (Hk : ∀ {X : AX} {d : Nat}, Dk ≤ d → ∀ {a1 : Int32} {a2 : Int32} {a3 : Int32} {M : IM} {x : Int32} {M1 : IM}, rk a1 a2 a3 M = some (x, M1) → Rc X d 26 0 [some (.ref (51)), some (.int (a1)), some (.int (a2)), some (.int (a3)), none, none, none] [] M (some (.int x)) M1) {X : AX} {d : Nat} (hd : Dk + 1 ≤ d) {a1 : Int32} {a2 : Int32} {a3 : Int32} {M : IM} {x : Int32} {M1 : IM} (h : F_26 rk a1 a2 a3 M = some (x, M1)) : Rc X d 26 0 [some (.ref (51)), some (.int (a1)), some (.int (a2)), some (.int (a3)), none, none, none] [] M (some (.int x)) M1 := TF_26 Dk rk Hk hd h ⟨rfl, rfl⟩
def KK_26 : Nat → Int32 → Int32 → Int32 → IM → Option (Int32 × IM)
  | 0, _, _, _, _ => none
  | k + 1, a1, a2, a3, M => F_26 (KK_26 k) a1 a2 a3 M
theorem TKK_26 : ∀ (k : Nat), ∀ {X : AX} {d : Nat}, k * 1 ≤ d → ∀ {a1 : Int32} {a2 : Int32} {a3 : Int32} {M : IM} {x : Int32} {M1 : IM}, KK_26 k a1 a2 a3 M = some (x, M1) → Rc X d 26 0 [some (.ref (51)), some (.int (a1)), some (.int (a2)), some (.int (a3)), none, none, none] [] M (some (.int x)) M1
  | 0 => by intros; rename_i h; cases h
  | k + 1 => by intro hd; intros; rename_i h; exact T_26 (k * 1) (KK_26 k) (@TKK_26 k) (by omega) h
def K_26 (a1 : Int32) (a2 : Int32) (a3 : Int32) (M : IM) : Option (Int32 × IM) := KK_26 64 a1 a2 a3 M
theorem TK_26 {X : AX} {d : Nat} (hd : 64 ≤ d)  {a1 : Int32} {a2 : Int32} {a3 : Int32} {M : IM} {x : Int32} {M1 : IM} (h : K_26 a1 a2 a3 M = some (x, M1)) : Rc X d 26 0 [some (.ref (51)), some (.int (a1)), some (.int (a2)), some (.int (a3)), none, none, none] [] M (some (.int x)) M1 := TKK_26 64 (by omega) h
/-! 25: NineDemands$Seeker.fits -/
def F_25 (M : IM) : Option (Int32 × IM) := (match K_26 (0 : Int32) (0 : Int32) (15 : Int32) M with | none => none | some (c1, M1) => (if c1 = 0 then (some ((0, M1))) else (match K_26 (0 : Int32) (0 : Int32) (4080 : Int32) M1 with | none => none | some (c2, M2) => (if c2 = 0 then (some ((0, M2))) else (if M2 51 3 = 0 then (some ((1, M2))) else (match K_26 (0 : Int32) (0 : Int32) (4095 : Int32) M2 with | none => none | some (c3, M3) => (if c3 = 0 then (some ((0, M3))) else (some ((1, M3))))))))))
theorem TF_25 {X : AX} {d : Nat} (hd : 65 ≤ d) {M : IM} {v : Option Value} {M' : IM} {o : Int32 × IM} (h : F_25 M = some o) (hC : v = some (.int o.1) ∧ M' = o.2) : Rc X d 25 0 [some (.ref (51))] [] M v M' := by
  obtain ⟨d, rfl⟩ : ∃ e, d = e + 1 := ⟨d - 1, by omega⟩
  unfold F_25 at h
  refine Rc.run tb_25 4 (pc' := 5) (ls' := [some (.ref (51))]) (st' := [.int (15), .int (0), .int (0), .ref (51)]) rfl rfl ?_
  cases hc1 : K_26 (0 : Int32) (0 : Int32) (15 : Int32) M with
  | none => rw [hc1] at h; cases h
  | some r1 =>
    obtain ⟨c1, M1⟩ := r1
    rw [hc1] at h
    dsimp only at h
    have hq1 := TK_26 (X := X) (d := d) (by omega) (M := M) hc1
    have hz1 := Rc.bool mR_26 hq1
    refine Rc.callV tb_25 rfl rfl rfl mS_26 mP_26 mL_26 mO_26 rfl rfl ob_51 rfl rfl hq1 ?_
    refine Rc.if_eq (pc1 := 46) tb_25 rfl rfl (by decide) (by decide) (fun hb7 => ?_) (fun hb7 => ?_)
    · rw [if_pos hb7] at h
      refine Rc.run tb_25 1 (pc' := 47) (ls' := [none]) (st' := [.int (0)]) rfl rfl ?_
      obtain rfl := Option.some.inj h
      obtain ⟨rfl, rfl⟩ := hC
      exact Rc.zret tb_25 rfl mR_25 (Or.inl rfl)
    · rw [if_neg hb7] at h
      refine Rc.run tb_25 4 (pc' := 17) (ls' := [some (.ref (51))]) (st' := [.int (4080), .int (0), .int (0), .ref (51)]) rfl rfl ?_
      cases hc2 : K_26 (0 : Int32) (0 : Int32) (4080 : Int32) M1 with
      | none => rw [hc2] at h; cases h
      | some r2 =>
        obtain ⟨c2, M2⟩ := r2
        rw [hc2] at h
        dsimp only at h
        have hq2 := TK_26 (X := X) (d := d) (by omega) (M := M1) hc2
        have hz2 := Rc.bool mR_26 hq2
        refine Rc.callV tb_25 rfl rfl rfl mS_26 mP_26 mL_26 mO_26 rfl rfl ob_51 rfl rfl hq2 ?_
        refine Rc.if_eq (pc1 := 46) tb_25 rfl rfl (by decide) (by decide) (fun hb6 => ?_) (fun hb6 => ?_)
        · rw [if_pos hb6] at h
          refine Rc.run tb_25 1 (pc' := 47) (ls' := [none]) (st' := [.int (0)]) rfl rfl ?_
          obtain rfl := Option.some.inj h
          obtain ⟨rfl, rfl⟩ := hC
          exact Rc.zret tb_25 rfl mR_25 (Or.inl rfl)
        · rw [if_neg hb6] at h
          refine Rc.run tb_25 1 (pc' := 24) (ls' := [some (.ref (51))]) (st' := [.ref (51)]) rfl rfl ?_
          refine Rc.getI tb_25 rfl rfl ob_51 (by decide +kernel) tg_51_3 ?_
          refine Rc.if_eq (pc1 := 42) tb_25 rfl rfl (by decide) (by decide) (fun hb5 => ?_) (fun hb5 => ?_)
          · rw [if_pos hb5] at h
            refine Rc.run tb_25 2 (pc' := 47) (ls' := [none]) (st' := [.int (1)]) rfl rfl ?_
            obtain rfl := Option.some.inj h
            obtain ⟨rfl, rfl⟩ := hC
            exact Rc.zret tb_25 rfl mR_25 (Or.inr rfl)
          · rw [if_neg hb5] at h
            refine Rc.run tb_25 4 (pc' := 36) (ls' := [some (.ref (51))]) (st' := [.int (4095), .int (0), .int (0), .ref (51)]) rfl rfl ?_
            cases hc3 : K_26 (0 : Int32) (0 : Int32) (4095 : Int32) M2 with
            | none => rw [hc3] at h; cases h
            | some r3 =>
              obtain ⟨c3, M3⟩ := r3
              rw [hc3] at h
              dsimp only at h
              have hq3 := TK_26 (X := X) (d := d) (by omega) (M := M2) hc3
              have hz3 := Rc.bool mR_26 hq3
              refine Rc.callV tb_25 rfl rfl rfl mS_26 mP_26 mL_26 mO_26 rfl rfl ob_51 rfl rfl hq3 ?_
              refine Rc.if_eq (pc1 := 46) tb_25 rfl rfl (by decide) (by decide) (fun hb4 => ?_) (fun hb4 => ?_)
              · rw [if_pos hb4] at h
                refine Rc.run tb_25 1 (pc' := 47) (ls' := [none]) (st' := [.int (0)]) rfl rfl ?_
                obtain rfl := Option.some.inj h
                obtain ⟨rfl, rfl⟩ := hC
                exact Rc.zret tb_25 rfl mR_25 (Or.inl rfl)
              · rw [if_neg hb4] at h
                refine Rc.run tb_25 2 (pc' := 47) (ls' := [none]) (st' := [.int (1)]) rfl rfl ?_
                obtain rfl := Option.some.inj h
                obtain ⟨rfl, rfl⟩ := hC
                exact Rc.zret tb_25 rfl mR_25 (Or.inr rfl)
theorem T_25 {X : AX} {d : Nat} (hd : 65 ≤ d) {M : IM} {x : Int32} {M1 : IM} (h : F_25 M = some (x, M1)) : Rc X d 25 0 [some (.ref (51))] [] M (some (.int x)) M1 := TF_25 hd h ⟨rfl, rfl⟩
/-! 28: NineDemands$Seeker.fewestHalls -/
def J_28_60_21 (x1 : Int32) (x2 : Int32) (x3 : Int32) (M : IM) : Option ((Int32 × Int32 × IM) ⊕ ((Int32 × Int32 × IM) ⊕ (Int32 × IM))) := (match F_32 x2 with | none => none | some c4 => (some (Sum.inl (c4, x3 + 1, M))))
def B_28_21 (x1 : Int32) : (Int32 × Int32 × IM) → Option ((Int32 × Int32 × IM) ⊕ ((Int32 × Int32 × IM) ⊕ (Int32 × IM))) := fun (x2, x3, M) => if (4095 : Int32) ≤ x3 then (some (Sum.inr (Sum.inl (x2, x3, M)))) else (if (4095 : Int32) < x2 then (some (Sum.inr (Sum.inl (x2, x3, M)))) else (match F_29 x2 M with | none => none | some c1 => (if c1 = 0 then (match K_26 (0 : Int32) (0 : Int32) x2 M with | none => none | some (c2, M2) => (if c2 = 0 then (some (Sum.inr (Sum.inr (x2, M2)))) else (match F_30 x2 M2 with | none => none | some M3 => (J_28_60_21 x1 x2 x3 M3)))) else (J_28_60_21 x1 x2 x3 M))))
def L_28_21 (x1 : Int32) (x2 : Int32) (x3 : Int32) (M : IM) : Option ((Int32 × Int32 × IM) ⊕ (Int32 × IM)) := loopN (B_28_21 x1) FU (x2, x3, M)
def J_28_71_7 (x1 : Int32) (M : IM) : Option ((Int32 × IM) ⊕ ((Int32 × IM) ⊕ (Int32 × IM))) := some (Sum.inl (x1 + 1, M))
def B_28_7 : (Int32 × IM) → Option ((Int32 × IM) ⊕ ((Int32 × IM) ⊕ (Int32 × IM))) := fun (x1, M) => if (12 : Int32) ≤ x1 then (some (Sum.inr (Sum.inl (x1, M)))) else (match L_28_21 x1 (((1 : Int32) <<< (x1 &&& 31)) - 1) 0 M with | none => none | some (.inl (x2_9, x3_9, M9)) => (J_28_71_7 x1 M9) | some (.inr q) => some (Sum.inr (Sum.inr q)))
def L_28_7 (x1 : Int32) (M : IM) : Option ((Int32 × IM) ⊕ (Int32 × IM)) := loopN (B_28_7) FU (x1, M)
def F_28 (M : IM) : Option (Int32 × IM) := (match L_28_7 1 (iset M 51 5 0) with | none => none | some (.inl (x1_11, M11)) => (some ((4095, M11))) | some (.inr q) => some (q))
theorem TJ_28_60_21 {X : AX} {d : Nat} (hd : 65 ≤ d) {x1 : Int32} {x2 : Int32} {x3 : Int32} {M : IM} {v : Option Value} {M' : IM} {o : (Int32 × Int32 × IM) ⊕ ((Int32 × Int32 × IM) ⊕ (Int32 × IM))} (h : J_28_60_21 x1 x2 x3 M = some o) (hP : ∀ s', o = .inl s' → (fun (x2, x3, M) => Rc X d 28 21 [some (.ref (51)), some (.int (x1)), some (.int (x2)), some (.int (x3))] [] M v M') s') (hE : ∀ r, o = .inr r → (fun r => match r with | .inl (x2, x3, M) => Rc X d 28 71 [some (.ref (51)), some (.int (x1)), none, none] [] M v M' | .inr q => v = some (.int q.1) ∧ M' = q.2) r) : Rc X d 28 60 [some (.ref (51)), some (.int (x1)), some (.int (x2)), some (.int (x3))] [] M v M' := by
  obtain ⟨d, rfl⟩ : ∃ e, d = e + 1 := ⟨d - 1, by omega⟩
  unfold J_28_60_21 at h
  dsimp only at hP hE
  refine Rc.run tb_28 1 (pc' := 61) (ls' := [some (.ref (51)), some (.int (x1)), some (.int (x2)), some (.int (x3))]) (st' := [.int (x2)]) rfl rfl ?_
  cases hc4 : F_32 x2 with
  | none => rw [hc4] at h; cases h
  | some c4 =>
    rw [hc4] at h
    dsimp only at h
    have hq4 := T_32 (X := X) (d := d) (by omega) (M := M) hc4
    refine Rc.callS tb_28 rfl rfl rfl mS_32 mP_32 mL_32 rfl rfl rfl hq4 ?_
    refine Rc.run tb_28 3 (pc' := 21) (ls' := [some (.ref (51)), some (.int (x1)), some (.int (c4)), some (.int (x3 + 1))]) (st' := []) rfl rfl ?_
    refine Rc.mask (b := 15) ((tb_28.2 21).trans rfl) (ls' := [some (.ref (51)), some (.int (x1)), some (.int (c4)), some (.int (x3 + 1))]) rfl ?_
    obtain rfl := Option.some.inj h
    exact hP _ rfl
theorem TB_28_21 {X : AX} {d : Nat} (hd : 65 ≤ d) {x1 : Int32} {v : Option Value} {M' : IM} : ∀ (s : Int32 × Int32 × IM) (o : (Int32 × Int32 × IM) ⊕ ((Int32 × Int32 × IM) ⊕ (Int32 × IM))), B_28_21 x1 s = some o → (∀ s', o = .inl s' → (fun (x2, x3, M) => Rc X d 28 21 [some (.ref (51)), some (.int (x1)), some (.int (x2)), some (.int (x3))] [] M v M') s') → (∀ r, o = .inr r → (fun r => match r with | .inl (x2, x3, M) => Rc X d 28 71 [some (.ref (51)), some (.int (x1)), none, none] [] M v M' | .inr q => v = some (.int q.1) ∧ M' = q.2) r) → (fun (x2, x3, M) => Rc X d 28 21 [some (.ref (51)), some (.int (x1)), some (.int (x2)), some (.int (x3))] [] M v M') s := by
  rintro ⟨x2, x3, M⟩ o h hP hE
  show Rc X d 28 21 [some (.ref (51)), some (.int (x1)), some (.int (x2)), some (.int (x3))] [] M v M'
  obtain ⟨d, rfl⟩ : ∃ e, d = e + 1 := ⟨d - 1, by omega⟩
  unfold B_28_21 at h
  dsimp only at h hP hE
  refine Rc.run tb_28 2 (pc' := 25) (ls' := [some (.ref (51)), some (.int (x1)), some (.int (x2)), some (.int (x3))]) (st' := [.int (4095), .int (x3)]) rfl rfl ?_
  refine Rc.icmp_ge (pc1 := 71) tb_28 rfl rfl (by decide) (by decide) (fun hb8 => ?_) (fun hb8 => ?_)
  · rw [if_pos hb8] at h
    refine Rc.mask (b := 3) ((tb_28.2 71).trans rfl) (ls' := [some (.ref (51)), some (.int (x1)), none, none]) rfl ?_
    obtain rfl := Option.some.inj h
    exact hE _ rfl
  · rw [if_neg hb8] at h
    refine Rc.run tb_28 2 (pc' := 32) (ls' := [some (.ref (51)), some (.int (x1)), some (.int (x2)), some (.int (x3))]) (st' := [.int (4095), .int (x2)]) rfl rfl ?_
    refine Rc.icmp_gt (pc1 := 71) tb_28 rfl rfl (by decide) (by decide) (fun hb7 => ?_) (fun hb7 => ?_)
    · rw [if_pos hb7] at h
      refine Rc.mask (b := 3) ((tb_28.2 71).trans rfl) (ls' := [some (.ref (51)), some (.int (x1)), none, none]) rfl ?_
      obtain rfl := Option.some.inj h
      exact hE _ rfl
    · rw [if_neg hb7] at h
      refine Rc.run tb_28 2 (pc' := 37) (ls' := [some (.ref (51)), some (.int (x1)), some (.int (x2)), some (.int (x3))]) (st' := [.int (x2), .ref (51)]) rfl rfl ?_
      cases hc1 : F_29 x2 M with
      | none => rw [hc1] at h; cases h
      | some c1 =>
        rw [hc1] at h
        dsimp only at h
        have hq1 := T_29 (X := X) (d := d) (by omega) (M := M) hc1
        have hz1 := Rc.bool mR_29 hq1
        refine Rc.callV tb_28 rfl rfl rfl mS_29 mP_29 mL_29 mO_29 rfl rfl ob_51 rfl rfl hq1 ?_
        refine Rc.if_ne (pc1 := 60) tb_28 rfl rfl (by decide) (by decide) (fun hb6 => ?_) (fun hb6 => ?_)
        · rw [if_pos hb6] at h
          refine Rc.run tb_28 4 (pc' := 47) (ls' := [some (.ref (51)), some (.int (x1)), some (.int (x2)), some (.int (x3))]) (st' := [.int (x2), .int (0), .int (0), .ref (51)]) rfl rfl ?_
          cases hc2 : K_26 (0 : Int32) (0 : Int32) x2 M with
          | none => rw [hc2] at h; cases h
          | some r2 =>
            obtain ⟨c2, M2⟩ := r2
            rw [hc2] at h
            dsimp only at h
            have hq2 := TK_26 (X := X) (d := d) (by omega) (M := M) hc2
            have hz2 := Rc.bool mR_26 hq2
            refine Rc.callV tb_28 rfl rfl rfl mS_26 mP_26 mL_26 mO_26 rfl rfl ob_51 rfl rfl hq2 ?_
            refine Rc.if_ne (pc1 := 55) tb_28 rfl rfl (by decide) (by decide) (fun hb5 => ?_) (fun hb5 => ?_)
            · rw [if_pos hb5] at h
              refine Rc.run tb_28 1 (pc' := 54) (ls' := [some (.ref (51)), some (.int (x1)), some (.int (x2)), some (.int (x3))]) (st' := [.int (x2)]) rfl rfl ?_
              obtain rfl := Option.some.inj h
              obtain ⟨rfl, rfl⟩ := hE _ rfl
              exact Rc.iret (ins := .ireturn) tb_28 rfl mR_28
            · rw [if_neg hb5] at h
              refine Rc.run tb_28 2 (pc' := 57) (ls' := [some (.ref (51)), some (.int (x1)), some (.int (x2)), some (.int (x3))]) (st' := [.int (x2), .ref (51)]) rfl rfl ?_
              cases hc3 : F_30 x2 M2 with
              | none => rw [hc3] at h; cases h
              | some M3 =>
                rw [hc3] at h
                dsimp only at h
                have hq3 := T_30 (X := X) (d := d) (by omega) (M := M2) hc3
                refine Rc.callV tb_28 rfl rfl rfl mS_30 mP_30 mL_30 mO_30 rfl rfl ob_51 rfl rfl hq3 ?_
                refine Rc.mask (b := 15) ((tb_28.2 60).trans rfl) (ls' := [some (.ref (51)), some (.int (x1)), some (.int (x2)), some (.int (x3))]) rfl ?_
                exact TJ_28_60_21 (X := X) (d := d + 1) (by omega) h hP hE
        · rw [if_neg hb6] at h
          refine Rc.mask (b := 15) ((tb_28.2 60).trans rfl) (ls' := [some (.ref (51)), some (.int (x1)), some (.int (x2)), some (.int (x3))]) rfl ?_
          exact TJ_28_60_21 (X := X) (d := d + 1) (by omega) h hP hE
theorem TL_28_21 {X : AX} {d : Nat} (hd : 65 ≤ d) {x1 : Int32} {x2 : Int32} {x3 : Int32} {M : IM} {v : Option Value} {M' : IM} {r : (Int32 × Int32 × IM) ⊕ (Int32 × IM)} (h : L_28_21 x1 x2 x3 M = some r) (hE : (fun r => match r with | .inl (x2, x3, M) => Rc X d 28 71 [some (.ref (51)), some (.int (x1)), none, none] [] M v M' | .inr q => v = some (.int q.1) ∧ M' = q.2) r) : Rc X d 28 21 [some (.ref (51)), some (.int (x1)), some (.int (x2)), some (.int (x3))] [] M v M' := by
  exact loopN_rc (P := fun (x2, x3, M) => Rc X d 28 21 [some (.ref (51)), some (.int (x1)), some (.int (x2)), some (.int (x3))] [] M v M') (E := fun r => match r with | .inl (x2, x3, M) => Rc X d 28 71 [some (.ref (51)), some (.int (x1)), none, none] [] M v M' | .inr q => v = some (.int q.1) ∧ M' = q.2) (TB_28_21 (X := X) hd) FU _ r h hE
theorem TJ_28_71_7 {X : AX} {d : Nat} (hd : 65 ≤ d) {x1 : Int32} {M : IM} {v : Option Value} {M' : IM} {o : (Int32 × IM) ⊕ ((Int32 × IM) ⊕ (Int32 × IM))} (h : J_28_71_7 x1 M = some o) (hP : ∀ s', o = .inl s' → (fun (x1, M) => Rc X d 28 7 [some (.ref (51)), some (.int (x1)), none, none] [] M v M') s') (hE : ∀ r, o = .inr r → (fun r => match r with | .inl (x1, M) => Rc X d 28 77 [none, none, none, none] [] M v M' | .inr q => v = some (.int q.1) ∧ M' = q.2) r) : Rc X d 28 71 [some (.ref (51)), some (.int (x1)), none, none] [] M v M' := by
  obtain ⟨d, rfl⟩ : ∃ e, d = e + 1 := ⟨d - 1, by omega⟩
  unfold J_28_71_7 at h
  dsimp only at hP hE
  refine Rc.run tb_28 2 (pc' := 7) (ls' := [some (.ref (51)), some (.int (x1 + 1)), none, none]) (st' := []) rfl rfl ?_
  refine Rc.mask (b := 3) ((tb_28.2 7).trans rfl) (ls' := [some (.ref (51)), some (.int (x1 + 1)), none, none]) rfl ?_
  obtain rfl := Option.some.inj h
  exact hP _ rfl
theorem TB_28_7 {X : AX} {d : Nat} (hd : 65 ≤ d) {v : Option Value} {M' : IM} : ∀ (s : Int32 × IM) (o : (Int32 × IM) ⊕ ((Int32 × IM) ⊕ (Int32 × IM))), B_28_7 s = some o → (∀ s', o = .inl s' → (fun (x1, M) => Rc X d 28 7 [some (.ref (51)), some (.int (x1)), none, none] [] M v M') s') → (∀ r, o = .inr r → (fun r => match r with | .inl (x1, M) => Rc X d 28 77 [none, none, none, none] [] M v M' | .inr q => v = some (.int q.1) ∧ M' = q.2) r) → (fun (x1, M) => Rc X d 28 7 [some (.ref (51)), some (.int (x1)), none, none] [] M v M') s := by
  rintro ⟨x1, M⟩ o h hP hE
  show Rc X d 28 7 [some (.ref (51)), some (.int (x1)), none, none] [] M v M'
  obtain ⟨d, rfl⟩ : ∃ e, d = e + 1 := ⟨d - 1, by omega⟩
  unfold B_28_7 at h
  dsimp only at h hP hE
  refine Rc.run tb_28 2 (pc' := 10) (ls' := [some (.ref (51)), some (.int (x1)), none, none]) (st' := [.int (12), .int (x1)]) rfl rfl ?_
  refine Rc.icmp_ge (pc1 := 77) tb_28 rfl rfl (by decide) (by decide) (fun hb10 => ?_) (fun hb10 => ?_)
  · rw [if_pos hb10] at h
    refine Rc.mask (b := 0) ((tb_28.2 77).trans rfl) (ls' := [none, none, none, none]) rfl ?_
    obtain rfl := Option.some.inj h
    exact hE _ rfl
  · rw [if_neg hb10] at h
    refine Rc.run tb_28 8 (pc' := 21) (ls' := [some (.ref (51)), some (.int (x1)), some (.int (((1 : Int32) <<< (x1 &&& 31)) - 1)), some (.int (0))]) (st' := []) rfl rfl ?_
    refine Rc.mask (b := 15) ((tb_28.2 21).trans rfl) (ls' := [some (.ref (51)), some (.int (x1)), some (.int (((1 : Int32) <<< (x1 &&& 31)) - 1)), some (.int (0))]) rfl ?_
    cases hl9 : L_28_21 x1 (((1 : Int32) <<< (x1 &&& 31)) - 1) 0 M with
    | none => rw [hl9] at h; cases h
    | some rr9 =>
      rw [hl9] at h
      cases rr9 with
      | inl r9 =>
        obtain ⟨x2_9, x3_9, M9⟩ := r9
        dsimp only at h
        refine TL_28_21 (X := X) (d := d + 1) (by omega) hl9 ?_
        refine Rc.mask (b := 3) ((tb_28.2 71).trans rfl) (ls' := [some (.ref (51)), some (.int (x1)), none, none]) rfl ?_
        exact TJ_28_71_7 (X := X) (d := d + 1) (by omega) h hP hE
      | inr q =>
        dsimp only at h
        refine TL_28_21 (X := X) (d := d + 1) (by omega) hl9 ?_
        obtain rfl := Option.some.inj h
        obtain ⟨rfl, rfl⟩ := hE _ rfl
        exact ⟨rfl, rfl⟩
theorem TL_28_7 {X : AX} {d : Nat} (hd : 65 ≤ d) {x1 : Int32} {M : IM} {v : Option Value} {M' : IM} {r : (Int32 × IM) ⊕ (Int32 × IM)} (h : L_28_7 x1 M = some r) (hE : (fun r => match r with | .inl (x1, M) => Rc X d 28 77 [none, none, none, none] [] M v M' | .inr q => v = some (.int q.1) ∧ M' = q.2) r) : Rc X d 28 7 [some (.ref (51)), some (.int (x1)), none, none] [] M v M' := by
  exact loopN_rc (P := fun (x1, M) => Rc X d 28 7 [some (.ref (51)), some (.int (x1)), none, none] [] M v M') (E := fun r => match r with | .inl (x1, M) => Rc X d 28 77 [none, none, none, none] [] M v M' | .inr q => v = some (.int q.1) ∧ M' = q.2) (TB_28_7 (X := X) hd) FU _ r h hE
theorem TF_28 {X : AX} {d : Nat} (hd : 65 ≤ d) {M : IM} {v : Option Value} {M' : IM} {o : Int32 × IM} (h : F_28 M = some o) (hC : v = some (.int o.1) ∧ M' = o.2) : Rc X d 28 0 [some (.ref (51)), none, none, none] [] M v M' := by
  obtain ⟨d, rfl⟩ : ∃ e, d = e + 1 := ⟨d - 1, by omega⟩
  unfold F_28 at h
  refine Rc.run tb_28 2 (pc' := 2) (ls' := [some (.ref (51)), none, none, none]) (st' := [.int (0), .ref (51)]) rfl rfl ?_
  refine Rc.putI tb_28 rfl rfl ob_51 (by decide +kernel) tg_51_5 rfl ?_
  refine Rc.run tb_28 2 (pc' := 7) (ls' := [some (.ref (51)), some (.int (1)), none, none]) (st' := []) rfl rfl ?_
  refine Rc.mask (b := 3) ((tb_28.2 7).trans rfl) (ls' := [some (.ref (51)), some (.int (1)), none, none]) rfl ?_
  cases hl11 : L_28_7 1 (iset M 51 5 0) with
  | none => rw [hl11] at h; cases h
  | some rr11 =>
    rw [hl11] at h
    cases rr11 with
    | inl r11 =>
      obtain ⟨x1_11, M11⟩ := r11
      dsimp only at h
      refine TL_28_7 (X := X) (d := d + 1) (by omega) hl11 ?_
      refine Rc.run tb_28 1 (pc' := 80) (ls' := [none, none, none, none]) (st' := [.int (4095)]) rfl rfl ?_
      obtain rfl := Option.some.inj h
      obtain ⟨rfl, rfl⟩ := hC
      exact Rc.iret (ins := .ireturn) tb_28 rfl mR_28
    | inr q =>
      dsimp only at h
      refine TL_28_7 (X := X) (d := d + 1) (by omega) hl11 ?_
      obtain rfl := Option.some.inj h
      obtain ⟨rfl, rfl⟩ := hC
      exact ⟨rfl, rfl⟩
theorem T_28 {X : AX} {d : Nat} (hd : 65 ≤ d) {M : IM} {x : Int32} {M1 : IM} (h : F_28 M = some (x, M1)) : Rc X d 28 0 [some (.ref (51)), none, none, none] [] M (some (.int x)) M1 := TF_28 hd h ⟨rfl, rfl⟩
/-! 54: NineDemands$Tally.walk -/
def J_54_79_36 (rk : Int32 → Int32 → IM → Option (IM)) (x1 : Int32) (x2 : Int32) (x3 : Int32) (x4 : Int32) (x5 : Int32) (M : IM) : Option ((Int32 × IM) ⊕ (Int32 × IM)) := some (Sum.inl (x5 + 1, M))
def B_54_36 (rk : Int32 → Int32 → IM → Option (IM)) (x1 : Int32) (x2 : Int32) (x3 : Int32) (x4 : Int32) : (Int32 × IM) → Option ((Int32 × IM) ⊕ (Int32 × IM)) := fun (x5, M) => if (3 : Int32) < x5 then (some (Sum.inr (x5, M))) else (if F_143 x4 x5 = 0 then (J_54_79_36 rk x1 x2 x3 x4 x5 M) else (match F_55 x1 x3 x5 M with | none => none | some (c2, M2) => (if c2 = 0 then (J_54_79_36 rk x1 x2 x3 x4 x5 M2) else (match F_52 x3 x5 M2 with | none => none | some c3 => (match rk (x1 + 1) (x2 + c3) M2 with | none => none | some M4 => (J_54_79_36 rk x1 x2 x3 x4 x5 M4))))))
def L_54_36 (rk : Int32 → Int32 → IM → Option (IM)) (x1 : Int32) (x2 : Int32) (x3 : Int32) (x4 : Int32) (x5 : Int32) (M : IM) : Option (Int32 × IM) := loopN (B_54_36 rk x1 x2 x3 x4) FU (x5, M)
def F_54 (rk : Int32 → Int32 → IM → Option (IM)) (a1 : Int32) (a2 : Int32) (M : IM) : Option (IM) := if a1 < 6 then (if inb a1 6 = true then (if inb ((a1 * 12) + (sT 5 a1.toNatClampNeg)) 84 = true then (match L_54_36 rk a1 a2 (sT 5 a1.toNatClampNeg) (M 56 ((a1 * 12) + (sT 5 a1.toNatClampNeg)).toNatClampNeg) 1 M with | none => none | some (x5_8, M8) => (some (M8))) else none) else none) else (match F_56 a2 M with | none => none | some M11 => (some (M11)))
theorem TJ_54_79_36 (Dk : Nat) (rk : Int32 → Int32 → IM → Option (IM)) (Hk : ∀ {X : AX} {d : Nat}, Dk ≤ d → ∀ {a1 : Int32} {a2 : Int32} {M : IM} {M1 : IM}, rk a1 a2 M = some M1 → Rc X d 54 0 [some (.ref (50)), some (.int (a1)), some (.int (a2)), none, none, none] [] M none M1) {X : AX} {d : Nat} (hd : Dk + 3 ≤ d) {x1 : Int32} {x2 : Int32} {x3 : Int32} {x4 : Int32} {x5 : Int32} {M : IM} {v : Option Value} {M' : IM} {o : (Int32 × IM) ⊕ (Int32 × IM)} (h : J_54_79_36 rk x1 x2 x3 x4 x5 M = some o) (hP : ∀ s', o = .inl s' → (fun (x5, M) => Rc X d 54 36 [some (.ref (50)), some (.int (x1)), some (.int (x2)), some (.int (x3)), some (.int (x4)), some (.int (x5))] [] M v M') s') (hE : ∀ r, o = .inr r → (fun (x5, M) => Rc X d 54 85 [none, none, none, none, none, none] [] M v M') r) : Rc X d 54 79 [some (.ref (50)), some (.int (x1)), some (.int (x2)), some (.int (x3)), some (.int (x4)), some (.int (x5))] [] M v M' := by
  obtain ⟨d, rfl⟩ : ∃ e, d = e + 1 := ⟨d - 1, by omega⟩
  unfold J_54_79_36 at h
  dsimp only at hP hE
  refine Rc.run tb_54 2 (pc' := 36) (ls' := [some (.ref (50)), some (.int (x1)), some (.int (x2)), some (.int (x3)), some (.int (x4)), some (.int (x5 + 1))]) (st' := []) rfl rfl ?_
  refine Rc.mask (b := 63) ((tb_54.2 36).trans rfl) (ls' := [some (.ref (50)), some (.int (x1)), some (.int (x2)), some (.int (x3)), some (.int (x4)), some (.int (x5 + 1))]) rfl ?_
  obtain rfl := Option.some.inj h
  exact hP _ rfl
theorem TB_54_36 (Dk : Nat) (rk : Int32 → Int32 → IM → Option (IM)) (Hk : ∀ {X : AX} {d : Nat}, Dk ≤ d → ∀ {a1 : Int32} {a2 : Int32} {M : IM} {M1 : IM}, rk a1 a2 M = some M1 → Rc X d 54 0 [some (.ref (50)), some (.int (a1)), some (.int (a2)), none, none, none] [] M none M1) {X : AX} {d : Nat} (hd : Dk + 3 ≤ d) {x1 : Int32} {x2 : Int32} {x3 : Int32} {x4 : Int32} {v : Option Value} {M' : IM} : ∀ (s : Int32 × IM) (o : (Int32 × IM) ⊕ (Int32 × IM)), B_54_36 rk x1 x2 x3 x4 s = some o → (∀ s', o = .inl s' → (fun (x5, M) => Rc X d 54 36 [some (.ref (50)), some (.int (x1)), some (.int (x2)), some (.int (x3)), some (.int (x4)), some (.int (x5))] [] M v M') s') → (∀ r, o = .inr r → (fun (x5, M) => Rc X d 54 85 [none, none, none, none, none, none] [] M v M') r) → (fun (x5, M) => Rc X d 54 36 [some (.ref (50)), some (.int (x1)), some (.int (x2)), some (.int (x3)), some (.int (x4)), some (.int (x5))] [] M v M') s := by
  rintro ⟨x5, M⟩ o h hP hE
  show Rc X d 54 36 [some (.ref (50)), some (.int (x1)), some (.int (x2)), some (.int (x3)), some (.int (x4)), some (.int (x5))] [] M v M'
  obtain ⟨d, rfl⟩ : ∃ e, d = e + 1 := ⟨d - 1, by omega⟩
  unfold B_54_36 at h
  dsimp only at h hP hE
  refine Rc.run tb_54 2 (pc' := 39) (ls' := [some (.ref (50)), some (.int (x1)), some (.int (x2)), some (.int (x3)), some (.int (x4)), some (.int (x5))]) (st' := [.int (3), .int (x5)]) rfl rfl ?_
  refine Rc.icmp_gt (pc1 := 85) tb_54 rfl rfl (by decide) (by decide) (fun hb7 => ?_) (fun hb7 => ?_)
  · rw [if_pos hb7] at h
    refine Rc.mask (b := 0) ((tb_54.2 85).trans rfl) (ls' := [none, none, none, none, none, none]) rfl ?_
    obtain rfl := Option.some.inj h
    exact hE _ rfl
  · rw [if_neg hb7] at h
    refine Rc.run tb_54 2 (pc' := 46) (ls' := [some (.ref (50)), some (.int (x1)), some (.int (x2)), some (.int (x3)), some (.int (x4)), some (.int (x5))]) (st' := [.int (x5), .int (x4)]) rfl rfl ?_
    have hq1 := T_143 (X := X) (d := d) (by omega) x4 x5 M
    have hz1 := Rc.bool mR_143 hq1
    refine Rc.callS tb_54 rfl rfl rfl mS_143 mP_143 mL_143 rfl rfl rfl hq1 ?_
    refine Rc.if_eq (pc1 := 79) tb_54 rfl rfl (by decide) (by decide) (fun hb6 => ?_) (fun hb6 => ?_)
    · rw [if_pos hb6] at h
      refine Rc.mask (b := 63) ((tb_54.2 79).trans rfl) (ls' := [some (.ref (50)), some (.int (x1)), some (.int (x2)), some (.int (x3)), some (.int (x4)), some (.int (x5))]) rfl ?_
      exact TJ_54_79_36 Dk rk Hk (X := X) (d := d + 1) (by omega) h hP hE
    · rw [if_neg hb6] at h
      refine Rc.run tb_54 4 (pc' := 57) (ls' := [some (.ref (50)), some (.int (x1)), some (.int (x2)), some (.int (x3)), some (.int (x4)), some (.int (x5))]) (st' := [.int (x5), .int (x3), .int (x1), .ref (50)]) rfl rfl ?_
      cases hc2 : F_55 x1 x3 x5 M with
      | none => rw [hc2] at h; cases h
      | some r2 =>
        obtain ⟨c2, M2⟩ := r2
        rw [hc2] at h
        dsimp only at h
        have hq2 := T_55 (X := X) (d := d) (by omega) (M := M) hc2
        have hz2 := Rc.bool mR_55 hq2
        refine Rc.callV tb_54 rfl rfl rfl mS_55 mP_55 mL_55 mO_55 rfl rfl ob_50 rfl rfl hq2 ?_
        refine Rc.if_eq (pc1 := 79) tb_54 rfl rfl (by decide) (by decide) (fun hb5 => ?_) (fun hb5 => ?_)
        · rw [if_pos hb5] at h
          refine Rc.mask (b := 63) ((tb_54.2 79).trans rfl) (ls' := [some (.ref (50)), some (.int (x1)), some (.int (x2)), some (.int (x3)), some (.int (x4)), some (.int (x5))]) rfl ?_
          exact TJ_54_79_36 Dk rk Hk (X := X) (d := d + 1) (by omega) h hP hE
        · rw [if_neg hb5] at h
          refine Rc.run tb_54 8 (pc' := 72) (ls' := [some (.ref (50)), some (.int (x1)), some (.int (x2)), some (.int (x3)), some (.int (x4)), some (.int (x5))]) (st' := [.int (x5), .int (x3), .ref (50), .int (x2), .int (x1 + 1), .ref (50)]) rfl rfl ?_
          cases hc3 : F_52 x3 x5 M2 with
          | none => rw [hc3] at h; cases h
          | some c3 =>
            rw [hc3] at h
            dsimp only at h
            have hq3 := T_52 (X := X) (d := d) (by omega) (M := M2) hc3
            refine Rc.callV tb_54 rfl rfl rfl mS_52 mP_52 mL_52 mO_52 rfl rfl ob_50 rfl rfl hq3 ?_
            refine Rc.run tb_54 1 (pc' := 76) (ls' := [some (.ref (50)), some (.int (x1)), some (.int (x2)), some (.int (x3)), some (.int (x4)), some (.int (x5))]) (st' := [.int (x2 + c3), .int (x1 + 1), .ref (50)]) rfl rfl ?_
            cases hc4 : rk (x1 + 1) (x2 + c3) M2 with
            | none => rw [hc4] at h; cases h
            | some M4 =>
              rw [hc4] at h
              dsimp only at h
              have hq4 := Hk (X := X) (d := d) (by omega) (M := M2) hc4
              refine Rc.callV tb_54 rfl rfl rfl mS_54 mP_54 mL_54 mO_54 rfl rfl ob_50 rfl rfl hq4 ?_
              refine Rc.mask (b := 63) ((tb_54.2 79).trans rfl) (ls' := [some (.ref (50)), some (.int (x1)), some (.int (x2)), some (.int (x3)), some (.int (x4)), some (.int (x5))]) rfl ?_
              exact TJ_54_79_36 Dk rk Hk (X := X) (d := d + 1) (by omega) h hP hE
theorem TL_54_36 (Dk : Nat) (rk : Int32 → Int32 → IM → Option (IM)) (Hk : ∀ {X : AX} {d : Nat}, Dk ≤ d → ∀ {a1 : Int32} {a2 : Int32} {M : IM} {M1 : IM}, rk a1 a2 M = some M1 → Rc X d 54 0 [some (.ref (50)), some (.int (a1)), some (.int (a2)), none, none, none] [] M none M1) {X : AX} {d : Nat} (hd : Dk + 3 ≤ d) {x1 : Int32} {x2 : Int32} {x3 : Int32} {x4 : Int32} {x5 : Int32} {M : IM} {v : Option Value} {M' : IM} {r : Int32 × IM} (h : L_54_36 rk x1 x2 x3 x4 x5 M = some r) (hE : (fun (x5, M) => Rc X d 54 85 [none, none, none, none, none, none] [] M v M') r) : Rc X d 54 36 [some (.ref (50)), some (.int (x1)), some (.int (x2)), some (.int (x3)), some (.int (x4)), some (.int (x5))] [] M v M' := by
  exact loopN_rc (P := fun (x5, M) => Rc X d 54 36 [some (.ref (50)), some (.int (x1)), some (.int (x2)), some (.int (x3)), some (.int (x4)), some (.int (x5))] [] M v M') (E := fun (x5, M) => Rc X d 54 85 [none, none, none, none, none, none] [] M v M') (TB_54_36 Dk rk Hk (X := X) hd) FU _ r h hE
theorem TF_54 (Dk : Nat) (rk : Int32 → Int32 → IM → Option (IM)) (Hk : ∀ {X : AX} {d : Nat}, Dk ≤ d → ∀ {a1 : Int32} {a2 : Int32} {M : IM} {M1 : IM}, rk a1 a2 M = some M1 → Rc X d 54 0 [some (.ref (50)), some (.int (a1)), some (.int (a2)), none, none, none] [] M none M1) {X : AX} {d : Nat} (hd : Dk + 3 ≤ d) {a1 : Int32} {a2 : Int32} {M : IM} {v : Option Value} {M' : IM} {o : IM} (h : F_54 rk a1 a2 M = some o) (hC : v = none ∧ M' = o) : Rc X d 54 0 [some (.ref (50)), some (.int (a1)), some (.int (a2)), none, none, none] [] M v M' := by
  obtain ⟨d, rfl⟩ : ∃ e, d = e + 1 := ⟨d - 1, by omega⟩
  unfold F_54 at h
  refine Rc.run tb_54 2 (pc' := 4) (ls' := [some (.ref (50)), some (.int (a1)), some (.int (a2)), none, none, none]) (st' := [.ref (1005), .int (a1)]) rfl rfl ?_
  refine Rc.slen tb_54 rfl rfl (q := 5) (n := 6) (x := 6) (by decide) (by decide +kernel) ?_
  refine Rc.icmp_lt (pc1 := 14) tb_54 rfl rfl (by decide) (by decide) (fun hb12 => ?_) (fun hb12 => ?_)
  · rw [if_pos hb12] at h
    refine Rc.run tb_54 2 (pc' := 18) (ls' := [some (.ref (50)), some (.int (a1)), some (.int (a2)), none, none, none]) (st' := [.int (a1), .ref (1005)]) rfl rfl ?_
    by_cases hb10 : inb a1 6 = true
    · rw [if_pos hb10] at h
      refine Rc.sald tb_54 rfl rfl (q := 5) (by decide) hb10 ?_
      refine Rc.run tb_54 2 (pc' := 21) (ls' := [some (.ref (50)), some (.int (a1)), some (.int (a2)), some (.int (sT 5 a1.toNatClampNeg)), none, none]) (st' := [.ref (50)]) rfl rfl ?_
      refine Rc.getR tb_54 rfl rfl ob_50 (by decide +kernel) tg_50_2 (by decide) ?_
      refine Rc.run tb_54 5 (pc' := 30) (ls' := [some (.ref (50)), some (.int (a1)), some (.int (a2)), some (.int (sT 5 a1.toNatClampNeg)), none, none]) (st' := [.int ((a1 * 12) + (sT 5 a1.toNatClampNeg)), .ref (56)]) rfl rfl ?_
      by_cases hb9 : inb ((a1 * 12) + (sT 5 a1.toNatClampNeg)) 84 = true
      · rw [if_pos hb9] at h
        refine Rc.iald tb_54 rfl rfl ia_56 hb9 ?_
        refine Rc.run tb_54 3 (pc' := 36) (ls' := [some (.ref (50)), some (.int (a1)), some (.int (a2)), some (.int (sT 5 a1.toNatClampNeg)), some (.int (M 56 ((a1 * 12) + (sT 5 a1.toNatClampNeg)).toNatClampNeg)), some (.int (1))]) (st' := []) rfl rfl ?_
        refine Rc.mask (b := 63) ((tb_54.2 36).trans rfl) (ls' := [some (.ref (50)), some (.int (a1)), some (.int (a2)), some (.int (sT 5 a1.toNatClampNeg)), some (.int (M 56 ((a1 * 12) + (sT 5 a1.toNatClampNeg)).toNatClampNeg)), some (.int (1))]) rfl ?_
        cases hl8 : L_54_36 rk a1 a2 (sT 5 a1.toNatClampNeg) (M 56 ((a1 * 12) + (sT 5 a1.toNatClampNeg)).toNatClampNeg) 1 M with
        | none => rw [hl8] at h; cases h
        | some r8 =>
          obtain ⟨x5_8, M8⟩ := r8
          rw [hl8] at h
          dsimp only at h
          refine TL_54_36 Dk rk Hk (X := X) (d := d + 1) (by omega) hl8 ?_
          obtain rfl := Option.some.inj h
          obtain ⟨rfl, rfl⟩ := hC
          exact Rc.vret tb_54 rfl mR_54
      · rw [if_neg hb9] at h
        cases h
    · rw [if_neg hb10] at h
      cases h
  · rw [if_neg hb12] at h
    refine Rc.run tb_54 2 (pc' := 10) (ls' := [some (.ref (50)), some (.int (a1)), some (.int (a2)), none, none, none]) (st' := [.int (a2), .ref (50)]) rfl rfl ?_
    cases hc11 : F_56 a2 M with
    | none => rw [hc11] at h; cases h
    | some M11 =>
      rw [hc11] at h
      dsimp only at h
      have hq11 := T_56 (X := X) (d := d) (by omega) (M := M) hc11
      refine Rc.callV tb_54 rfl rfl rfl mS_56 mP_56 mL_56 mO_56 rfl rfl ob_50 rfl rfl hq11 ?_
      obtain rfl := Option.some.inj h
      obtain ⟨rfl, rfl⟩ := hC
      exact Rc.vret tb_54 rfl mR_54
theorem T_54 (Dk : Nat) (rk : Int32 → Int32 → IM → Option (IM)) (Hk : ∀ {X : AX} {d : Nat}, Dk ≤ d → ∀ {a1 : Int32} {a2 : Int32} {M : IM} {M1 : IM}, rk a1 a2 M = some M1 → Rc X d 54 0 [some (.ref (50)), some (.int (a1)), some (.int (a2)), none, none, none] [] M none M1) {X : AX} {d : Nat} (hd : Dk + 3 ≤ d) {a1 : Int32} {a2 : Int32} {M : IM} {M1 : IM} (h : F_54 rk a1 a2 M = some M1) : Rc X d 54 0 [some (.ref (50)), some (.int (a1)), some (.int (a2)), none, none, none] [] M none M1 := TF_54 Dk rk Hk hd h ⟨rfl, rfl⟩
def KK_54 : Nat → Int32 → Int32 → IM → Option (IM)
  | 0, _, _, _ => none
  | k + 1, a1, a2, M => F_54 (KK_54 k) a1 a2 M
theorem TKK_54 : ∀ (k : Nat), ∀ {X : AX} {d : Nat}, k * 3 ≤ d → ∀ {a1 : Int32} {a2 : Int32} {M : IM} {M1 : IM}, KK_54 k a1 a2 M = some M1 → Rc X d 54 0 [some (.ref (50)), some (.int (a1)), some (.int (a2)), none, none, none] [] M none M1
  | 0 => by intros; rename_i h; cases h
  | k + 1 => by intro hd; intros; rename_i h; exact T_54 (k * 3) (KK_54 k) (@TKK_54 k) (by omega) h
def K_54 (a1 : Int32) (a2 : Int32) (M : IM) : Option (IM) := KK_54 64 a1 a2 M
theorem TK_54 {X : AX} {d : Nat} (hd : 192 ≤ d)  {a1 : Int32} {a2 : Int32} {M : IM} {M1 : IM} (h : K_54 a1 a2 M = some M1) : Rc X d 54 0 [some (.ref (50)), some (.int (a1)), some (.int (a2)), none, none, none] [] M none M1 := TKK_54 64 (by omega) h
/-! 48: NineDemands$Tally.reckon -/
def F_48 (r1 : Nat) (M : IM) : Option (IM) := if cpok (ln r1) (0 : Int32) 12 (0 : Int32) (12 : Int32) = true then (match F_49 (iset (iset (icpy (icpy M r1 (0 : Int32).toNatClampNeg 57 (0 : Int32).toNatClampNeg (12 : Int32).toNatClampNeg) 53 (0 : Int32).toNatClampNeg 56 (0 : Int32).toNatClampNeg (12 : Int32).toNatClampNeg) 50 8 0) 50 9 99) with | none => none | some (c1, M1) => (if c1 = 0 then (some (M1)) else (match F_51 (1 : Int32) (2 : Int32) 58 59 M1 with | none => none | some M2 => (match F_51 (4 : Int32) (11 : Int32) 60 61 M2 with | none => none | some M3 => (match K_54 (0 : Int32) (0 : Int32) M3 with | none => none | some M4 => (some (iset M4 50 8 ((M4 50 8) * c1)))))))) else none
theorem TF_48 {X : AX} {d : Nat} (hd : 193 ≤ d) {r1 : Nat} {M : IM} (hr1 : IA r1) {v : Option Value} {M' : IM} {o : IM} (h : F_48 r1 M = some o) (hC : v = none ∧ M' = o) : Rc X d 48 0 [some (.ref (50)), some (.ref (r1)), none] [] M v M' := by
  obtain ⟨d, rfl⟩ : ∃ e, d = e + 1 := ⟨d - 1, by omega⟩
  unfold F_48 at h
  refine Rc.run tb_48 3 (pc' := 3) (ls' := [some (.ref (50)), some (.ref (r1)), none]) (st' := [.ref (50), .int (0), .ref (r1)]) rfl rfl ?_
  refine Rc.getR tb_48 rfl rfl ob_50 (by decide +kernel) tg_50_3 (by decide) ?_
  refine Rc.run tb_48 2 (pc' := 9) (ls' := [some (.ref (50)), some (.ref (r1)), none]) (st' := [.int (12), .int (0), .ref (57), .int (0), .ref (r1)]) rfl rfl ?_
  by_cases hb6 : cpok (ln r1) (0 : Int32) 12 (0 : Int32) (12 : Int32) = true
  · rw [if_pos hb6] at h
    refine Rc.copy tb_48 rfl rfl rfl (IA.n hr1) ia_57 hb6 ?_
    refine Rc.run tb_48 1 (pc' := 13) (ls' := [some (.ref (50)), some (.ref (r1)), none]) (st' := [.ref (50)]) rfl rfl ?_
    refine Rc.getR tb_48 rfl rfl ob_50 (by decide +kernel) tg_50_0 (by decide) ?_
    refine Rc.getR tb_48 rfl rfl ob_51 (by decide +kernel) tg_51_1 (by decide) ?_
    refine Rc.run tb_48 2 (pc' := 21) (ls' := [some (.ref (50)), some (.ref (r1)), none]) (st' := [.ref (50), .int (0), .ref (53)]) rfl rfl ?_
    refine Rc.getR tb_48 rfl rfl ob_50 (by decide +kernel) tg_50_2 (by decide) ?_
    refine Rc.run tb_48 2 (pc' := 27) (ls' := [some (.ref (50)), some (.ref (r1)), none]) (st' := [.int (12), .int (0), .ref (56), .int (0), .ref (53)]) rfl rfl ?_
    refine Rc.copy tb_48 rfl rfl rfl ia_53 ia_56 (by decide) ?_
    refine Rc.run tb_48 2 (pc' := 32) (ls' := [some (.ref (50)), some (.ref (r1)), none]) (st' := [.int (0), .ref (50)]) rfl rfl ?_
    refine Rc.putI tb_48 rfl rfl ob_50 (by decide +kernel) tg_50_8 rfl ?_
    refine Rc.run tb_48 2 (pc' := 38) (ls' := [some (.ref (50)), some (.ref (r1)), none]) (st' := [.int (99), .ref (50)]) rfl rfl ?_
    refine Rc.putI tb_48 rfl rfl ob_50 (by decide +kernel) tg_50_9 rfl ?_
    refine Rc.run tb_48 1 (pc' := 42) (ls' := [some (.ref (50)), some (.ref (r1)), none]) (st' := [.ref (50)]) rfl rfl ?_
    cases hc1 : F_49 (iset (iset (icpy (icpy M r1 (0 : Int32).toNatClampNeg 57 (0 : Int32).toNatClampNeg (12 : Int32).toNatClampNeg) 53 (0 : Int32).toNatClampNeg 56 (0 : Int32).toNatClampNeg (12 : Int32).toNatClampNeg) 50 8 0) 50 9 99) with
    | none => rw [hc1] at h; cases h
    | some r1 =>
      obtain ⟨c1, M1⟩ := r1
      rw [hc1] at h
      dsimp only at h
      have hq1 := T_49 (X := X) (d := d) (by omega) (M := iset (iset (icpy (icpy M r1 (0 : Int32).toNatClampNeg 57 (0 : Int32).toNatClampNeg (12 : Int32).toNatClampNeg) 53 (0 : Int32).toNatClampNeg 56 (0 : Int32).toNatClampNeg (12 : Int32).toNatClampNeg) 50 8 0) 50 9 99) hc1
      refine Rc.callV tb_48 rfl rfl rfl mS_49 mP_49 mL_49 mO_49 rfl rfl ob_50 rfl rfl hq1 ?_
      refine Rc.run tb_48 2 (pc' := 47) (ls' := [some (.ref (50)), some (.ref (r1)), some (.int (c1))]) (st' := [.int (c1)]) rfl rfl ?_
      refine Rc.if_ne (pc1 := 51) tb_48 rfl rfl (by decide) (by decide) (fun hb5 => ?_) (fun hb5 => ?_)
      · rw [if_pos hb5] at h
        obtain rfl := Option.some.inj h
        obtain ⟨rfl, rfl⟩ := hC
        exact Rc.vret tb_48 rfl mR_48
      · rw [if_neg hb5] at h
        refine Rc.run tb_48 4 (pc' := 55) (ls' := [some (.ref (50)), some (.ref (r1)), some (.int (c1))]) (st' := [.ref (50), .int (2), .int (1), .ref (50)]) rfl rfl ?_
        refine Rc.getR tb_48 rfl rfl ob_50 (by decide +kernel) tg_50_4 (by decide) ?_
        refine Rc.run tb_48 1 (pc' := 59) (ls' := [some (.ref (50)), some (.ref (r1)), some (.int (c1))]) (st' := [.ref (50), .ref (58), .int (2), .int (1), .ref (50)]) rfl rfl ?_
        refine Rc.getR tb_48 rfl rfl ob_50 (by decide +kernel) tg_50_5 (by decide) ?_
        cases hc2 : F_51 (1 : Int32) (2 : Int32) 58 59 M1 with
        | none => rw [hc2] at h; cases h
        | some M2 =>
          rw [hc2] at h
          dsimp only at h
          have hq2 := T_51 (X := X) (d := d) (by omega) (M := M1) (ia_58).1 (ia_59).1 hc2
          refine Rc.callV tb_48 rfl rfl rfl mS_51 mP_51 mL_51 mO_51 rfl rfl ob_50 rfl rfl hq2 ?_
          refine Rc.run tb_48 4 (pc' := 70) (ls' := [some (.ref (50)), some (.ref (r1)), some (.int (c1))]) (st' := [.ref (50), .int (11), .int (4), .ref (50)]) rfl rfl ?_
          refine Rc.getR tb_48 rfl rfl ob_50 (by decide +kernel) tg_50_6 (by decide) ?_
          refine Rc.run tb_48 1 (pc' := 74) (ls' := [some (.ref (50)), some (.ref (r1)), some (.int (c1))]) (st' := [.ref (50), .ref (60), .int (11), .int (4), .ref (50)]) rfl rfl ?_
          refine Rc.getR tb_48 rfl rfl ob_50 (by decide +kernel) tg_50_7 (by decide) ?_
          cases hc3 : F_51 (4 : Int32) (11 : Int32) 60 61 M2 with
          | none => rw [hc3] at h; cases h
          | some M3 =>
            rw [hc3] at h
            dsimp only at h
            have hq3 := T_51 (X := X) (d := d) (by omega) (M := M2) (ia_60).1 (ia_61).1 hc3
            refine Rc.callV tb_48 rfl rfl rfl mS_51 mP_51 mL_51 mO_51 rfl rfl ob_50 rfl rfl hq3 ?_
            refine Rc.run tb_48 3 (pc' := 83) (ls' := [some (.ref (50)), some (.ref (r1)), some (.int (c1))]) (st' := [.int (0), .int (0), .ref (50)]) rfl rfl ?_
            cases hc4 : K_54 (0 : Int32) (0 : Int32) M3 with
            | none => rw [hc4] at h; cases h
            | some M4 =>
              rw [hc4] at h
              dsimp only at h
              have hq4 := TK_54 (X := X) (d := d) (by omega) (M := M3) hc4
              refine Rc.callV tb_48 rfl rfl rfl mS_54 mP_54 mL_54 mO_54 rfl rfl ob_50 rfl rfl hq4 ?_
              refine Rc.run tb_48 2 (pc' := 88) (ls' := [some (.ref (50)), some (.ref (r1)), some (.int (c1))]) (st' := [.ref (50), .ref (50)]) rfl rfl ?_
              refine Rc.getI tb_48 rfl rfl ob_50 (by decide +kernel) tg_50_8 ?_
              refine Rc.run tb_48 2 (pc' := 93) (ls' := [some (.ref (50)), some (.ref (r1)), some (.int (c1))]) (st' := [.int ((M4 50 8) * c1), .ref (50)]) rfl rfl ?_
              refine Rc.putI tb_48 rfl rfl ob_50 (by decide +kernel) tg_50_8 rfl ?_
              obtain rfl := Option.some.inj h
              obtain ⟨rfl, rfl⟩ := hC
              exact Rc.vret tb_48 rfl mR_48
  · rw [if_neg hb6] at h
    cases h
theorem T_48 {X : AX} {d : Nat} (hd : 193 ≤ d) {r1 : Nat} {M : IM} (hr1 : IA r1) {M1 : IM} (h : F_48 r1 M = some M1) : Rc X d 48 0 [some (.ref (50)), some (.ref (r1)), none] [] M none M1 := TF_48 hd hr1 h ⟨rfl, rfl⟩
/-! 65: NineDemands$Text.readProduct -/
def J_65_36_12 (rk : Int32 → IM → Option (IM)) (x1 : Int32) (x2 : Int32) (x3 : Int32) (M : IM) : Option ((Int32 × Int32 × IM) ⊕ (Int32 × Int32 × IM)) := (match rk x1 (iset M 45 2 ((M 45 2) + 1)) with | none => none | some M3 => (match F_73 (20000 + x2) M3 with | none => none | some M4 => (match F_69 M4 with | none => none | some c5 => (some (Sum.inl (c5, x3 + 1, M4))))))
def B_65_12 (rk : Int32 → IM → Option (IM)) (x1 : Int32) : (Int32 × Int32 × IM) → Option ((Int32 × Int32 × IM) ⊕ (Int32 × Int32 × IM)) := fun (x2, x3, M) => if (50 : Int32) ≤ x3 then (some (Sum.inr (x2, x3, M))) else (if x2 = 42 then (J_65_36_12 rk x1 x2 x3 M) else (if x2 = 47 then (J_65_36_12 rk x1 x2 x3 M) else (if x2 = 37 then (J_65_36_12 rk x1 x2 x3 M) else (some (Sum.inr (x2, x3, M))))))
def L_65_12 (rk : Int32 → IM → Option (IM)) (x1 : Int32) (x2 : Int32) (x3 : Int32) (M : IM) : Option (Int32 × Int32 × IM) := loopN (B_65_12 rk x1) FU (x2, x3, M)
def F_65 (rk : Int32 → IM → Option (IM)) (a1 : Int32) (M : IM) : Option (IM) := (match rk a1 M with | none => none | some M1 => (match F_69 M1 with | none => none | some c2 => (match L_65_12 rk a1 c2 0 M1 with | none => none | some (x2_10, x3_10, M10) => (some (M10)))))
theorem TJ_65_36_12 (Dk : Nat) (rk : Int32 → IM → Option (IM)) (Hk : ∀ {X : AX} {d : Nat}, Dk ≤ d → ∀ {a1 : Int32} {M : IM} {M1 : IM}, rk a1 M = some M1 → Rc X d 66 0 [some (.ref (45)), some (.int (a1)), none, none] [] M none M1) {X : AX} {d : Nat} (hd : Dk + 1 ≤ d) {x1 : Int32} {x2 : Int32} {x3 : Int32} {M : IM} {v : Option Value} {M' : IM} {o : (Int32 × Int32 × IM) ⊕ (Int32 × Int32 × IM)} (h : J_65_36_12 rk x1 x2 x3 M = some o) (hP : ∀ s', o = .inl s' → (fun (x2, x3, M) => Rc X d 65 12 [some (.ref (45)), some (.int (x1)), some (.int (x2)), some (.int (x3))] [] M v M') s') (hE : ∀ r, o = .inr r → (fun (x2, x3, M) => Rc X d 65 71 [none, none, none, none] [] M v M') r) : Rc X d 65 36 [some (.ref (45)), some (.int (x1)), some (.int (x2)), some (.int (x3))] [] M v M' := by
  obtain ⟨d, rfl⟩ : ∃ e, d = e + 1 := ⟨d - 1, by omega⟩
  unfold J_65_36_12 at h
  dsimp only at hP hE
  refine Rc.run tb_65 2 (pc' := 38) (ls' := [some (.ref (45)), some (.int (x1)), some (.int (x2)), some (.int (x3))]) (st' := [.ref (45), .ref (45)]) rfl rfl ?_
  refine Rc.getI tb_65 rfl rfl ob_45 (by decide +kernel) tg_45_2 ?_
  refine Rc.run tb_65 2 (pc' := 43) (ls' := [some (.ref (45)), some (.int (x1)), some (.int (x2)), some (.int (x3))]) (st' := [.int ((M 45 2) + 1), .ref (45)]) rfl rfl ?_
  refine Rc.putI tb_65 rfl rfl ob_45 (by decide +kernel) tg_45_2 rfl ?_
  refine Rc.run tb_65 2 (pc' := 48) (ls' := [some (.ref (45)), some (.int (x1)), some (.int (x2)), some (.int (x3))]) (st' := [.int (x1), .ref (45)]) rfl rfl ?_
  cases hc3 : rk x1 (iset M 45 2 ((M 45 2) + 1)) with
  | none => rw [hc3] at h; cases h
  | some M3 =>
    rw [hc3] at h
    dsimp only at h
    have hq3 := Hk (X := X) (d := d) (by omega) (M := iset M 45 2 ((M 45 2) + 1)) hc3
    refine Rc.callV tb_65 rfl rfl rfl mS_66 mP_66 mL_66 mO_66 rfl rfl ob_45 rfl rfl hq3 ?_
    refine Rc.run tb_65 4 (pc' := 57) (ls' := [some (.ref (45)), some (.int (x1)), some (.int (x2)), some (.int (x3))]) (st' := [.int (20000 + x2), .ref (45)]) rfl rfl ?_
    cases hc4 : F_73 (20000 + x2) M3 with
    | none => rw [hc4] at h; cases h
    | some M4 =>
      rw [hc4] at h
      dsimp only at h
      have hq4 := T_73 (X := X) (d := d) (by omega) (M := M3) hc4
      refine Rc.callV tb_65 rfl rfl rfl mS_73 mP_73 mL_73 mO_73 rfl rfl ob_45 rfl rfl hq4 ?_
      refine Rc.run tb_65 1 (pc' := 61) (ls' := [some (.ref (45)), some (.int (x1)), some (.int (x2)), some (.int (x3))]) (st' := [.ref (45)]) rfl rfl ?_
      cases hc5 : F_69 M4 with
      | none => rw [hc5] at h; cases h
      | some c5 =>
        rw [hc5] at h
        dsimp only at h
        have hq5 := T_69 (X := X) (d := d) (by omega) (M := M4) hc5
        refine Rc.callV tb_65 rfl rfl rfl mS_69 mP_69 mL_69 mO_69 rfl rfl ob_45 rfl rfl hq5 ?_
        refine Rc.run tb_65 3 (pc' := 12) (ls' := [some (.ref (45)), some (.int (x1)), some (.int (c5)), some (.int (x3 + 1))]) (st' := []) rfl rfl ?_
        refine Rc.mask (b := 15) ((tb_65.2 12).trans rfl) (ls' := [some (.ref (45)), some (.int (x1)), some (.int (c5)), some (.int (x3 + 1))]) rfl ?_
        obtain rfl := Option.some.inj h
        exact hP _ rfl
theorem TB_65_12 (Dk : Nat) (rk : Int32 → IM → Option (IM)) (Hk : ∀ {X : AX} {d : Nat}, Dk ≤ d → ∀ {a1 : Int32} {M : IM} {M1 : IM}, rk a1 M = some M1 → Rc X d 66 0 [some (.ref (45)), some (.int (a1)), none, none] [] M none M1) {X : AX} {d : Nat} (hd : Dk + 1 ≤ d) {x1 : Int32} {v : Option Value} {M' : IM} : ∀ (s : Int32 × Int32 × IM) (o : (Int32 × Int32 × IM) ⊕ (Int32 × Int32 × IM)), B_65_12 rk x1 s = some o → (∀ s', o = .inl s' → (fun (x2, x3, M) => Rc X d 65 12 [some (.ref (45)), some (.int (x1)), some (.int (x2)), some (.int (x3))] [] M v M') s') → (∀ r, o = .inr r → (fun (x2, x3, M) => Rc X d 65 71 [none, none, none, none] [] M v M') r) → (fun (x2, x3, M) => Rc X d 65 12 [some (.ref (45)), some (.int (x1)), some (.int (x2)), some (.int (x3))] [] M v M') s := by
  rintro ⟨x2, x3, M⟩ o h hP hE
  show Rc X d 65 12 [some (.ref (45)), some (.int (x1)), some (.int (x2)), some (.int (x3))] [] M v M'
  obtain ⟨d, rfl⟩ : ∃ e, d = e + 1 := ⟨d - 1, by omega⟩
  unfold B_65_12 at h
  dsimp only at h hP hE
  refine Rc.run tb_65 2 (pc' := 15) (ls' := [some (.ref (45)), some (.int (x1)), some (.int (x2)), some (.int (x3))]) (st' := [.int (50), .int (x3)]) rfl rfl ?_
  refine Rc.icmp_ge (pc1 := 71) tb_65 rfl rfl (by decide) (by decide) (fun hb9 => ?_) (fun hb9 => ?_)
  · rw [if_pos hb9] at h
    refine Rc.mask (b := 0) ((tb_65.2 71).trans rfl) (ls' := [none, none, none, none]) rfl ?_
    obtain rfl := Option.some.inj h
    exact hE _ rfl
  · rw [if_neg hb9] at h
    refine Rc.run tb_65 2 (pc' := 21) (ls' := [some (.ref (45)), some (.int (x1)), some (.int (x2)), some (.int (x3))]) (st' := [.int (42), .int (x2)]) rfl rfl ?_
    refine Rc.icmp_eq (pc1 := 36) tb_65 rfl rfl (by decide) (by decide) (fun hb8 => ?_) (fun hb8 => ?_)
    · rw [if_pos hb8] at h
      refine Rc.mask (b := 15) ((tb_65.2 36).trans rfl) (ls' := [some (.ref (45)), some (.int (x1)), some (.int (x2)), some (.int (x3))]) rfl ?_
      exact TJ_65_36_12 Dk rk Hk (X := X) (d := d + 1) (by omega) h hP hE
    · rw [if_neg hb8] at h
      refine Rc.run tb_65 2 (pc' := 27) (ls' := [some (.ref (45)), some (.int (x1)), some (.int (x2)), some (.int (x3))]) (st' := [.int (47), .int (x2)]) rfl rfl ?_
      refine Rc.icmp_eq (pc1 := 36) tb_65 rfl rfl (by decide) (by decide) (fun hb7 => ?_) (fun hb7 => ?_)
      · rw [if_pos hb7] at h
        refine Rc.mask (b := 15) ((tb_65.2 36).trans rfl) (ls' := [some (.ref (45)), some (.int (x1)), some (.int (x2)), some (.int (x3))]) rfl ?_
        exact TJ_65_36_12 Dk rk Hk (X := X) (d := d + 1) (by omega) h hP hE
      · rw [if_neg hb7] at h
        refine Rc.run tb_65 2 (pc' := 33) (ls' := [some (.ref (45)), some (.int (x1)), some (.int (x2)), some (.int (x3))]) (st' := [.int (37), .int (x2)]) rfl rfl ?_
        refine Rc.icmp_ne (pc1 := 71) tb_65 rfl rfl (by decide) (by decide) (fun hb6 => ?_) (fun hb6 => ?_)
        · rw [if_pos hb6] at h
          refine Rc.mask (b := 15) ((tb_65.2 36).trans rfl) (ls' := [some (.ref (45)), some (.int (x1)), some (.int (x2)), some (.int (x3))]) rfl ?_
          exact TJ_65_36_12 Dk rk Hk (X := X) (d := d + 1) (by omega) h hP hE
        · rw [if_neg hb6] at h
          refine Rc.mask (b := 0) ((tb_65.2 71).trans rfl) (ls' := [none, none, none, none]) rfl ?_
          obtain rfl := Option.some.inj h
          exact hE _ rfl
theorem TL_65_12 (Dk : Nat) (rk : Int32 → IM → Option (IM)) (Hk : ∀ {X : AX} {d : Nat}, Dk ≤ d → ∀ {a1 : Int32} {M : IM} {M1 : IM}, rk a1 M = some M1 → Rc X d 66 0 [some (.ref (45)), some (.int (a1)), none, none] [] M none M1) {X : AX} {d : Nat} (hd : Dk + 1 ≤ d) {x1 : Int32} {x2 : Int32} {x3 : Int32} {M : IM} {v : Option Value} {M' : IM} {r : Int32 × Int32 × IM} (h : L_65_12 rk x1 x2 x3 M = some r) (hE : (fun (x2, x3, M) => Rc X d 65 71 [none, none, none, none] [] M v M') r) : Rc X d 65 12 [some (.ref (45)), some (.int (x1)), some (.int (x2)), some (.int (x3))] [] M v M' := by
  exact loopN_rc (P := fun (x2, x3, M) => Rc X d 65 12 [some (.ref (45)), some (.int (x1)), some (.int (x2)), some (.int (x3))] [] M v M') (E := fun (x2, x3, M) => Rc X d 65 71 [none, none, none, none] [] M v M') (TB_65_12 Dk rk Hk (X := X) hd) FU _ r h hE
theorem TF_65 (Dk : Nat) (rk : Int32 → IM → Option (IM)) (Hk : ∀ {X : AX} {d : Nat}, Dk ≤ d → ∀ {a1 : Int32} {M : IM} {M1 : IM}, rk a1 M = some M1 → Rc X d 66 0 [some (.ref (45)), some (.int (a1)), none, none] [] M none M1) {X : AX} {d : Nat} (hd : Dk + 1 ≤ d) {a1 : Int32} {M : IM} {v : Option Value} {M' : IM} {o : IM} (h : F_65 rk a1 M = some o) (hC : v = none ∧ M' = o) : Rc X d 65 0 [some (.ref (45)), some (.int (a1)), none, none] [] M v M' := by
  obtain ⟨d, rfl⟩ : ∃ e, d = e + 1 := ⟨d - 1, by omega⟩
  unfold F_65 at h
  refine Rc.run tb_65 2 (pc' := 2) (ls' := [some (.ref (45)), some (.int (a1)), none, none]) (st' := [.int (a1), .ref (45)]) rfl rfl ?_
  cases hc1 : rk a1 M with
  | none => rw [hc1] at h; cases h
  | some M1 =>
    rw [hc1] at h
    dsimp only at h
    have hq1 := Hk (X := X) (d := d) (by omega) (M := M) hc1
    refine Rc.callV tb_65 rfl rfl rfl mS_66 mP_66 mL_66 mO_66 rfl rfl ob_45 rfl rfl hq1 ?_
    refine Rc.run tb_65 1 (pc' := 6) (ls' := [some (.ref (45)), some (.int (a1)), none, none]) (st' := [.ref (45)]) rfl rfl ?_
    cases hc2 : F_69 M1 with
    | none => rw [hc2] at h; cases h
    | some c2 =>
      rw [hc2] at h
      dsimp only at h
      have hq2 := T_69 (X := X) (d := d) (by omega) (M := M1) hc2
      refine Rc.callV tb_65 rfl rfl rfl mS_69 mP_69 mL_69 mO_69 rfl rfl ob_45 rfl rfl hq2 ?_
      refine Rc.run tb_65 3 (pc' := 12) (ls' := [some (.ref (45)), some (.int (a1)), some (.int (c2)), some (.int (0))]) (st' := []) rfl rfl ?_
      refine Rc.mask (b := 15) ((tb_65.2 12).trans rfl) (ls' := [some (.ref (45)), some (.int (a1)), some (.int (c2)), some (.int (0))]) rfl ?_
      cases hl10 : L_65_12 rk a1 c2 0 M1 with
      | none => rw [hl10] at h; cases h
      | some r10 =>
        obtain ⟨x2_10, x3_10, M10⟩ := r10
        rw [hl10] at h
        dsimp only at h
        refine TL_65_12 Dk rk Hk (X := X) (d := d + 1) (by omega) hl10 ?_
        obtain rfl := Option.some.inj h
        obtain ⟨rfl, rfl⟩ := hC
        exact Rc.vret tb_65 rfl mR_65
theorem T_65 (Dk : Nat) (rk : Int32 → IM → Option (IM)) (Hk : ∀ {X : AX} {d : Nat}, Dk ≤ d → ∀ {a1 : Int32} {M : IM} {M1 : IM}, rk a1 M = some M1 → Rc X d 66 0 [some (.ref (45)), some (.int (a1)), none, none] [] M none M1) {X : AX} {d : Nat} (hd : Dk + 1 ≤ d) {a1 : Int32} {M : IM} {M1 : IM} (h : F_65 rk a1 M = some M1) : Rc X d 65 0 [some (.ref (45)), some (.int (a1)), none, none] [] M none M1 := TF_65 Dk rk Hk hd h ⟨rfl, rfl⟩
/-! 64: NineDemands$Text.readSum -/
def J_64_30_12 (rk : Int32 → IM → Option (IM)) (x1 : Int32) (x2 : Int32) (x3 : Int32) (M : IM) : Option ((Int32 × Int32 × IM) ⊕ (Int32 × Int32 × IM)) := (match F_65 rk x1 (iset M 45 2 ((M 45 2) + 1)) with | none => none | some M3 => (match F_73 (20000 + x2) M3 with | none => none | some M4 => (match F_69 M4 with | none => none | some c5 => (some (Sum.inl (c5, x3 + 1, M4))))))
def B_64_12 (rk : Int32 → IM → Option (IM)) (x1 : Int32) : (Int32 × Int32 × IM) → Option ((Int32 × Int32 × IM) ⊕ (Int32 × Int32 × IM)) := fun (x2, x3, M) => if (50 : Int32) ≤ x3 then (some (Sum.inr (x2, x3, M))) else (if x2 = 43 then (J_64_30_12 rk x1 x2 x3 M) else (if x2 = 45 then (J_64_30_12 rk x1 x2 x3 M) else (some (Sum.inr (x2, x3, M)))))
def L_64_12 (rk : Int32 → IM → Option (IM)) (x1 : Int32) (x2 : Int32) (x3 : Int32) (M : IM) : Option (Int32 × Int32 × IM) := loopN (B_64_12 rk x1) FU (x2, x3, M)
def F_64 (rk : Int32 → IM → Option (IM)) (a1 : Int32) (M : IM) : Option (IM) := (match F_65 rk a1 M with | none => none | some M1 => (match F_69 M1 with | none => none | some c2 => (match L_64_12 rk a1 c2 0 M1 with | none => none | some (x2_9, x3_9, M9) => (some (M9)))))
theorem TJ_64_30_12 (Dk : Nat) (rk : Int32 → IM → Option (IM)) (Hk : ∀ {X : AX} {d : Nat}, Dk ≤ d → ∀ {a1 : Int32} {M : IM} {M1 : IM}, rk a1 M = some M1 → Rc X d 66 0 [some (.ref (45)), some (.int (a1)), none, none] [] M none M1) {X : AX} {d : Nat} (hd : Dk + 2 ≤ d) {x1 : Int32} {x2 : Int32} {x3 : Int32} {M : IM} {v : Option Value} {M' : IM} {o : (Int32 × Int32 × IM) ⊕ (Int32 × Int32 × IM)} (h : J_64_30_12 rk x1 x2 x3 M = some o) (hP : ∀ s', o = .inl s' → (fun (x2, x3, M) => Rc X d 64 12 [some (.ref (45)), some (.int (x1)), some (.int (x2)), some (.int (x3))] [] M v M') s') (hE : ∀ r, o = .inr r → (fun (x2, x3, M) => Rc X d 64 65 [none, none, none, none] [] M v M') r) : Rc X d 64 30 [some (.ref (45)), some (.int (x1)), some (.int (x2)), some (.int (x3))] [] M v M' := by
  obtain ⟨d, rfl⟩ : ∃ e, d = e + 1 := ⟨d - 1, by omega⟩
  unfold J_64_30_12 at h
  dsimp only at hP hE
  refine Rc.run tb_64 2 (pc' := 32) (ls' := [some (.ref (45)), some (.int (x1)), some (.int (x2)), some (.int (x3))]) (st' := [.ref (45), .ref (45)]) rfl rfl ?_
  refine Rc.getI tb_64 rfl rfl ob_45 (by decide +kernel) tg_45_2 ?_
  refine Rc.run tb_64 2 (pc' := 37) (ls' := [some (.ref (45)), some (.int (x1)), some (.int (x2)), some (.int (x3))]) (st' := [.int ((M 45 2) + 1), .ref (45)]) rfl rfl ?_
  refine Rc.putI tb_64 rfl rfl ob_45 (by decide +kernel) tg_45_2 rfl ?_
  refine Rc.run tb_64 2 (pc' := 42) (ls' := [some (.ref (45)), some (.int (x1)), some (.int (x2)), some (.int (x3))]) (st' := [.int (x1), .ref (45)]) rfl rfl ?_
  cases hc3 : F_65 rk x1 (iset M 45 2 ((M 45 2) + 1)) with
  | none => rw [hc3] at h; cases h
  | some M3 =>
    rw [hc3] at h
    dsimp only at h
    have hq3 := T_65 Dk rk Hk (X := X) (d := d) (by omega) (M := iset M 45 2 ((M 45 2) + 1)) hc3
    refine Rc.callV tb_64 rfl rfl rfl mS_65 mP_65 mL_65 mO_65 rfl rfl ob_45 rfl rfl hq3 ?_
    refine Rc.run tb_64 4 (pc' := 51) (ls' := [some (.ref (45)), some (.int (x1)), some (.int (x2)), some (.int (x3))]) (st' := [.int (20000 + x2), .ref (45)]) rfl rfl ?_
    cases hc4 : F_73 (20000 + x2) M3 with
    | none => rw [hc4] at h; cases h
    | some M4 =>
      rw [hc4] at h
      dsimp only at h
      have hq4 := T_73 (X := X) (d := d) (by omega) (M := M3) hc4
      refine Rc.callV tb_64 rfl rfl rfl mS_73 mP_73 mL_73 mO_73 rfl rfl ob_45 rfl rfl hq4 ?_
      refine Rc.run tb_64 1 (pc' := 55) (ls' := [some (.ref (45)), some (.int (x1)), some (.int (x2)), some (.int (x3))]) (st' := [.ref (45)]) rfl rfl ?_
      cases hc5 : F_69 M4 with
      | none => rw [hc5] at h; cases h
      | some c5 =>
        rw [hc5] at h
        dsimp only at h
        have hq5 := T_69 (X := X) (d := d) (by omega) (M := M4) hc5
        refine Rc.callV tb_64 rfl rfl rfl mS_69 mP_69 mL_69 mO_69 rfl rfl ob_45 rfl rfl hq5 ?_
        refine Rc.run tb_64 3 (pc' := 12) (ls' := [some (.ref (45)), some (.int (x1)), some (.int (c5)), some (.int (x3 + 1))]) (st' := []) rfl rfl ?_
        refine Rc.mask (b := 15) ((tb_64.2 12).trans rfl) (ls' := [some (.ref (45)), some (.int (x1)), some (.int (c5)), some (.int (x3 + 1))]) rfl ?_
        obtain rfl := Option.some.inj h
        exact hP _ rfl
theorem TB_64_12 (Dk : Nat) (rk : Int32 → IM → Option (IM)) (Hk : ∀ {X : AX} {d : Nat}, Dk ≤ d → ∀ {a1 : Int32} {M : IM} {M1 : IM}, rk a1 M = some M1 → Rc X d 66 0 [some (.ref (45)), some (.int (a1)), none, none] [] M none M1) {X : AX} {d : Nat} (hd : Dk + 2 ≤ d) {x1 : Int32} {v : Option Value} {M' : IM} : ∀ (s : Int32 × Int32 × IM) (o : (Int32 × Int32 × IM) ⊕ (Int32 × Int32 × IM)), B_64_12 rk x1 s = some o → (∀ s', o = .inl s' → (fun (x2, x3, M) => Rc X d 64 12 [some (.ref (45)), some (.int (x1)), some (.int (x2)), some (.int (x3))] [] M v M') s') → (∀ r, o = .inr r → (fun (x2, x3, M) => Rc X d 64 65 [none, none, none, none] [] M v M') r) → (fun (x2, x3, M) => Rc X d 64 12 [some (.ref (45)), some (.int (x1)), some (.int (x2)), some (.int (x3))] [] M v M') s := by
  rintro ⟨x2, x3, M⟩ o h hP hE
  show Rc X d 64 12 [some (.ref (45)), some (.int (x1)), some (.int (x2)), some (.int (x3))] [] M v M'
  obtain ⟨d, rfl⟩ : ∃ e, d = e + 1 := ⟨d - 1, by omega⟩
  unfold B_64_12 at h
  dsimp only at h hP hE
  refine Rc.run tb_64 2 (pc' := 15) (ls' := [some (.ref (45)), some (.int (x1)), some (.int (x2)), some (.int (x3))]) (st' := [.int (50), .int (x3)]) rfl rfl ?_
  refine Rc.icmp_ge (pc1 := 65) tb_64 rfl rfl (by decide) (by decide) (fun hb8 => ?_) (fun hb8 => ?_)
  · rw [if_pos hb8] at h
    refine Rc.mask (b := 0) ((tb_64.2 65).trans rfl) (ls' := [none, none, none, none]) rfl ?_
    obtain rfl := Option.some.inj h
    exact hE _ rfl
  · rw [if_neg hb8] at h
    refine Rc.run tb_64 2 (pc' := 21) (ls' := [some (.ref (45)), some (.int (x1)), some (.int (x2)), some (.int (x3))]) (st' := [.int (43), .int (x2)]) rfl rfl ?_
    refine Rc.icmp_eq (pc1 := 30) tb_64 rfl rfl (by decide) (by decide) (fun hb7 => ?_) (fun hb7 => ?_)
    · rw [if_pos hb7] at h
      refine Rc.mask (b := 15) ((tb_64.2 30).trans rfl) (ls' := [some (.ref (45)), some (.int (x1)), some (.int (x2)), some (.int (x3))]) rfl ?_
      exact TJ_64_30_12 Dk rk Hk (X := X) (d := d + 1) (by omega) h hP hE
    · rw [if_neg hb7] at h
      refine Rc.run tb_64 2 (pc' := 27) (ls' := [some (.ref (45)), some (.int (x1)), some (.int (x2)), some (.int (x3))]) (st' := [.int (45), .int (x2)]) rfl rfl ?_
      refine Rc.icmp_ne (pc1 := 65) tb_64 rfl rfl (by decide) (by decide) (fun hb6 => ?_) (fun hb6 => ?_)
      · rw [if_pos hb6] at h
        refine Rc.mask (b := 15) ((tb_64.2 30).trans rfl) (ls' := [some (.ref (45)), some (.int (x1)), some (.int (x2)), some (.int (x3))]) rfl ?_
        exact TJ_64_30_12 Dk rk Hk (X := X) (d := d + 1) (by omega) h hP hE
      · rw [if_neg hb6] at h
        refine Rc.mask (b := 0) ((tb_64.2 65).trans rfl) (ls' := [none, none, none, none]) rfl ?_
        obtain rfl := Option.some.inj h
        exact hE _ rfl
theorem TL_64_12 (Dk : Nat) (rk : Int32 → IM → Option (IM)) (Hk : ∀ {X : AX} {d : Nat}, Dk ≤ d → ∀ {a1 : Int32} {M : IM} {M1 : IM}, rk a1 M = some M1 → Rc X d 66 0 [some (.ref (45)), some (.int (a1)), none, none] [] M none M1) {X : AX} {d : Nat} (hd : Dk + 2 ≤ d) {x1 : Int32} {x2 : Int32} {x3 : Int32} {M : IM} {v : Option Value} {M' : IM} {r : Int32 × Int32 × IM} (h : L_64_12 rk x1 x2 x3 M = some r) (hE : (fun (x2, x3, M) => Rc X d 64 65 [none, none, none, none] [] M v M') r) : Rc X d 64 12 [some (.ref (45)), some (.int (x1)), some (.int (x2)), some (.int (x3))] [] M v M' := by
  exact loopN_rc (P := fun (x2, x3, M) => Rc X d 64 12 [some (.ref (45)), some (.int (x1)), some (.int (x2)), some (.int (x3))] [] M v M') (E := fun (x2, x3, M) => Rc X d 64 65 [none, none, none, none] [] M v M') (TB_64_12 Dk rk Hk (X := X) hd) FU _ r h hE
theorem TF_64 (Dk : Nat) (rk : Int32 → IM → Option (IM)) (Hk : ∀ {X : AX} {d : Nat}, Dk ≤ d → ∀ {a1 : Int32} {M : IM} {M1 : IM}, rk a1 M = some M1 → Rc X d 66 0 [some (.ref (45)), some (.int (a1)), none, none] [] M none M1) {X : AX} {d : Nat} (hd : Dk + 2 ≤ d) {a1 : Int32} {M : IM} {v : Option Value} {M' : IM} {o : IM} (h : F_64 rk a1 M = some o) (hC : v = none ∧ M' = o) : Rc X d 64 0 [some (.ref (45)), some (.int (a1)), none, none] [] M v M' := by
  obtain ⟨d, rfl⟩ : ∃ e, d = e + 1 := ⟨d - 1, by omega⟩
  unfold F_64 at h
  refine Rc.run tb_64 2 (pc' := 2) (ls' := [some (.ref (45)), some (.int (a1)), none, none]) (st' := [.int (a1), .ref (45)]) rfl rfl ?_
  cases hc1 : F_65 rk a1 M with
  | none => rw [hc1] at h; cases h
  | some M1 =>
    rw [hc1] at h
    dsimp only at h
    have hq1 := T_65 Dk rk Hk (X := X) (d := d) (by omega) (M := M) hc1
    refine Rc.callV tb_64 rfl rfl rfl mS_65 mP_65 mL_65 mO_65 rfl rfl ob_45 rfl rfl hq1 ?_
    refine Rc.run tb_64 1 (pc' := 6) (ls' := [some (.ref (45)), some (.int (a1)), none, none]) (st' := [.ref (45)]) rfl rfl ?_
    cases hc2 : F_69 M1 with
    | none => rw [hc2] at h; cases h
    | some c2 =>
      rw [hc2] at h
      dsimp only at h
      have hq2 := T_69 (X := X) (d := d) (by omega) (M := M1) hc2
      refine Rc.callV tb_64 rfl rfl rfl mS_69 mP_69 mL_69 mO_69 rfl rfl ob_45 rfl rfl hq2 ?_
      refine Rc.run tb_64 3 (pc' := 12) (ls' := [some (.ref (45)), some (.int (a1)), some (.int (c2)), some (.int (0))]) (st' := []) rfl rfl ?_
      refine Rc.mask (b := 15) ((tb_64.2 12).trans rfl) (ls' := [some (.ref (45)), some (.int (a1)), some (.int (c2)), some (.int (0))]) rfl ?_
      cases hl9 : L_64_12 rk a1 c2 0 M1 with
      | none => rw [hl9] at h; cases h
      | some r9 =>
        obtain ⟨x2_9, x3_9, M9⟩ := r9
        rw [hl9] at h
        dsimp only at h
        refine TL_64_12 Dk rk Hk (X := X) (d := d + 1) (by omega) hl9 ?_
        obtain rfl := Option.some.inj h
        obtain ⟨rfl, rfl⟩ := hC
        exact Rc.vret tb_64 rfl mR_64
theorem T_64 (Dk : Nat) (rk : Int32 → IM → Option (IM)) (Hk : ∀ {X : AX} {d : Nat}, Dk ≤ d → ∀ {a1 : Int32} {M : IM} {M1 : IM}, rk a1 M = some M1 → Rc X d 66 0 [some (.ref (45)), some (.int (a1)), none, none] [] M none M1) {X : AX} {d : Nat} (hd : Dk + 2 ≤ d) {a1 : Int32} {M : IM} {M1 : IM} (h : F_64 rk a1 M = some M1) : Rc X d 64 0 [some (.ref (45)), some (.int (a1)), none, none] [] M none M1 := TF_64 Dk rk Hk hd h ⟨rfl, rfl⟩
/-! 63: NineDemands$Text.readCompared -/
def J_63_28 (rk : Int32 → IM → Option (IM)) (x1 : Int32) (x2 : Int32) (M : IM) : Option (IM) := (match F_64 rk x1 (iset M 45 2 ((M 45 2) + 1)) with | none => none | some M3 => (match F_73 (20000 + x2) M3 with | none => none | some M4 => (some (M4))))
def F_63 (rk : Int32 → IM → Option (IM)) (a1 : Int32) (M : IM) : Option (IM) := (match F_64 rk a1 M with | none => none | some M1 => (match F_69 M1 with | none => none | some c2 => (if c2 = 60 then (J_63_28 rk a1 c2 M1) else (if c2 = 61 then (J_63_28 rk a1 c2 M1) else (if c2 = 62 then (J_63_28 rk a1 c2 M1) else (some (M1)))))))
theorem TJ_63_28 (Dk : Nat) (rk : Int32 → IM → Option (IM)) (Hk : ∀ {X : AX} {d : Nat}, Dk ≤ d → ∀ {a1 : Int32} {M : IM} {M1 : IM}, rk a1 M = some M1 → Rc X d 66 0 [some (.ref (45)), some (.int (a1)), none, none] [] M none M1) {X : AX} {d : Nat} (hd : Dk + 3 ≤ d) {x1 : Int32} {x2 : Int32} {M : IM} {v : Option Value} {M' : IM} {o : IM} (h : J_63_28 rk x1 x2 M = some o) (hC : v = none ∧ M' = o) : Rc X d 63 28 [some (.ref (45)), some (.int (x1)), some (.int (x2))] [] M v M' := by
  obtain ⟨d, rfl⟩ : ∃ e, d = e + 1 := ⟨d - 1, by omega⟩
  unfold J_63_28 at h
  refine Rc.run tb_63 2 (pc' := 30) (ls' := [some (.ref (45)), some (.int (x1)), some (.int (x2))]) (st' := [.ref (45), .ref (45)]) rfl rfl ?_
  refine Rc.getI tb_63 rfl rfl ob_45 (by decide +kernel) tg_45_2 ?_
  refine Rc.run tb_63 2 (pc' := 35) (ls' := [some (.ref (45)), some (.int (x1)), some (.int (x2))]) (st' := [.int ((M 45 2) + 1), .ref (45)]) rfl rfl ?_
  refine Rc.putI tb_63 rfl rfl ob_45 (by decide +kernel) tg_45_2 rfl ?_
  refine Rc.run tb_63 2 (pc' := 40) (ls' := [some (.ref (45)), some (.int (x1)), some (.int (x2))]) (st' := [.int (x1), .ref (45)]) rfl rfl ?_
  cases hc3 : F_64 rk x1 (iset M 45 2 ((M 45 2) + 1)) with
  | none => rw [hc3] at h; cases h
  | some M3 =>
    rw [hc3] at h
    dsimp only at h
    have hq3 := T_64 Dk rk Hk (X := X) (d := d) (by omega) (M := iset M 45 2 ((M 45 2) + 1)) hc3
    refine Rc.callV tb_63 rfl rfl rfl mS_64 mP_64 mL_64 mO_64 rfl rfl ob_45 rfl rfl hq3 ?_
    refine Rc.run tb_63 4 (pc' := 49) (ls' := [some (.ref (45)), some (.int (x1)), some (.int (x2))]) (st' := [.int (20000 + x2), .ref (45)]) rfl rfl ?_
    cases hc4 : F_73 (20000 + x2) M3 with
    | none => rw [hc4] at h; cases h
    | some M4 =>
      rw [hc4] at h
      dsimp only at h
      have hq4 := T_73 (X := X) (d := d) (by omega) (M := M3) hc4
      refine Rc.callV tb_63 rfl rfl rfl mS_73 mP_73 mL_73 mO_73 rfl rfl ob_45 rfl rfl hq4 ?_
      obtain rfl := Option.some.inj h
      obtain ⟨rfl, rfl⟩ := hC
      exact Rc.vret tb_63 rfl mR_63
theorem TF_63 (Dk : Nat) (rk : Int32 → IM → Option (IM)) (Hk : ∀ {X : AX} {d : Nat}, Dk ≤ d → ∀ {a1 : Int32} {M : IM} {M1 : IM}, rk a1 M = some M1 → Rc X d 66 0 [some (.ref (45)), some (.int (a1)), none, none] [] M none M1) {X : AX} {d : Nat} (hd : Dk + 3 ≤ d) {a1 : Int32} {M : IM} {v : Option Value} {M' : IM} {o : IM} (h : F_63 rk a1 M = some o) (hC : v = none ∧ M' = o) : Rc X d 63 0 [some (.ref (45)), some (.int (a1)), none] [] M v M' := by
  obtain ⟨d, rfl⟩ : ∃ e, d = e + 1 := ⟨d - 1, by omega⟩
  unfold F_63 at h
  refine Rc.run tb_63 2 (pc' := 2) (ls' := [some (.ref (45)), some (.int (a1)), none]) (st' := [.int (a1), .ref (45)]) rfl rfl ?_
  cases hc1 : F_64 rk a1 M with
  | none => rw [hc1] at h; cases h
  | some M1 =>
    rw [hc1] at h
    dsimp only at h
    have hq1 := T_64 Dk rk Hk (X := X) (d := d) (by omega) (M := M) hc1
    refine Rc.callV tb_63 rfl rfl rfl mS_64 mP_64 mL_64 mO_64 rfl rfl ob_45 rfl rfl hq1 ?_
    refine Rc.run tb_63 1 (pc' := 6) (ls' := [some (.ref (45)), some (.int (a1)), none]) (st' := [.ref (45)]) rfl rfl ?_
    cases hc2 : F_69 M1 with
    | none => rw [hc2] at h; cases h
    | some c2 =>
      rw [hc2] at h
      dsimp only at h
      have hq2 := T_69 (X := X) (d := d) (by omega) (M := M1) hc2
      refine Rc.callV tb_63 rfl rfl rfl mS_69 mP_69 mL_69 mO_69 rfl rfl ob_45 rfl rfl hq2 ?_
      refine Rc.run tb_63 3 (pc' := 13) (ls' := [some (.ref (45)), some (.int (a1)), some (.int (c2))]) (st' := [.int (60), .int (c2)]) rfl rfl ?_
      refine Rc.icmp_eq (pc1 := 28) tb_63 rfl rfl (by decide) (by decide) (fun hb7 => ?_) (fun hb7 => ?_)
      · rw [if_pos hb7] at h
        refine Rc.mask (b := 7) ((tb_63.2 28).trans rfl) (ls' := [some (.ref (45)), some (.int (a1)), some (.int (c2))]) rfl ?_
        exact TJ_63_28 Dk rk Hk (X := X) (d := d + 1) (by omega) h hC
      · rw [if_neg hb7] at h
        refine Rc.run tb_63 2 (pc' := 19) (ls' := [some (.ref (45)), some (.int (a1)), some (.int (c2))]) (st' := [.int (61), .int (c2)]) rfl rfl ?_
        refine Rc.icmp_eq (pc1 := 28) tb_63 rfl rfl (by decide) (by decide) (fun hb6 => ?_) (fun hb6 => ?_)
        · rw [if_pos hb6] at h
          refine Rc.mask (b := 7) ((tb_63.2 28).trans rfl) (ls' := [some (.ref (45)), some (.int (a1)), some (.int (c2))]) rfl ?_
          exact TJ_63_28 Dk rk Hk (X := X) (d := d + 1) (by omega) h hC
        · rw [if_neg hb6] at h
          refine Rc.run tb_63 2 (pc' := 25) (ls' := [some (.ref (45)), some (.int (a1)), some (.int (c2))]) (st' := [.int (62), .int (c2)]) rfl rfl ?_
          refine Rc.icmp_ne (pc1 := 52) tb_63 rfl rfl (by decide) (by decide) (fun hb5 => ?_) (fun hb5 => ?_)
          · rw [if_pos hb5] at h
            refine Rc.mask (b := 7) ((tb_63.2 28).trans rfl) (ls' := [some (.ref (45)), some (.int (a1)), some (.int (c2))]) rfl ?_
            exact TJ_63_28 Dk rk Hk (X := X) (d := d + 1) (by omega) h hC
          · rw [if_neg hb5] at h
            obtain rfl := Option.some.inj h
            obtain ⟨rfl, rfl⟩ := hC
            exact Rc.vret tb_63 rfl mR_63
theorem T_63 (Dk : Nat) (rk : Int32 → IM → Option (IM)) (Hk : ∀ {X : AX} {d : Nat}, Dk ≤ d → ∀ {a1 : Int32} {M : IM} {M1 : IM}, rk a1 M = some M1 → Rc X d 66 0 [some (.ref (45)), some (.int (a1)), none, none] [] M none M1) {X : AX} {d : Nat} (hd : Dk + 3 ≤ d) {a1 : Int32} {M : IM} {M1 : IM} (h : F_63 rk a1 M = some M1) : Rc X d 63 0 [some (.ref (45)), some (.int (a1)), none] [] M none M1 := TF_63 Dk rk Hk hd h ⟨rfl, rfl⟩
/-! 62: NineDemands$Text.readAll -/
def B_62_7 (rk : Int32 → IM → Option (IM)) (x1 : Int32) : (Int32 × IM) → Option ((Int32 × IM) ⊕ (Int32 × IM)) := fun (x2, M) => if (50 : Int32) ≤ x2 then (some (Sum.inr (x2, M))) else (match F_69 M with | none => none | some c2 => (if c2 = 38 then (match F_63 rk x1 (iset M 45 2 ((M 45 2) + 1)) with | none => none | some M3 => (match F_73 (20038 : Int32) M3 with | none => none | some M4 => (some (Sum.inl (x2 + 1, M4))))) else (some (Sum.inr (x2, M)))))
def L_62_7 (rk : Int32 → IM → Option (IM)) (x1 : Int32) (x2 : Int32) (M : IM) : Option (Int32 × IM) := loopN (B_62_7 rk x1) FU (x2, M)
def F_62 (rk : Int32 → IM → Option (IM)) (a1 : Int32) (M : IM) : Option (IM) := (match F_63 rk a1 M with | none => none | some M1 => (match L_62_7 rk a1 0 M1 with | none => none | some (x2_7, M7) => (some (M7))))
theorem TB_62_7 (Dk : Nat) (rk : Int32 → IM → Option (IM)) (Hk : ∀ {X : AX} {d : Nat}, Dk ≤ d → ∀ {a1 : Int32} {M : IM} {M1 : IM}, rk a1 M = some M1 → Rc X d 66 0 [some (.ref (45)), some (.int (a1)), none, none] [] M none M1) {X : AX} {d : Nat} (hd : Dk + 4 ≤ d) {x1 : Int32} {v : Option Value} {M' : IM} : ∀ (s : Int32 × IM) (o : (Int32 × IM) ⊕ (Int32 × IM)), B_62_7 rk x1 s = some o → (∀ s', o = .inl s' → (fun (x2, M) => Rc X d 62 7 [some (.ref (45)), some (.int (x1)), some (.int (x2))] [] M v M') s') → (∀ r, o = .inr r → (fun (x2, M) => Rc X d 62 50 [none, none, none] [] M v M') r) → (fun (x2, M) => Rc X d 62 7 [some (.ref (45)), some (.int (x1)), some (.int (x2))] [] M v M') s := by
  rintro ⟨x2, M⟩ o h hP hE
  show Rc X d 62 7 [some (.ref (45)), some (.int (x1)), some (.int (x2))] [] M v M'
  obtain ⟨d, rfl⟩ : ∃ e, d = e + 1 := ⟨d - 1, by omega⟩
  unfold B_62_7 at h
  dsimp only at h hP hE
  refine Rc.run tb_62 2 (pc' := 10) (ls' := [some (.ref (45)), some (.int (x1)), some (.int (x2))]) (st' := [.int (50), .int (x2)]) rfl rfl ?_
  refine Rc.icmp_ge (pc1 := 50) tb_62 rfl rfl (by decide) (by decide) (fun hb6 => ?_) (fun hb6 => ?_)
  · rw [if_pos hb6] at h
    refine Rc.mask (b := 0) ((tb_62.2 50).trans rfl) (ls' := [none, none, none]) rfl ?_
    obtain rfl := Option.some.inj h
    exact hE _ rfl
  · rw [if_neg hb6] at h
    refine Rc.run tb_62 1 (pc' := 14) (ls' := [some (.ref (45)), some (.int (x1)), some (.int (x2))]) (st' := [.ref (45)]) rfl rfl ?_
    cases hc2 : F_69 M with
    | none => rw [hc2] at h; cases h
    | some c2 =>
      rw [hc2] at h
      dsimp only at h
      have hq2 := T_69 (X := X) (d := d) (by omega) (M := M) hc2
      refine Rc.callV tb_62 rfl rfl rfl mS_69 mP_69 mL_69 mO_69 rfl rfl ob_45 rfl rfl hq2 ?_
      refine Rc.run tb_62 1 (pc' := 19) (ls' := [some (.ref (45)), some (.int (x1)), some (.int (x2))]) (st' := [.int (38), .int (c2)]) rfl rfl ?_
      refine Rc.icmp_ne (pc1 := 50) tb_62 rfl rfl (by decide) (by decide) (fun hb5 => ?_) (fun hb5 => ?_)
      · rw [if_pos hb5] at h
        refine Rc.run tb_62 2 (pc' := 24) (ls' := [some (.ref (45)), some (.int (x1)), some (.int (x2))]) (st' := [.ref (45), .ref (45)]) rfl rfl ?_
        refine Rc.getI tb_62 rfl rfl ob_45 (by decide +kernel) tg_45_2 ?_
        refine Rc.run tb_62 2 (pc' := 29) (ls' := [some (.ref (45)), some (.int (x1)), some (.int (x2))]) (st' := [.int ((M 45 2) + 1), .ref (45)]) rfl rfl ?_
        refine Rc.putI tb_62 rfl rfl ob_45 (by decide +kernel) tg_45_2 rfl ?_
        refine Rc.run tb_62 2 (pc' := 34) (ls' := [some (.ref (45)), some (.int (x1)), some (.int (x2))]) (st' := [.int (x1), .ref (45)]) rfl rfl ?_
        cases hc3 : F_63 rk x1 (iset M 45 2 ((M 45 2) + 1)) with
        | none => rw [hc3] at h; cases h
        | some M3 =>
          rw [hc3] at h
          dsimp only at h
          have hq3 := T_63 Dk rk Hk (X := X) (d := d) (by omega) (M := iset M 45 2 ((M 45 2) + 1)) hc3
          refine Rc.callV tb_62 rfl rfl rfl mS_63 mP_63 mL_63 mO_63 rfl rfl ob_45 rfl rfl hq3 ?_
          refine Rc.run tb_62 2 (pc' := 41) (ls' := [some (.ref (45)), some (.int (x1)), some (.int (x2))]) (st' := [.int (20038), .ref (45)]) rfl rfl ?_
          cases hc4 : F_73 (20038 : Int32) M3 with
          | none => rw [hc4] at h; cases h
          | some M4 =>
            rw [hc4] at h
            dsimp only at h
            have hq4 := T_73 (X := X) (d := d) (by omega) (M := M3) hc4
            refine Rc.callV tb_62 rfl rfl rfl mS_73 mP_73 mL_73 mO_73 rfl rfl ob_45 rfl rfl hq4 ?_
            refine Rc.run tb_62 2 (pc' := 7) (ls' := [some (.ref (45)), some (.int (x1)), some (.int (x2 + 1))]) (st' := []) rfl rfl ?_
            refine Rc.mask (b := 7) ((tb_62.2 7).trans rfl) (ls' := [some (.ref (45)), some (.int (x1)), some (.int (x2 + 1))]) rfl ?_
            obtain rfl := Option.some.inj h
            exact hP _ rfl
      · rw [if_neg hb5] at h
        refine Rc.mask (b := 0) ((tb_62.2 50).trans rfl) (ls' := [none, none, none]) rfl ?_
        obtain rfl := Option.some.inj h
        exact hE _ rfl
theorem TL_62_7 (Dk : Nat) (rk : Int32 → IM → Option (IM)) (Hk : ∀ {X : AX} {d : Nat}, Dk ≤ d → ∀ {a1 : Int32} {M : IM} {M1 : IM}, rk a1 M = some M1 → Rc X d 66 0 [some (.ref (45)), some (.int (a1)), none, none] [] M none M1) {X : AX} {d : Nat} (hd : Dk + 4 ≤ d) {x1 : Int32} {x2 : Int32} {M : IM} {v : Option Value} {M' : IM} {r : Int32 × IM} (h : L_62_7 rk x1 x2 M = some r) (hE : (fun (x2, M) => Rc X d 62 50 [none, none, none] [] M v M') r) : Rc X d 62 7 [some (.ref (45)), some (.int (x1)), some (.int (x2))] [] M v M' := by
  exact loopN_rc (P := fun (x2, M) => Rc X d 62 7 [some (.ref (45)), some (.int (x1)), some (.int (x2))] [] M v M') (E := fun (x2, M) => Rc X d 62 50 [none, none, none] [] M v M') (TB_62_7 Dk rk Hk (X := X) hd) FU _ r h hE
theorem TF_62 (Dk : Nat) (rk : Int32 → IM → Option (IM)) (Hk : ∀ {X : AX} {d : Nat}, Dk ≤ d → ∀ {a1 : Int32} {M : IM} {M1 : IM}, rk a1 M = some M1 → Rc X d 66 0 [some (.ref (45)), some (.int (a1)), none, none] [] M none M1) {X : AX} {d : Nat} (hd : Dk + 4 ≤ d) {a1 : Int32} {M : IM} {v : Option Value} {M' : IM} {o : IM} (h : F_62 rk a1 M = some o) (hC : v = none ∧ M' = o) : Rc X d 62 0 [some (.ref (45)), some (.int (a1)), none] [] M v M' := by
  obtain ⟨d, rfl⟩ : ∃ e, d = e + 1 := ⟨d - 1, by omega⟩
  unfold F_62 at h
  refine Rc.run tb_62 2 (pc' := 2) (ls' := [some (.ref (45)), some (.int (a1)), none]) (st' := [.int (a1), .ref (45)]) rfl rfl ?_
  cases hc1 : F_63 rk a1 M with
  | none => rw [hc1] at h; cases h
  | some M1 =>
    rw [hc1] at h
    dsimp only at h
    have hq1 := T_63 Dk rk Hk (X := X) (d := d) (by omega) (M := M) hc1
    refine Rc.callV tb_62 rfl rfl rfl mS_63 mP_63 mL_63 mO_63 rfl rfl ob_45 rfl rfl hq1 ?_
    refine Rc.run tb_62 2 (pc' := 7) (ls' := [some (.ref (45)), some (.int (a1)), some (.int (0))]) (st' := []) rfl rfl ?_
    refine Rc.mask (b := 7) ((tb_62.2 7).trans rfl) (ls' := [some (.ref (45)), some (.int (a1)), some (.int (0))]) rfl ?_
    cases hl7 : L_62_7 rk a1 0 M1 with
    | none => rw [hl7] at h; cases h
    | some r7 =>
      obtain ⟨x2_7, M7⟩ := r7
      rw [hl7] at h
      dsimp only at h
      refine TL_62_7 Dk rk Hk (X := X) (d := d + 1) (by omega) hl7 ?_
      obtain rfl := Option.some.inj h
      obtain ⟨rfl, rfl⟩ := hC
      exact Rc.vret tb_62 rfl mR_62
theorem T_62 (Dk : Nat) (rk : Int32 → IM → Option (IM)) (Hk : ∀ {X : AX} {d : Nat}, Dk ≤ d → ∀ {a1 : Int32} {M : IM} {M1 : IM}, rk a1 M = some M1 → Rc X d 66 0 [some (.ref (45)), some (.int (a1)), none, none] [] M none M1) {X : AX} {d : Nat} (hd : Dk + 4 ≤ d) {a1 : Int32} {M : IM} {M1 : IM} (h : F_62 rk a1 M = some M1) : Rc X d 62 0 [some (.ref (45)), some (.int (a1)), none] [] M none M1 := TF_62 Dk rk Hk hd h ⟨rfl, rfl⟩
/-! 61: NineDemands$Text.readEither -/
def B_61_7 (rk : Int32 → IM → Option (IM)) (x1 : Int32) : (Int32 × IM) → Option ((Int32 × IM) ⊕ (Int32 × IM)) := fun (x2, M) => if (50 : Int32) ≤ x2 then (some (Sum.inr (x2, M))) else (match F_69 M with | none => none | some c2 => (if c2 = 124 then (match F_62 rk x1 (iset M 45 2 ((M 45 2) + 1)) with | none => none | some M3 => (match F_73 (20124 : Int32) M3 with | none => none | some M4 => (some (Sum.inl (x2 + 1, M4))))) else (some (Sum.inr (x2, M)))))
def L_61_7 (rk : Int32 → IM → Option (IM)) (x1 : Int32) (x2 : Int32) (M : IM) : Option (Int32 × IM) := loopN (B_61_7 rk x1) FU (x2, M)
def F_61 (rk : Int32 → IM → Option (IM)) (a1 : Int32) (M : IM) : Option (IM) := (match F_62 rk a1 M with | none => none | some M1 => (match L_61_7 rk a1 0 M1 with | none => none | some (x2_7, M7) => (some (M7))))
theorem TB_61_7 (Dk : Nat) (rk : Int32 → IM → Option (IM)) (Hk : ∀ {X : AX} {d : Nat}, Dk ≤ d → ∀ {a1 : Int32} {M : IM} {M1 : IM}, rk a1 M = some M1 → Rc X d 66 0 [some (.ref (45)), some (.int (a1)), none, none] [] M none M1) {X : AX} {d : Nat} (hd : Dk + 5 ≤ d) {x1 : Int32} {v : Option Value} {M' : IM} : ∀ (s : Int32 × IM) (o : (Int32 × IM) ⊕ (Int32 × IM)), B_61_7 rk x1 s = some o → (∀ s', o = .inl s' → (fun (x2, M) => Rc X d 61 7 [some (.ref (45)), some (.int (x1)), some (.int (x2))] [] M v M') s') → (∀ r, o = .inr r → (fun (x2, M) => Rc X d 61 50 [none, none, none] [] M v M') r) → (fun (x2, M) => Rc X d 61 7 [some (.ref (45)), some (.int (x1)), some (.int (x2))] [] M v M') s := by
  rintro ⟨x2, M⟩ o h hP hE
  show Rc X d 61 7 [some (.ref (45)), some (.int (x1)), some (.int (x2))] [] M v M'
  obtain ⟨d, rfl⟩ : ∃ e, d = e + 1 := ⟨d - 1, by omega⟩
  unfold B_61_7 at h
  dsimp only at h hP hE
  refine Rc.run tb_61 2 (pc' := 10) (ls' := [some (.ref (45)), some (.int (x1)), some (.int (x2))]) (st' := [.int (50), .int (x2)]) rfl rfl ?_
  refine Rc.icmp_ge (pc1 := 50) tb_61 rfl rfl (by decide) (by decide) (fun hb6 => ?_) (fun hb6 => ?_)
  · rw [if_pos hb6] at h
    refine Rc.mask (b := 0) ((tb_61.2 50).trans rfl) (ls' := [none, none, none]) rfl ?_
    obtain rfl := Option.some.inj h
    exact hE _ rfl
  · rw [if_neg hb6] at h
    refine Rc.run tb_61 1 (pc' := 14) (ls' := [some (.ref (45)), some (.int (x1)), some (.int (x2))]) (st' := [.ref (45)]) rfl rfl ?_
    cases hc2 : F_69 M with
    | none => rw [hc2] at h; cases h
    | some c2 =>
      rw [hc2] at h
      dsimp only at h
      have hq2 := T_69 (X := X) (d := d) (by omega) (M := M) hc2
      refine Rc.callV tb_61 rfl rfl rfl mS_69 mP_69 mL_69 mO_69 rfl rfl ob_45 rfl rfl hq2 ?_
      refine Rc.run tb_61 1 (pc' := 19) (ls' := [some (.ref (45)), some (.int (x1)), some (.int (x2))]) (st' := [.int (124), .int (c2)]) rfl rfl ?_
      refine Rc.icmp_ne (pc1 := 50) tb_61 rfl rfl (by decide) (by decide) (fun hb5 => ?_) (fun hb5 => ?_)
      · rw [if_pos hb5] at h
        refine Rc.run tb_61 2 (pc' := 24) (ls' := [some (.ref (45)), some (.int (x1)), some (.int (x2))]) (st' := [.ref (45), .ref (45)]) rfl rfl ?_
        refine Rc.getI tb_61 rfl rfl ob_45 (by decide +kernel) tg_45_2 ?_
        refine Rc.run tb_61 2 (pc' := 29) (ls' := [some (.ref (45)), some (.int (x1)), some (.int (x2))]) (st' := [.int ((M 45 2) + 1), .ref (45)]) rfl rfl ?_
        refine Rc.putI tb_61 rfl rfl ob_45 (by decide +kernel) tg_45_2 rfl ?_
        refine Rc.run tb_61 2 (pc' := 34) (ls' := [some (.ref (45)), some (.int (x1)), some (.int (x2))]) (st' := [.int (x1), .ref (45)]) rfl rfl ?_
        cases hc3 : F_62 rk x1 (iset M 45 2 ((M 45 2) + 1)) with
        | none => rw [hc3] at h; cases h
        | some M3 =>
          rw [hc3] at h
          dsimp only at h
          have hq3 := T_62 Dk rk Hk (X := X) (d := d) (by omega) (M := iset M 45 2 ((M 45 2) + 1)) hc3
          refine Rc.callV tb_61 rfl rfl rfl mS_62 mP_62 mL_62 mO_62 rfl rfl ob_45 rfl rfl hq3 ?_
          refine Rc.run tb_61 2 (pc' := 41) (ls' := [some (.ref (45)), some (.int (x1)), some (.int (x2))]) (st' := [.int (20124), .ref (45)]) rfl rfl ?_
          cases hc4 : F_73 (20124 : Int32) M3 with
          | none => rw [hc4] at h; cases h
          | some M4 =>
            rw [hc4] at h
            dsimp only at h
            have hq4 := T_73 (X := X) (d := d) (by omega) (M := M3) hc4
            refine Rc.callV tb_61 rfl rfl rfl mS_73 mP_73 mL_73 mO_73 rfl rfl ob_45 rfl rfl hq4 ?_
            refine Rc.run tb_61 2 (pc' := 7) (ls' := [some (.ref (45)), some (.int (x1)), some (.int (x2 + 1))]) (st' := []) rfl rfl ?_
            refine Rc.mask (b := 7) ((tb_61.2 7).trans rfl) (ls' := [some (.ref (45)), some (.int (x1)), some (.int (x2 + 1))]) rfl ?_
            obtain rfl := Option.some.inj h
            exact hP _ rfl
      · rw [if_neg hb5] at h
        refine Rc.mask (b := 0) ((tb_61.2 50).trans rfl) (ls' := [none, none, none]) rfl ?_
        obtain rfl := Option.some.inj h
        exact hE _ rfl
theorem TL_61_7 (Dk : Nat) (rk : Int32 → IM → Option (IM)) (Hk : ∀ {X : AX} {d : Nat}, Dk ≤ d → ∀ {a1 : Int32} {M : IM} {M1 : IM}, rk a1 M = some M1 → Rc X d 66 0 [some (.ref (45)), some (.int (a1)), none, none] [] M none M1) {X : AX} {d : Nat} (hd : Dk + 5 ≤ d) {x1 : Int32} {x2 : Int32} {M : IM} {v : Option Value} {M' : IM} {r : Int32 × IM} (h : L_61_7 rk x1 x2 M = some r) (hE : (fun (x2, M) => Rc X d 61 50 [none, none, none] [] M v M') r) : Rc X d 61 7 [some (.ref (45)), some (.int (x1)), some (.int (x2))] [] M v M' := by
  exact loopN_rc (P := fun (x2, M) => Rc X d 61 7 [some (.ref (45)), some (.int (x1)), some (.int (x2))] [] M v M') (E := fun (x2, M) => Rc X d 61 50 [none, none, none] [] M v M') (TB_61_7 Dk rk Hk (X := X) hd) FU _ r h hE
theorem TF_61 (Dk : Nat) (rk : Int32 → IM → Option (IM)) (Hk : ∀ {X : AX} {d : Nat}, Dk ≤ d → ∀ {a1 : Int32} {M : IM} {M1 : IM}, rk a1 M = some M1 → Rc X d 66 0 [some (.ref (45)), some (.int (a1)), none, none] [] M none M1) {X : AX} {d : Nat} (hd : Dk + 5 ≤ d) {a1 : Int32} {M : IM} {v : Option Value} {M' : IM} {o : IM} (h : F_61 rk a1 M = some o) (hC : v = none ∧ M' = o) : Rc X d 61 0 [some (.ref (45)), some (.int (a1)), none] [] M v M' := by
  obtain ⟨d, rfl⟩ : ∃ e, d = e + 1 := ⟨d - 1, by omega⟩
  unfold F_61 at h
  refine Rc.run tb_61 2 (pc' := 2) (ls' := [some (.ref (45)), some (.int (a1)), none]) (st' := [.int (a1), .ref (45)]) rfl rfl ?_
  cases hc1 : F_62 rk a1 M with
  | none => rw [hc1] at h; cases h
  | some M1 =>
    rw [hc1] at h
    dsimp only at h
    have hq1 := T_62 Dk rk Hk (X := X) (d := d) (by omega) (M := M) hc1
    refine Rc.callV tb_61 rfl rfl rfl mS_62 mP_62 mL_62 mO_62 rfl rfl ob_45 rfl rfl hq1 ?_
    refine Rc.run tb_61 2 (pc' := 7) (ls' := [some (.ref (45)), some (.int (a1)), some (.int (0))]) (st' := []) rfl rfl ?_
    refine Rc.mask (b := 7) ((tb_61.2 7).trans rfl) (ls' := [some (.ref (45)), some (.int (a1)), some (.int (0))]) rfl ?_
    cases hl7 : L_61_7 rk a1 0 M1 with
    | none => rw [hl7] at h; cases h
    | some r7 =>
      obtain ⟨x2_7, M7⟩ := r7
      rw [hl7] at h
      dsimp only at h
      refine TL_61_7 Dk rk Hk (X := X) (d := d + 1) (by omega) hl7 ?_
      obtain rfl := Option.some.inj h
      obtain ⟨rfl, rfl⟩ := hC
      exact Rc.vret tb_61 rfl mR_61
theorem T_61 (Dk : Nat) (rk : Int32 → IM → Option (IM)) (Hk : ∀ {X : AX} {d : Nat}, Dk ≤ d → ∀ {a1 : Int32} {M : IM} {M1 : IM}, rk a1 M = some M1 → Rc X d 66 0 [some (.ref (45)), some (.int (a1)), none, none] [] M none M1) {X : AX} {d : Nat} (hd : Dk + 5 ≤ d) {a1 : Int32} {M : IM} {M1 : IM} (h : F_61 rk a1 M = some M1) : Rc X d 61 0 [some (.ref (45)), some (.int (a1)), none] [] M none M1 := TF_61 Dk rk Hk hd h ⟨rfl, rfl⟩
/-! 66: NineDemands$Text.readOne -/
def J_66_124 (rk : Int32 → IM → Option (IM)) (M : IM) : Option (IM) := some (F_70 M)
def J_66_89 (rk : Int32 → IM → Option (IM)) (x1 : Int32) (x2 : Int32) (M : IM) : Option (IM) := if x2 = 40 then (if (5 : Int32) ≤ x1 then (J_66_124 rk M) else (match F_61 rk (x1 + 1) (iset M 45 2 ((M 45 2) + 1)) with | none => none | some M5 => (match F_68 M5 with | none => none | some M6 => (some (M6))))) else (J_66_124 rk M)
def F_66 (rk : Int32 → IM → Option (IM)) (a1 : Int32) (M : IM) : Option (IM) := (match F_69 M with | none => none | some c1 => (match F_72 c1 M with | none => none | some c2 => (if F_71 c1 = 0 then (if c2 < 0 then (if c1 = 33 then (if (5 : Int32) ≤ a1 then (J_66_89 rk a1 c1 M) else (match rk (a1 + 1) (iset M 45 2 ((M 45 2) + 1)) with | none => none | some M9 => (match F_73 (20033 : Int32) M9 with | none => none | some M10 => (some (M10))))) else (J_66_89 rk a1 c1 M)) else (match F_73 (10000 + c2) (iset M 45 2 ((M 45 2) + 1)) with | none => none | some M13 => (some (M13)))) else (match F_67 M with | none => none | some M15 => (some (M15))))))
theorem TJ_66_124 (Dk : Nat) (rk : Int32 → IM → Option (IM)) (Hk : ∀ {X : AX} {d : Nat}, Dk ≤ d → ∀ {a1 : Int32} {M : IM} {M1 : IM}, rk a1 M = some M1 → Rc X d 66 0 [some (.ref (45)), some (.int (a1)), none, none] [] M none M1) {X : AX} {d : Nat} (hd : Dk + 6 ≤ d) {M : IM} {v : Option Value} {M' : IM} {o : IM} (h : J_66_124 rk M = some o) (hC : v = none ∧ M' = o) : Rc X d 66 124 [some (.ref (45)), none, none, none] [] M v M' := by
  obtain ⟨d, rfl⟩ : ∃ e, d = e + 1 := ⟨d - 1, by omega⟩
  unfold J_66_124 at h
  refine Rc.run tb_66 1 (pc' := 125) (ls' := [some (.ref (45)), none, none, none]) (st' := [.ref (45)]) rfl rfl ?_
  have hq4 := T_70 (X := X) (d := d) (by omega) M
  refine Rc.callV tb_66 rfl rfl rfl mS_70 mP_70 mL_70 mO_70 rfl rfl ob_45 rfl rfl hq4 ?_
  obtain rfl := Option.some.inj h
  obtain ⟨rfl, rfl⟩ := hC
  exact Rc.vret tb_66 rfl mR_66
theorem TJ_66_89 (Dk : Nat) (rk : Int32 → IM → Option (IM)) (Hk : ∀ {X : AX} {d : Nat}, Dk ≤ d → ∀ {a1 : Int32} {M : IM} {M1 : IM}, rk a1 M = some M1 → Rc X d 66 0 [some (.ref (45)), some (.int (a1)), none, none] [] M none M1) {X : AX} {d : Nat} (hd : Dk + 6 ≤ d) {x1 : Int32} {x2 : Int32} {M : IM} {v : Option Value} {M' : IM} {o : IM} (h : J_66_89 rk x1 x2 M = some o) (hC : v = none ∧ M' = o) : Rc X d 66 89 [some (.ref (45)), some (.int (x1)), some (.int (x2)), none] [] M v M' := by
  obtain ⟨d, rfl⟩ : ∃ e, d = e + 1 := ⟨d - 1, by omega⟩
  unfold J_66_89 at h
  refine Rc.run tb_66 2 (pc' := 92) (ls' := [some (.ref (45)), some (.int (x1)), some (.int (x2)), none]) (st' := [.int (40), .int (x2)]) rfl rfl ?_
  refine Rc.icmp_ne (pc1 := 124) tb_66 rfl rfl (by decide) (by decide) (fun hb8 => ?_) (fun hb8 => ?_)
  · rw [if_pos hb8] at h
    refine Rc.run tb_66 2 (pc' := 97) (ls' := [some (.ref (45)), some (.int (x1)), some (.int (x2)), none]) (st' := [.int (5), .int (x1)]) rfl rfl ?_
    refine Rc.icmp_ge (pc1 := 124) tb_66 rfl rfl (by decide) (by decide) (fun hb7 => ?_) (fun hb7 => ?_)
    · rw [if_pos hb7] at h
      refine Rc.mask (b := 1) ((tb_66.2 124).trans rfl) (ls' := [some (.ref (45)), none, none, none]) rfl ?_
      exact TJ_66_124 Dk rk Hk (X := X) (d := d + 1) (by omega) h hC
    · rw [if_neg hb7] at h
      refine Rc.run tb_66 2 (pc' := 102) (ls' := [some (.ref (45)), some (.int (x1)), some (.int (x2)), none]) (st' := [.ref (45), .ref (45)]) rfl rfl ?_
      refine Rc.getI tb_66 rfl rfl ob_45 (by decide +kernel) tg_45_2 ?_
      refine Rc.run tb_66 2 (pc' := 107) (ls' := [some (.ref (45)), some (.int (x1)), some (.int (x2)), none]) (st' := [.int ((M 45 2) + 1), .ref (45)]) rfl rfl ?_
      refine Rc.putI tb_66 rfl rfl ob_45 (by decide +kernel) tg_45_2 rfl ?_
      refine Rc.run tb_66 4 (pc' := 114) (ls' := [some (.ref (45)), some (.int (x1)), some (.int (x2)), none]) (st' := [.int (x1 + 1), .ref (45)]) rfl rfl ?_
      cases hc5 : F_61 rk (x1 + 1) (iset M 45 2 ((M 45 2) + 1)) with
      | none => rw [hc5] at h; cases h
      | some M5 =>
        rw [hc5] at h
        dsimp only at h
        have hq5 := T_61 Dk rk Hk (X := X) (d := d) (by omega) (M := iset M 45 2 ((M 45 2) + 1)) hc5
        refine Rc.callV tb_66 rfl rfl rfl mS_61 mP_61 mL_61 mO_61 rfl rfl ob_45 rfl rfl hq5 ?_
        refine Rc.run tb_66 1 (pc' := 118) (ls' := [some (.ref (45)), some (.int (x1)), some (.int (x2)), none]) (st' := [.ref (45)]) rfl rfl ?_
        cases hc6 : F_68 M5 with
        | none => rw [hc6] at h; cases h
        | some M6 =>
          rw [hc6] at h
          dsimp only at h
          have hq6 := T_68 (X := X) (d := d) (by omega) (M := M5) hc6
          refine Rc.callV tb_66 rfl rfl rfl mS_68 mP_68 mL_68 mO_68 rfl rfl ob_45 rfl rfl hq6 ?_
          refine Rc.run tb_66 1 (pc' := 128) (ls' := [some (.ref (45)), some (.int (x1)), some (.int (x2)), none]) (st' := []) rfl rfl ?_
          obtain rfl := Option.some.inj h
          obtain ⟨rfl, rfl⟩ := hC
          exact Rc.vret tb_66 rfl mR_66
  · rw [if_neg hb8] at h
    refine Rc.mask (b := 1) ((tb_66.2 124).trans rfl) (ls' := [some (.ref (45)), none, none, none]) rfl ?_
    exact TJ_66_124 Dk rk Hk (X := X) (d := d + 1) (by omega) h hC
theorem TF_66 (Dk : Nat) (rk : Int32 → IM → Option (IM)) (Hk : ∀ {X : AX} {d : Nat}, Dk ≤ d → ∀ {a1 : Int32} {M : IM} {M1 : IM}, rk a1 M = some M1 → Rc X d 66 0 [some (.ref (45)), some (.int (a1)), none, none] [] M none M1) {X : AX} {d : Nat} (hd : Dk + 6 ≤ d) {a1 : Int32} {M : IM} {v : Option Value} {M' : IM} {o : IM} (h : F_66 rk a1 M = some o) (hC : v = none ∧ M' = o) : Rc X d 66 0 [some (.ref (45)), some (.int (a1)), none, none] [] M v M' := by
  obtain ⟨d, rfl⟩ : ∃ e, d = e + 1 := ⟨d - 1, by omega⟩
  unfold F_66 at h
  refine Rc.run tb_66 1 (pc' := 1) (ls' := [some (.ref (45)), some (.int (a1)), none, none]) (st' := [.ref (45)]) rfl rfl ?_
  cases hc1 : F_69 M with
  | none => rw [hc1] at h; cases h
  | some c1 =>
    rw [hc1] at h
    dsimp only at h
    have hq1 := T_69 (X := X) (d := d) (by omega) (M := M) hc1
    refine Rc.callV tb_66 rfl rfl rfl mS_69 mP_69 mL_69 mO_69 rfl rfl ob_45 rfl rfl hq1 ?_
    refine Rc.run tb_66 3 (pc' := 7) (ls' := [some (.ref (45)), some (.int (a1)), some (.int (c1)), none]) (st' := [.int (c1), .ref (45)]) rfl rfl ?_
    cases hc2 : F_72 c1 M with
    | none => rw [hc2] at h; cases h
    | some c2 =>
      rw [hc2] at h
      dsimp only at h
      have hq2 := T_72 (X := X) (d := d) (by omega) (M := M) hc2
      refine Rc.callV tb_66 rfl rfl rfl mS_72 mP_72 mL_72 mO_72 rfl rfl ob_45 rfl rfl hq2 ?_
      refine Rc.run tb_66 2 (pc' := 12) (ls' := [some (.ref (45)), some (.int (a1)), some (.int (c1)), some (.int (c2))]) (st' := [.int (c1)]) rfl rfl ?_
      have hq3 := T_71 (X := X) (d := d) (by omega) c1 M
      have hz3 := Rc.bool mR_71 hq3
      refine Rc.callS tb_66 rfl rfl rfl mS_71 mP_71 mL_71 rfl rfl rfl hq3 ?_
      refine Rc.if_eq (pc1 := 25) tb_66 rfl rfl (by decide) (by decide) (fun hb16 => ?_) (fun hb16 => ?_)
      · rw [if_pos hb16] at h
        refine Rc.run tb_66 1 (pc' := 26) (ls' := [some (.ref (45)), some (.int (a1)), some (.int (c1)), some (.int (c2))]) (st' := [.int (c2)]) rfl rfl ?_
        refine Rc.if_lt (pc1 := 51) tb_66 rfl rfl (by decide) (by decide) (fun hb14 => ?_) (fun hb14 => ?_)
        · rw [if_pos hb14] at h
          refine Rc.run tb_66 2 (pc' := 54) (ls' := [some (.ref (45)), some (.int (a1)), some (.int (c1)), some (.int (c2))]) (st' := [.int (33), .int (c1)]) rfl rfl ?_
          refine Rc.icmp_ne (pc1 := 89) tb_66 rfl rfl (by decide) (by decide) (fun hb12 => ?_) (fun hb12 => ?_)
          · rw [if_pos hb12] at h
            refine Rc.run tb_66 2 (pc' := 59) (ls' := [some (.ref (45)), some (.int (a1)), some (.int (c1)), some (.int (c2))]) (st' := [.int (5), .int (a1)]) rfl rfl ?_
            refine Rc.icmp_ge (pc1 := 89) tb_66 rfl rfl (by decide) (by decide) (fun hb11 => ?_) (fun hb11 => ?_)
            · rw [if_pos hb11] at h
              refine Rc.mask (b := 7) ((tb_66.2 89).trans rfl) (ls' := [some (.ref (45)), some (.int (a1)), some (.int (c1)), none]) rfl ?_
              exact TJ_66_89 Dk rk Hk (X := X) (d := d + 1) (by omega) h hC
            · rw [if_neg hb11] at h
              refine Rc.run tb_66 2 (pc' := 64) (ls' := [some (.ref (45)), some (.int (a1)), some (.int (c1)), some (.int (c2))]) (st' := [.ref (45), .ref (45)]) rfl rfl ?_
              refine Rc.getI tb_66 rfl rfl ob_45 (by decide +kernel) tg_45_2 ?_
              refine Rc.run tb_66 2 (pc' := 69) (ls' := [some (.ref (45)), some (.int (a1)), some (.int (c1)), some (.int (c2))]) (st' := [.int ((M 45 2) + 1), .ref (45)]) rfl rfl ?_
              refine Rc.putI tb_66 rfl rfl ob_45 (by decide +kernel) tg_45_2 rfl ?_
              refine Rc.run tb_66 4 (pc' := 76) (ls' := [some (.ref (45)), some (.int (a1)), some (.int (c1)), some (.int (c2))]) (st' := [.int (a1 + 1), .ref (45)]) rfl rfl ?_
              cases hc9 : rk (a1 + 1) (iset M 45 2 ((M 45 2) + 1)) with
              | none => rw [hc9] at h; cases h
              | some M9 =>
                rw [hc9] at h
                dsimp only at h
                have hq9 := Hk (X := X) (d := d) (by omega) (M := iset M 45 2 ((M 45 2) + 1)) hc9
                refine Rc.callV tb_66 rfl rfl rfl mS_66 mP_66 mL_66 mO_66 rfl rfl ob_45 rfl rfl hq9 ?_
                refine Rc.run tb_66 2 (pc' := 83) (ls' := [some (.ref (45)), some (.int (a1)), some (.int (c1)), some (.int (c2))]) (st' := [.int (20033), .ref (45)]) rfl rfl ?_
                cases hc10 : F_73 (20033 : Int32) M9 with
                | none => rw [hc10] at h; cases h
                | some M10 =>
                  rw [hc10] at h
                  dsimp only at h
                  have hq10 := T_73 (X := X) (d := d) (by omega) (M := M9) hc10
                  refine Rc.callV tb_66 rfl rfl rfl mS_73 mP_73 mL_73 mO_73 rfl rfl ob_45 rfl rfl hq10 ?_
                  refine Rc.run tb_66 1 (pc' := 128) (ls' := [some (.ref (45)), some (.int (a1)), some (.int (c1)), some (.int (c2))]) (st' := []) rfl rfl ?_
                  obtain rfl := Option.some.inj h
                  obtain ⟨rfl, rfl⟩ := hC
                  exact Rc.vret tb_66 rfl mR_66
          · rw [if_neg hb12] at h
            refine Rc.mask (b := 7) ((tb_66.2 89).trans rfl) (ls' := [some (.ref (45)), some (.int (a1)), some (.int (c1)), none]) rfl ?_
            exact TJ_66_89 Dk rk Hk (X := X) (d := d + 1) (by omega) h hC
        · rw [if_neg hb14] at h
          refine Rc.run tb_66 2 (pc' := 31) (ls' := [some (.ref (45)), some (.int (a1)), some (.int (c1)), some (.int (c2))]) (st' := [.ref (45), .ref (45)]) rfl rfl ?_
          refine Rc.getI tb_66 rfl rfl ob_45 (by decide +kernel) tg_45_2 ?_
          refine Rc.run tb_66 2 (pc' := 36) (ls' := [some (.ref (45)), some (.int (a1)), some (.int (c1)), some (.int (c2))]) (st' := [.int ((M 45 2) + 1), .ref (45)]) rfl rfl ?_
          refine Rc.putI tb_66 rfl rfl ob_45 (by decide +kernel) tg_45_2 rfl ?_
          refine Rc.run tb_66 4 (pc' := 45) (ls' := [some (.ref (45)), some (.int (a1)), some (.int (c1)), some (.int (c2))]) (st' := [.int (10000 + c2), .ref (45)]) rfl rfl ?_
          cases hc13 : F_73 (10000 + c2) (iset M 45 2 ((M 45 2) + 1)) with
          | none => rw [hc13] at h; cases h
          | some M13 =>
            rw [hc13] at h
            dsimp only at h
            have hq13 := T_73 (X := X) (d := d) (by omega) (M := iset M 45 2 ((M 45 2) + 1)) hc13
            refine Rc.callV tb_66 rfl rfl rfl mS_73 mP_73 mL_73 mO_73 rfl rfl ob_45 rfl rfl hq13 ?_
            refine Rc.run tb_66 1 (pc' := 128) (ls' := [some (.ref (45)), some (.int (a1)), some (.int (c1)), some (.int (c2))]) (st' := []) rfl rfl ?_
            obtain rfl := Option.some.inj h
            obtain ⟨rfl, rfl⟩ := hC
            exact Rc.vret tb_66 rfl mR_66
      · rw [if_neg hb16] at h
        refine Rc.run tb_66 1 (pc' := 19) (ls' := [some (.ref (45)), some (.int (a1)), some (.int (c1)), some (.int (c2))]) (st' := [.ref (45)]) rfl rfl ?_
        cases hc15 : F_67 M with
        | none => rw [hc15] at h; cases h
        | some M15 =>
          rw [hc15] at h
          dsimp only at h
          have hq15 := T_67 (X := X) (d := d) (by omega) (M := M) hc15
          refine Rc.callV tb_66 rfl rfl rfl mS_67 mP_67 mL_67 mO_67 rfl rfl ob_45 rfl rfl hq15 ?_
          refine Rc.run tb_66 1 (pc' := 128) (ls' := [some (.ref (45)), some (.int (a1)), some (.int (c1)), some (.int (c2))]) (st' := []) rfl rfl ?_
          obtain rfl := Option.some.inj h
          obtain ⟨rfl, rfl⟩ := hC
          exact Rc.vret tb_66 rfl mR_66
theorem T_66 (Dk : Nat) (rk : Int32 → IM → Option (IM)) (Hk : ∀ {X : AX} {d : Nat}, Dk ≤ d → ∀ {a1 : Int32} {M : IM} {M1 : IM}, rk a1 M = some M1 → Rc X d 66 0 [some (.ref (45)), some (.int (a1)), none, none] [] M none M1) {X : AX} {d : Nat} (hd : Dk + 6 ≤ d) {a1 : Int32} {M : IM} {M1 : IM} (h : F_66 rk a1 M = some M1) : Rc X d 66 0 [some (.ref (45)), some (.int (a1)), none, none] [] M none M1 := TF_66 Dk rk Hk hd h ⟨rfl, rfl⟩
def KK_66 : Nat → Int32 → IM → Option (IM)
  | 0, _, _ => none
  | k + 1, a1, M => F_66 (KK_66 k) a1 M
theorem TKK_66 : ∀ (k : Nat), ∀ {X : AX} {d : Nat}, k * 6 ≤ d → ∀ {a1 : Int32} {M : IM} {M1 : IM}, KK_66 k a1 M = some M1 → Rc X d 66 0 [some (.ref (45)), some (.int (a1)), none, none] [] M none M1
  | 0 => by intros; rename_i h; cases h
  | k + 1 => by intro hd; intros; rename_i h; exact T_66 (k * 6) (KK_66 k) (@TKK_66 k) (by omega) h
def K_66 (a1 : Int32) (M : IM) : Option (IM) := KK_66 64 a1 M
theorem TK_66 {X : AX} {d : Nat} (hd : 384 ≤ d)  {a1 : Int32} {M : IM} {M1 : IM} (h : K_66 a1 M = some M1) : Rc X d 66 0 [some (.ref (45)), some (.int (a1)), none, none] [] M none M1 := TKK_66 64 (by omega) h
def K_61 (a1 : Int32) (M : IM) : Option (IM) := F_61 (KK_66 64) a1 M
theorem TK_61 {X : AX} {d : Nat} (hd : 389 ≤ d)  {a1 : Int32} {M : IM} {M1 : IM} (h : K_61 a1 M = some M1) : Rc X d 61 0 [some (.ref (45)), some (.int (a1)), none] [] M none M1 := T_61 (64 * 6) (KK_66 64) (@TKK_66 64) (X := X) (d := d) (by omega) h
def K_62 (a1 : Int32) (M : IM) : Option (IM) := F_62 (KK_66 64) a1 M
theorem TK_62 {X : AX} {d : Nat} (hd : 388 ≤ d)  {a1 : Int32} {M : IM} {M1 : IM} (h : K_62 a1 M = some M1) : Rc X d 62 0 [some (.ref (45)), some (.int (a1)), none] [] M none M1 := T_62 (64 * 6) (KK_66 64) (@TKK_66 64) (X := X) (d := d) (by omega) h
def K_63 (a1 : Int32) (M : IM) : Option (IM) := F_63 (KK_66 64) a1 M
theorem TK_63 {X : AX} {d : Nat} (hd : 387 ≤ d)  {a1 : Int32} {M : IM} {M1 : IM} (h : K_63 a1 M = some M1) : Rc X d 63 0 [some (.ref (45)), some (.int (a1)), none] [] M none M1 := T_63 (64 * 6) (KK_66 64) (@TKK_66 64) (X := X) (d := d) (by omega) h
def K_64 (a1 : Int32) (M : IM) : Option (IM) := F_64 (KK_66 64) a1 M
theorem TK_64 {X : AX} {d : Nat} (hd : 386 ≤ d)  {a1 : Int32} {M : IM} {M1 : IM} (h : K_64 a1 M = some M1) : Rc X d 64 0 [some (.ref (45)), some (.int (a1)), none, none] [] M none M1 := T_64 (64 * 6) (KK_66 64) (@TKK_66 64) (X := X) (d := d) (by omega) h
def K_65 (a1 : Int32) (M : IM) : Option (IM) := F_65 (KK_66 64) a1 M
theorem TK_65 {X : AX} {d : Nat} (hd : 385 ≤ d)  {a1 : Int32} {M : IM} {M1 : IM} (h : K_65 a1 M = some M1) : Rc X d 65 0 [some (.ref (45)), some (.int (a1)), none, none] [] M none M1 := T_65 (64 * 6) (KK_66 64) (@TKK_66 64) (X := X) (d := d) (by omega) h
/-! 89: NineDemands$Voices.say -/
def F_89 (rk : Int32 → Int32 → Int32 → Int32 → IM → Option (Int32 × IM)) (a1 : Int32) (a2 : Int32) (a3 : Int32) (a4 : Int32) (M : IM) : Option (Int32 × IM) := if a4 < 40 then (match F_90 a1 a2 with | none => none | some c1 => (if inb c1 6 = true then (if inb ((4 * c1) + a2) 24 = true then (match F_91 (sT 6 ((4 * c1) + a2).toNatClampNeg) M with | none => none | some M2 => (if (sT 6 ((4 * c1) + a2).toNatClampNeg) = 10 then (some ((a3 + (M2 65 2), M2))) else (if (sT 6 ((4 * c1) + a2).toNatClampNeg) = 11 then (match rk (M2 65 4) (0 : Int32) a3 (a4 + 1) M2 with | none => none | some (c27, M27) => (some ((c27 * 2, M27)))) else (if (sT 6 ((4 * c1) + a2).toNatClampNeg) = 12 then (some ((a3 - (M2 65 3), M2))) else (if (sT 6 ((4 * c1) + a2).toNatClampNeg) = 13 then (match rk (M2 65 4) (1 : Int32) a3 (a4 + 1) M2 with | none => none | some (c25, M25) => (match rk (M25 65 4) (2 : Int32) a3 (a4 + 1) M25 with | none => none | some (c26, M26) => (some ((c25 ^^^ c26, M26))))) else (if (sT 6 ((4 * c1) + a2).toNatClampNeg) = 20 then (match rk (sT 4 c1.toNatClampNeg) (1 : Int32) a3 (a4 + 1) M2 with | none => none | some (c23, M23) => (match rk (M23 65 4) (2 : Int32) a3 (a4 + 1) M23 with | none => none | some (c24, M24) => (some ((c23 + c24, M24))))) else (if (sT 6 ((4 * c1) + a2).toNatClampNeg) = 30 then (match rk (sT 4 c1.toNatClampNeg) (0 : Int32) a3 (a4 + 1) M2 with | none => none | some (c22, M22) => (some ((c22 - 1, M22)))) else (if (sT 6 ((4 * c1) + a2).toNatClampNeg) = 31 then (match rk (sT 4 c1.toNatClampNeg) (3 : Int32) (a3 + 1) (a4 + 1) M2 with | none => none | some (c21, M21) => (some ((c21, M21)))) else (if (sT 6 ((4 * c1) + a2).toNatClampNeg) = 40 then (match rk (sT 4 c1.toNatClampNeg) (2 : Int32) a3 (a4 + 1) M2 with | none => none | some (c20, M20) => (some ((-c20, M20)))) else (if (sT 6 ((4 * c1) + a2).toNatClampNeg) = 50 then (match rk (M2 65 4) (2 : Int32) a3 (a4 + 1) M2 with | none => none | some (c18, M18) => (match rk (sT 4 c1.toNatClampNeg) (3 : Int32) a3 (a4 + 1) M18 with | none => none | some (c19, M19) => (some ((c18 - c19, M19))))) else (if (sT 6 ((4 * c1) + a2).toNatClampNeg) = 51 then (match rk (sT 4 c1.toNatClampNeg) (1 : Int32) (a3 - (M2 65 3)) (a4 + 1) M2 with | none => none | some (c17, M17) => (some ((c17, M17)))) else (if (sT 6 ((4 * c1) + a2).toNatClampNeg) = 60 then (match rk (sT 4 c1.toNatClampNeg) (0 : Int32) a3 (a4 + 1) M2 with | none => none | some (c16, M16) => (some ((c16 ^^^ 5, M16)))) else (match rk (sT 4 c1.toNatClampNeg) (2 : Int32) a3 (a4 + 1) M2 with | none => none | some (c3, M3) => (match rk (M3 65 4) (0 : Int32) (1 : Int32) (a4 + 1) M3 with | none => none | some (c4, M4) => (some ((c3 * c4, M4))))))))))))))))) else none) else none)) else (some ((0, M)))
theorem TF_89 (Dk : Nat) (rk : Int32 → Int32 → Int32 → Int32 → IM → Option (Int32 × IM)) (Hk : ∀ {X : AX} {d : Nat}, Dk ≤ d → ∀ {a1 : Int32} {a2 : Int32} {a3 : Int32} {a4 : Int32} {M : IM} {x : Int32} {M1 : IM}, rk a1 a2 a3 a4 M = some (x, M1) → Rc X d 89 0 [some (.ref (65)), some (.int (a1)), some (.int (a2)), some (.int (a3)), some (.int (a4)), none, none, none, none] [] M (some (.int x)) M1) {X : AX} {d : Nat} (hd : Dk + 1 ≤ d) {a1 : Int32} {a2 : Int32} {a3 : Int32} {a4 : Int32} {M : IM} {v : Option Value} {M' : IM} {o : Int32 × IM} (h : F_89 rk a1 a2 a3 a4 M = some o) (hC : v = some (.int o.1) ∧ M' = o.2) : Rc X d 89 0 [some (.ref (65)), some (.int (a1)), some (.int (a2)), some (.int (a3)), some (.int (a4)), none, none, none, none] [] M v M' := by
  obtain ⟨d, rfl⟩ : ∃ e, d = e + 1 := ⟨d - 1, by omega⟩
  unfold F_89 at h
  refine Rc.run tb_89 2 (pc' := 4) (ls' := [some (.ref (65)), some (.int (a1)), some (.int (a2)), some (.int (a3)), some (.int (a4)), none, none, none, none]) (st' := [.int (40), .int (a4)]) rfl rfl ?_
  refine Rc.icmp_lt (pc1 := 9) tb_89 rfl rfl (by decide) (by decide) (fun hb30 => ?_) (fun hb30 => ?_)
  · rw [if_pos hb30] at h
    refine Rc.run tb_89 2 (pc' := 11) (ls' := [some (.ref (65)), some (.int (a1)), some (.int (a2)), some (.int (a3)), some (.int (a4)), none, none, none, none]) (st' := [.int (a2), .int (a1)]) rfl rfl ?_
    cases hc1 : F_90 a1 a2 with
    | none => rw [hc1] at h; cases h
    | some c1 =>
      rw [hc1] at h
      dsimp only at h
      have hq1 := T_90 (X := X) (d := d) (by omega) (M := M) hc1
      refine Rc.callS tb_89 rfl rfl rfl mS_90 mP_90 mL_90 rfl rfl rfl hq1 ?_
      refine Rc.run tb_89 3 (pc' := 21) (ls' := [some (.ref (65)), some (.int (a1)), some (.int (a2)), some (.int (a3)), some (.int (a4)), some (.int (c1)), none, none, none]) (st' := [.int (c1), .ref (1004)]) rfl rfl ?_
      by_cases hb29 : inb c1 6 = true
      · rw [if_pos hb29] at h
        refine Rc.sald tb_89 rfl rfl (q := 4) (by decide) hb29 ?_
        refine Rc.run tb_89 7 (pc' := 33) (ls' := [some (.ref (65)), some (.int (a1)), some (.int (a2)), some (.int (a3)), some (.int (a4)), some (.int (c1)), some (.int (sT 4 c1.toNatClampNeg)), none, none]) (st' := [.int ((4 * c1) + a2), .ref (1006)]) rfl rfl ?_
        by_cases hb28 : inb ((4 * c1) + a2) 24 = true
        · rw [if_pos hb28] at h
          refine Rc.sald tb_89 rfl rfl (q := 6) (by decide) hb28 ?_
          refine Rc.run tb_89 3 (pc' := 39) (ls' := [some (.ref (65)), some (.int (a1)), some (.int (a2)), some (.int (a3)), some (.int (a4)), some (.int (c1)), some (.int (sT 4 c1.toNatClampNeg)), some (.int (sT 6 ((4 * c1) + a2).toNatClampNeg)), none]) (st' := [.int (sT 6 ((4 * c1) + a2).toNatClampNeg), .ref (65)]) rfl rfl ?_
          cases hc2 : F_91 (sT 6 ((4 * c1) + a2).toNatClampNeg) M with
          | none => rw [hc2] at h; cases h
          | some M2 =>
            rw [hc2] at h
            dsimp only at h
            have hq2 := T_91 (X := X) (d := d) (by omega) (M := M) hc2
            refine Rc.callV tb_89 rfl rfl rfl mS_91 mP_91 mL_91 mO_91 rfl rfl ob_65 rfl rfl hq2 ?_
            refine Rc.run tb_89 5 (pc' := 50) (ls' := [some (.ref (65)), some (.int (a1)), some (.int (a2)), some (.int (a3)), some (.int (a4)), some (.int (c1)), some (.int (sT 4 c1.toNatClampNeg)), some (.int (sT 6 ((4 * c1) + a2).toNatClampNeg)), some (.int (a4 + 1))]) (st' := [.int (sT 6 ((4 * c1) + a2).toNatClampNeg)]) rfl rfl ?_
            by_cases hk5 : (sT 6 ((4 * c1) + a2).toNatClampNeg) = 10
            · rw [if_pos hk5] at h
              refine Rc.look (off := 98) (pc1 := 148) tb_89 rfl rfl (by decide +kernel) (by rw [hk5]; decide +kernel) (by decide) (by decide) ?_
              refine Rc.run tb_89 2 (pc' := 150) (ls' := [some (.ref (65)), some (.int (a1)), some (.int (a2)), some (.int (a3)), some (.int (a4)), some (.int (c1)), some (.int (sT 4 c1.toNatClampNeg)), some (.int (sT 6 ((4 * c1) + a2).toNatClampNeg)), some (.int (a4 + 1))]) (st' := [.ref (65), .int (a3)]) rfl rfl ?_
              refine Rc.getI tb_89 rfl rfl ob_65 (by decide +kernel) tg_65_2 ?_
              refine Rc.run tb_89 1 (pc' := 154) (ls' := [some (.ref (65)), some (.int (a1)), some (.int (a2)), some (.int (a3)), some (.int (a4)), some (.int (c1)), some (.int (sT 4 c1.toNatClampNeg)), some (.int (sT 6 ((4 * c1) + a2).toNatClampNeg)), some (.int (a4 + 1))]) (st' := [.int (a3 + (M2 65 2))]) rfl rfl ?_
              obtain rfl := Option.some.inj h
              obtain ⟨rfl, rfl⟩ := hC
              exact Rc.iret (ins := .ireturn) tb_89 rfl mR_89
            · rw [if_neg hk5] at h
              by_cases hk6 : (sT 6 ((4 * c1) + a2).toNatClampNeg) = 11
              · rw [if_pos hk6] at h
                refine Rc.look (off := 105) (pc1 := 155) tb_89 rfl rfl (by decide +kernel) (by rw [hk6]; decide +kernel) (by decide) (by decide) ?_
                refine Rc.run tb_89 2 (pc' := 157) (ls' := [some (.ref (65)), some (.int (a1)), some (.int (a2)), some (.int (a3)), some (.int (a4)), some (.int (c1)), some (.int (sT 4 c1.toNatClampNeg)), some (.int (sT 6 ((4 * c1) + a2).toNatClampNeg)), some (.int (a4 + 1))]) (st' := [.ref (65), .ref (65)]) rfl rfl ?_
                refine Rc.getI tb_89 rfl rfl ob_65 (by decide +kernel) tg_65_4 ?_
                refine Rc.run tb_89 3 (pc' := 164) (ls' := [some (.ref (65)), some (.int (a1)), some (.int (a2)), some (.int (a3)), some (.int (a4)), some (.int (c1)), some (.int (sT 4 c1.toNatClampNeg)), some (.int (sT 6 ((4 * c1) + a2).toNatClampNeg)), some (.int (a4 + 1))]) (st' := [.int (a4 + 1), .int (a3), .int (0), .int (M2 65 4), .ref (65)]) rfl rfl ?_
                cases hc27 : rk (M2 65 4) (0 : Int32) a3 (a4 + 1) M2 with
                | none => rw [hc27] at h; cases h
                | some r27 =>
                  obtain ⟨c27, M27⟩ := r27
                  rw [hc27] at h
                  dsimp only at h
                  have hq27 := Hk (X := X) (d := d) (by omega) (M := M2) hc27
                  refine Rc.callV tb_89 rfl rfl rfl mS_89 mP_89 mL_89 mO_89 rfl rfl ob_65 rfl rfl hq27 ?_
                  refine Rc.run tb_89 2 (pc' := 169) (ls' := [some (.ref (65)), some (.int (a1)), some (.int (a2)), some (.int (a3)), some (.int (a4)), some (.int (c1)), some (.int (sT 4 c1.toNatClampNeg)), some (.int (sT 6 ((4 * c1) + a2).toNatClampNeg)), some (.int (a4 + 1))]) (st' := [.int (c27 * 2)]) rfl rfl ?_
                  obtain rfl := Option.some.inj h
                  obtain ⟨rfl, rfl⟩ := hC
                  exact Rc.iret (ins := .ireturn) tb_89 rfl mR_89
              · rw [if_neg hk6] at h
                by_cases hk7 : (sT 6 ((4 * c1) + a2).toNatClampNeg) = 12
                · rw [if_pos hk7] at h
                  refine Rc.look (off := 120) (pc1 := 170) tb_89 rfl rfl (by decide +kernel) (by rw [hk7]; decide +kernel) (by decide) (by decide) ?_
                  refine Rc.run tb_89 2 (pc' := 172) (ls' := [some (.ref (65)), some (.int (a1)), some (.int (a2)), some (.int (a3)), some (.int (a4)), some (.int (c1)), some (.int (sT 4 c1.toNatClampNeg)), some (.int (sT 6 ((4 * c1) + a2).toNatClampNeg)), some (.int (a4 + 1))]) (st' := [.ref (65), .int (a3)]) rfl rfl ?_
                  refine Rc.getI tb_89 rfl rfl ob_65 (by decide +kernel) tg_65_3 ?_
                  refine Rc.run tb_89 1 (pc' := 176) (ls' := [some (.ref (65)), some (.int (a1)), some (.int (a2)), some (.int (a3)), some (.int (a4)), some (.int (c1)), some (.int (sT 4 c1.toNatClampNeg)), some (.int (sT 6 ((4 * c1) + a2).toNatClampNeg)), some (.int (a4 + 1))]) (st' := [.int (a3 - (M2 65 3))]) rfl rfl ?_
                  obtain rfl := Option.some.inj h
                  obtain ⟨rfl, rfl⟩ := hC
                  exact Rc.iret (ins := .ireturn) tb_89 rfl mR_89
                · rw [if_neg hk7] at h
                  by_cases hk8 : (sT 6 ((4 * c1) + a2).toNatClampNeg) = 13
                  · rw [if_pos hk8] at h
                    refine Rc.look (off := 127) (pc1 := 177) tb_89 rfl rfl (by decide +kernel) (by rw [hk8]; decide +kernel) (by decide) (by decide) ?_
                    refine Rc.run tb_89 2 (pc' := 179) (ls' := [some (.ref (65)), some (.int (a1)), some (.int (a2)), some (.int (a3)), some (.int (a4)), some (.int (c1)), some (.int (sT 4 c1.toNatClampNeg)), some (.int (sT 6 ((4 * c1) + a2).toNatClampNeg)), some (.int (a4 + 1))]) (st' := [.ref (65), .ref (65)]) rfl rfl ?_
                    refine Rc.getI tb_89 rfl rfl ob_65 (by decide +kernel) tg_65_4 ?_
                    refine Rc.run tb_89 3 (pc' := 186) (ls' := [some (.ref (65)), some (.int (a1)), some (.int (a2)), some (.int (a3)), some (.int (a4)), some (.int (c1)), some (.int (sT 4 c1.toNatClampNeg)), some (.int (sT 6 ((4 * c1) + a2).toNatClampNeg)), some (.int (a4 + 1))]) (st' := [.int (a4 + 1), .int (a3), .int (1), .int (M2 65 4), .ref (65)]) rfl rfl ?_
                    cases hc25 : rk (M2 65 4) (1 : Int32) a3 (a4 + 1) M2 with
                    | none => rw [hc25] at h; cases h
                    | some r25 =>
                      obtain ⟨c25, M25⟩ := r25
                      rw [hc25] at h
                      dsimp only at h
                      have hq25 := Hk (X := X) (d := d) (by omega) (M := M2) hc25
                      refine Rc.callV tb_89 rfl rfl rfl mS_89 mP_89 mL_89 mO_89 rfl rfl ob_65 rfl rfl hq25 ?_
                      refine Rc.run tb_89 2 (pc' := 191) (ls' := [some (.ref (65)), some (.int (a1)), some (.int (a2)), some (.int (a3)), some (.int (a4)), some (.int (c1)), some (.int (sT 4 c1.toNatClampNeg)), some (.int (sT 6 ((4 * c1) + a2).toNatClampNeg)), some (.int (a4 + 1))]) (st' := [.ref (65), .ref (65), .int (c25)]) rfl rfl ?_
                      refine Rc.getI tb_89 rfl rfl ob_65 (by decide +kernel) tg_65_4 ?_
                      refine Rc.run tb_89 3 (pc' := 198) (ls' := [some (.ref (65)), some (.int (a1)), some (.int (a2)), some (.int (a3)), some (.int (a4)), some (.int (c1)), some (.int (sT 4 c1.toNatClampNeg)), some (.int (sT 6 ((4 * c1) + a2).toNatClampNeg)), some (.int (a4 + 1))]) (st' := [.int (a4 + 1), .int (a3), .int (2), .int (M25 65 4), .ref (65), .int (c25)]) rfl rfl ?_
                      cases hc26 : rk (M25 65 4) (2 : Int32) a3 (a4 + 1) M25 with
                      | none => rw [hc26] at h; cases h
                      | some r26 =>
                        obtain ⟨c26, M26⟩ := r26
                        rw [hc26] at h
                        dsimp only at h
                        have hq26 := Hk (X := X) (d := d) (by omega) (M := M25) hc26
                        refine Rc.callV tb_89 rfl rfl rfl mS_89 mP_89 mL_89 mO_89 rfl rfl ob_65 rfl rfl hq26 ?_
                        refine Rc.run tb_89 1 (pc' := 202) (ls' := [some (.ref (65)), some (.int (a1)), some (.int (a2)), some (.int (a3)), some (.int (a4)), some (.int (c1)), some (.int (sT 4 c1.toNatClampNeg)), some (.int (sT 6 ((4 * c1) + a2).toNatClampNeg)), some (.int (a4 + 1))]) (st' := [.int (c25 ^^^ c26)]) rfl rfl ?_
                        obtain rfl := Option.some.inj h
                        obtain ⟨rfl, rfl⟩ := hC
                        exact Rc.iret (ins := .ireturn) tb_89 rfl mR_89
                  · rw [if_neg hk8] at h
                    by_cases hk9 : (sT 6 ((4 * c1) + a2).toNatClampNeg) = 20
                    · rw [if_pos hk9] at h
                      refine Rc.look (off := 153) (pc1 := 203) tb_89 rfl rfl (by decide +kernel) (by rw [hk9]; decide +kernel) (by decide) (by decide) ?_
                      refine Rc.run tb_89 5 (pc' := 210) (ls' := [some (.ref (65)), some (.int (a1)), some (.int (a2)), some (.int (a3)), some (.int (a4)), some (.int (c1)), some (.int (sT 4 c1.toNatClampNeg)), some (.int (sT 6 ((4 * c1) + a2).toNatClampNeg)), some (.int (a4 + 1))]) (st' := [.int (a4 + 1), .int (a3), .int (1), .int (sT 4 c1.toNatClampNeg), .ref (65)]) rfl rfl ?_
                      cases hc23 : rk (sT 4 c1.toNatClampNeg) (1 : Int32) a3 (a4 + 1) M2 with
                      | none => rw [hc23] at h; cases h
                      | some r23 =>
                        obtain ⟨c23, M23⟩ := r23
                        rw [hc23] at h
                        dsimp only at h
                        have hq23 := Hk (X := X) (d := d) (by omega) (M := M2) hc23
                        refine Rc.callV tb_89 rfl rfl rfl mS_89 mP_89 mL_89 mO_89 rfl rfl ob_65 rfl rfl hq23 ?_
                        refine Rc.run tb_89 2 (pc' := 215) (ls' := [some (.ref (65)), some (.int (a1)), some (.int (a2)), some (.int (a3)), some (.int (a4)), some (.int (c1)), some (.int (sT 4 c1.toNatClampNeg)), some (.int (sT 6 ((4 * c1) + a2).toNatClampNeg)), some (.int (a4 + 1))]) (st' := [.ref (65), .ref (65), .int (c23)]) rfl rfl ?_
                        refine Rc.getI tb_89 rfl rfl ob_65 (by decide +kernel) tg_65_4 ?_
                        refine Rc.run tb_89 3 (pc' := 222) (ls' := [some (.ref (65)), some (.int (a1)), some (.int (a2)), some (.int (a3)), some (.int (a4)), some (.int (c1)), some (.int (sT 4 c1.toNatClampNeg)), some (.int (sT 6 ((4 * c1) + a2).toNatClampNeg)), some (.int (a4 + 1))]) (st' := [.int (a4 + 1), .int (a3), .int (2), .int (M23 65 4), .ref (65), .int (c23)]) rfl rfl ?_
                        cases hc24 : rk (M23 65 4) (2 : Int32) a3 (a4 + 1) M23 with
                        | none => rw [hc24] at h; cases h
                        | some r24 =>
                          obtain ⟨c24, M24⟩ := r24
                          rw [hc24] at h
                          dsimp only at h
                          have hq24 := Hk (X := X) (d := d) (by omega) (M := M23) hc24
                          refine Rc.callV tb_89 rfl rfl rfl mS_89 mP_89 mL_89 mO_89 rfl rfl ob_65 rfl rfl hq24 ?_
                          refine Rc.run tb_89 1 (pc' := 226) (ls' := [some (.ref (65)), some (.int (a1)), some (.int (a2)), some (.int (a3)), some (.int (a4)), some (.int (c1)), some (.int (sT 4 c1.toNatClampNeg)), some (.int (sT 6 ((4 * c1) + a2).toNatClampNeg)), some (.int (a4 + 1))]) (st' := [.int (c23 + c24)]) rfl rfl ?_
                          obtain rfl := Option.some.inj h
                          obtain ⟨rfl, rfl⟩ := hC
                          exact Rc.iret (ins := .ireturn) tb_89 rfl mR_89
                    · rw [if_neg hk9] at h
                      by_cases hk10 : (sT 6 ((4 * c1) + a2).toNatClampNeg) = 30
                      · rw [if_pos hk10] at h
                        refine Rc.look (off := 177) (pc1 := 227) tb_89 rfl rfl (by decide +kernel) (by rw [hk10]; decide +kernel) (by decide) (by decide) ?_
                        refine Rc.run tb_89 5 (pc' := 234) (ls' := [some (.ref (65)), some (.int (a1)), some (.int (a2)), some (.int (a3)), some (.int (a4)), some (.int (c1)), some (.int (sT 4 c1.toNatClampNeg)), some (.int (sT 6 ((4 * c1) + a2).toNatClampNeg)), some (.int (a4 + 1))]) (st' := [.int (a4 + 1), .int (a3), .int (0), .int (sT 4 c1.toNatClampNeg), .ref (65)]) rfl rfl ?_
                        cases hc22 : rk (sT 4 c1.toNatClampNeg) (0 : Int32) a3 (a4 + 1) M2 with
                        | none => rw [hc22] at h; cases h
                        | some r22 =>
                          obtain ⟨c22, M22⟩ := r22
                          rw [hc22] at h
                          dsimp only at h
                          have hq22 := Hk (X := X) (d := d) (by omega) (M := M2) hc22
                          refine Rc.callV tb_89 rfl rfl rfl mS_89 mP_89 mL_89 mO_89 rfl rfl ob_65 rfl rfl hq22 ?_
                          refine Rc.run tb_89 2 (pc' := 239) (ls' := [some (.ref (65)), some (.int (a1)), some (.int (a2)), some (.int (a3)), some (.int (a4)), some (.int (c1)), some (.int (sT 4 c1.toNatClampNeg)), some (.int (sT 6 ((4 * c1) + a2).toNatClampNeg)), some (.int (a4 + 1))]) (st' := [.int (c22 - 1)]) rfl rfl ?_
                          obtain rfl := Option.some.inj h
                          obtain ⟨rfl, rfl⟩ := hC
                          exact Rc.iret (ins := .ireturn) tb_89 rfl mR_89
                      · rw [if_neg hk10] at h
                        by_cases hk11 : (sT 6 ((4 * c1) + a2).toNatClampNeg) = 31
                        · rw [if_pos hk11] at h
                          refine Rc.look (off := 190) (pc1 := 240) tb_89 rfl rfl (by decide +kernel) (by rw [hk11]; decide +kernel) (by decide) (by decide) ?_
                          refine Rc.run tb_89 7 (pc' := 249) (ls' := [some (.ref (65)), some (.int (a1)), some (.int (a2)), some (.int (a3)), some (.int (a4)), some (.int (c1)), some (.int (sT 4 c1.toNatClampNeg)), some (.int (sT 6 ((4 * c1) + a2).toNatClampNeg)), some (.int (a4 + 1))]) (st' := [.int (a4 + 1), .int (a3 + 1), .int (3), .int (sT 4 c1.toNatClampNeg), .ref (65)]) rfl rfl ?_
                          cases hc21 : rk (sT 4 c1.toNatClampNeg) (3 : Int32) (a3 + 1) (a4 + 1) M2 with
                          | none => rw [hc21] at h; cases h
                          | some r21 =>
                            obtain ⟨c21, M21⟩ := r21
                            rw [hc21] at h
                            dsimp only at h
                            have hq21 := Hk (X := X) (d := d) (by omega) (M := M2) hc21
                            refine Rc.callV tb_89 rfl rfl rfl mS_89 mP_89 mL_89 mO_89 rfl rfl ob_65 rfl rfl hq21 ?_
                            obtain rfl := Option.some.inj h
                            obtain ⟨rfl, rfl⟩ := hC
                            exact Rc.iret (ins := .ireturn) tb_89 rfl mR_89
                        · rw [if_neg hk11] at h
                          by_cases hk12 : (sT 6 ((4 * c1) + a2).toNatClampNeg) = 40
                          · rw [if_pos hk12] at h
                            refine Rc.look (off := 203) (pc1 := 253) tb_89 rfl rfl (by decide +kernel) (by rw [hk12]; decide +kernel) (by decide) (by decide) ?_
                            refine Rc.run tb_89 5 (pc' := 260) (ls' := [some (.ref (65)), some (.int (a1)), some (.int (a2)), some (.int (a3)), some (.int (a4)), some (.int (c1)), some (.int (sT 4 c1.toNatClampNeg)), some (.int (sT 6 ((4 * c1) + a2).toNatClampNeg)), some (.int (a4 + 1))]) (st' := [.int (a4 + 1), .int (a3), .int (2), .int (sT 4 c1.toNatClampNeg), .ref (65)]) rfl rfl ?_
                            cases hc20 : rk (sT 4 c1.toNatClampNeg) (2 : Int32) a3 (a4 + 1) M2 with
                            | none => rw [hc20] at h; cases h
                            | some r20 =>
                              obtain ⟨c20, M20⟩ := r20
                              rw [hc20] at h
                              dsimp only at h
                              have hq20 := Hk (X := X) (d := d) (by omega) (M := M2) hc20
                              refine Rc.callV tb_89 rfl rfl rfl mS_89 mP_89 mL_89 mO_89 rfl rfl ob_65 rfl rfl hq20 ?_
                              refine Rc.run tb_89 1 (pc' := 264) (ls' := [some (.ref (65)), some (.int (a1)), some (.int (a2)), some (.int (a3)), some (.int (a4)), some (.int (c1)), some (.int (sT 4 c1.toNatClampNeg)), some (.int (sT 6 ((4 * c1) + a2).toNatClampNeg)), some (.int (a4 + 1))]) (st' := [.int (-c20)]) rfl rfl ?_
                              obtain rfl := Option.some.inj h
                              obtain ⟨rfl, rfl⟩ := hC
                              exact Rc.iret (ins := .ireturn) tb_89 rfl mR_89
                          · rw [if_neg hk12] at h
                            by_cases hk13 : (sT 6 ((4 * c1) + a2).toNatClampNeg) = 50
                            · rw [if_pos hk13] at h
                              refine Rc.look (off := 215) (pc1 := 265) tb_89 rfl rfl (by decide +kernel) (by rw [hk13]; decide +kernel) (by decide) (by decide) ?_
                              refine Rc.run tb_89 2 (pc' := 267) (ls' := [some (.ref (65)), some (.int (a1)), some (.int (a2)), some (.int (a3)), some (.int (a4)), some (.int (c1)), some (.int (sT 4 c1.toNatClampNeg)), some (.int (sT 6 ((4 * c1) + a2).toNatClampNeg)), some (.int (a4 + 1))]) (st' := [.ref (65), .ref (65)]) rfl rfl ?_
                              refine Rc.getI tb_89 rfl rfl ob_65 (by decide +kernel) tg_65_4 ?_
                              refine Rc.run tb_89 3 (pc' := 274) (ls' := [some (.ref (65)), some (.int (a1)), some (.int (a2)), some (.int (a3)), some (.int (a4)), some (.int (c1)), some (.int (sT 4 c1.toNatClampNeg)), some (.int (sT 6 ((4 * c1) + a2).toNatClampNeg)), some (.int (a4 + 1))]) (st' := [.int (a4 + 1), .int (a3), .int (2), .int (M2 65 4), .ref (65)]) rfl rfl ?_
                              cases hc18 : rk (M2 65 4) (2 : Int32) a3 (a4 + 1) M2 with
                              | none => rw [hc18] at h; cases h
                              | some r18 =>
                                obtain ⟨c18, M18⟩ := r18
                                rw [hc18] at h
                                dsimp only at h
                                have hq18 := Hk (X := X) (d := d) (by omega) (M := M2) hc18
                                refine Rc.callV tb_89 rfl rfl rfl mS_89 mP_89 mL_89 mO_89 rfl rfl ob_65 rfl rfl hq18 ?_
                                refine Rc.run tb_89 5 (pc' := 284) (ls' := [some (.ref (65)), some (.int (a1)), some (.int (a2)), some (.int (a3)), some (.int (a4)), some (.int (c1)), some (.int (sT 4 c1.toNatClampNeg)), some (.int (sT 6 ((4 * c1) + a2).toNatClampNeg)), some (.int (a4 + 1))]) (st' := [.int (a4 + 1), .int (a3), .int (3), .int (sT 4 c1.toNatClampNeg), .ref (65), .int (c18)]) rfl rfl ?_
                                cases hc19 : rk (sT 4 c1.toNatClampNeg) (3 : Int32) a3 (a4 + 1) M18 with
                                | none => rw [hc19] at h; cases h
                                | some r19 =>
                                  obtain ⟨c19, M19⟩ := r19
                                  rw [hc19] at h
                                  dsimp only at h
                                  have hq19 := Hk (X := X) (d := d) (by omega) (M := M18) hc19
                                  refine Rc.callV tb_89 rfl rfl rfl mS_89 mP_89 mL_89 mO_89 rfl rfl ob_65 rfl rfl hq19 ?_
                                  refine Rc.run tb_89 1 (pc' := 288) (ls' := [some (.ref (65)), some (.int (a1)), some (.int (a2)), some (.int (a3)), some (.int (a4)), some (.int (c1)), some (.int (sT 4 c1.toNatClampNeg)), some (.int (sT 6 ((4 * c1) + a2).toNatClampNeg)), some (.int (a4 + 1))]) (st' := [.int (c18 - c19)]) rfl rfl ?_
                                  obtain rfl := Option.some.inj h
                                  obtain ⟨rfl, rfl⟩ := hC
                                  exact Rc.iret (ins := .ireturn) tb_89 rfl mR_89
                            · rw [if_neg hk13] at h
                              by_cases hk14 : (sT 6 ((4 * c1) + a2).toNatClampNeg) = 51
                              · rw [if_pos hk14] at h
                                refine Rc.look (off := 239) (pc1 := 289) tb_89 rfl rfl (by decide +kernel) (by rw [hk14]; decide +kernel) (by decide) (by decide) ?_
                                refine Rc.run tb_89 5 (pc' := 295) (ls' := [some (.ref (65)), some (.int (a1)), some (.int (a2)), some (.int (a3)), some (.int (a4)), some (.int (c1)), some (.int (sT 4 c1.toNatClampNeg)), some (.int (sT 6 ((4 * c1) + a2).toNatClampNeg)), some (.int (a4 + 1))]) (st' := [.ref (65), .int (a3), .int (1), .int (sT 4 c1.toNatClampNeg), .ref (65)]) rfl rfl ?_
                                refine Rc.getI tb_89 rfl rfl ob_65 (by decide +kernel) tg_65_3 ?_
                                refine Rc.run tb_89 2 (pc' := 301) (ls' := [some (.ref (65)), some (.int (a1)), some (.int (a2)), some (.int (a3)), some (.int (a4)), some (.int (c1)), some (.int (sT 4 c1.toNatClampNeg)), some (.int (sT 6 ((4 * c1) + a2).toNatClampNeg)), some (.int (a4 + 1))]) (st' := [.int (a4 + 1), .int (a3 - (M2 65 3)), .int (1), .int (sT 4 c1.toNatClampNeg), .ref (65)]) rfl rfl ?_
                                cases hc17 : rk (sT 4 c1.toNatClampNeg) (1 : Int32) (a3 - (M2 65 3)) (a4 + 1) M2 with
                                | none => rw [hc17] at h; cases h
                                | some r17 =>
                                  obtain ⟨c17, M17⟩ := r17
                                  rw [hc17] at h
                                  dsimp only at h
                                  have hq17 := Hk (X := X) (d := d) (by omega) (M := M2) hc17
                                  refine Rc.callV tb_89 rfl rfl rfl mS_89 mP_89 mL_89 mO_89 rfl rfl ob_65 rfl rfl hq17 ?_
                                  obtain rfl := Option.some.inj h
                                  obtain ⟨rfl, rfl⟩ := hC
                                  exact Rc.iret (ins := .ireturn) tb_89 rfl mR_89
                              · rw [if_neg hk14] at h
                                by_cases hk15 : (sT 6 ((4 * c1) + a2).toNatClampNeg) = 60
                                · rw [if_pos hk15] at h
                                  refine Rc.look (off := 255) (pc1 := 305) tb_89 rfl rfl (by decide +kernel) (by rw [hk15]; decide +kernel) (by decide) (by decide) ?_
                                  refine Rc.run tb_89 5 (pc' := 312) (ls' := [some (.ref (65)), some (.int (a1)), some (.int (a2)), some (.int (a3)), some (.int (a4)), some (.int (c1)), some (.int (sT 4 c1.toNatClampNeg)), some (.int (sT 6 ((4 * c1) + a2).toNatClampNeg)), some (.int (a4 + 1))]) (st' := [.int (a4 + 1), .int (a3), .int (0), .int (sT 4 c1.toNatClampNeg), .ref (65)]) rfl rfl ?_
                                  cases hc16 : rk (sT 4 c1.toNatClampNeg) (0 : Int32) a3 (a4 + 1) M2 with
                                  | none => rw [hc16] at h; cases h
                                  | some r16 =>
                                    obtain ⟨c16, M16⟩ := r16
                                    rw [hc16] at h
                                    dsimp only at h
                                    have hq16 := Hk (X := X) (d := d) (by omega) (M := M2) hc16
                                    refine Rc.callV tb_89 rfl rfl rfl mS_89 mP_89 mL_89 mO_89 rfl rfl ob_65 rfl rfl hq16 ?_
                                    refine Rc.run tb_89 2 (pc' := 317) (ls' := [some (.ref (65)), some (.int (a1)), some (.int (a2)), some (.int (a3)), some (.int (a4)), some (.int (c1)), some (.int (sT 4 c1.toNatClampNeg)), some (.int (sT 6 ((4 * c1) + a2).toNatClampNeg)), some (.int (a4 + 1))]) (st' := [.int (c16 ^^^ 5)]) rfl rfl ?_
                                    obtain rfl := Option.some.inj h
                                    obtain ⟨rfl, rfl⟩ := hC
                                    exact Rc.iret (ins := .ireturn) tb_89 rfl mR_89
                                · rw [if_neg hk15] at h
                                  refine Rc.look (off := 268) (pc1 := 318) tb_89 rfl rfl (by decide +kernel) (lks_df [10, 11, 12, 13, 20, 30, 31, 40, 50, 51, 60] (by decide +kernel) (fun k hk => by simp only [List.mem_cons, List.not_mem_nil, or_false] at hk; rcases hk with rfl | rfl | rfl | rfl | rfl | rfl | rfl | rfl | rfl | rfl | rfl <;> assumption)) (by decide) (by decide) ?_
                                  refine Rc.run tb_89 5 (pc' := 325) (ls' := [some (.ref (65)), some (.int (a1)), some (.int (a2)), some (.int (a3)), some (.int (a4)), some (.int (c1)), some (.int (sT 4 c1.toNatClampNeg)), some (.int (sT 6 ((4 * c1) + a2).toNatClampNeg)), some (.int (a4 + 1))]) (st' := [.int (a4 + 1), .int (a3), .int (2), .int (sT 4 c1.toNatClampNeg), .ref (65)]) rfl rfl ?_
                                  cases hc3 : rk (sT 4 c1.toNatClampNeg) (2 : Int32) a3 (a4 + 1) M2 with
                                  | none => rw [hc3] at h; cases h
                                  | some r3 =>
                                    obtain ⟨c3, M3⟩ := r3
                                    rw [hc3] at h
                                    dsimp only at h
                                    have hq3 := Hk (X := X) (d := d) (by omega) (M := M2) hc3
                                    refine Rc.callV tb_89 rfl rfl rfl mS_89 mP_89 mL_89 mO_89 rfl rfl ob_65 rfl rfl hq3 ?_
                                    refine Rc.run tb_89 2 (pc' := 330) (ls' := [some (.ref (65)), some (.int (a1)), some (.int (a2)), some (.int (a3)), some (.int (a4)), some (.int (c1)), some (.int (sT 4 c1.toNatClampNeg)), some (.int (sT 6 ((4 * c1) + a2).toNatClampNeg)), some (.int (a4 + 1))]) (st' := [.ref (65), .ref (65), .int (c3)]) rfl rfl ?_
                                    refine Rc.getI tb_89 rfl rfl ob_65 (by decide +kernel) tg_65_4 ?_
                                    refine Rc.run tb_89 3 (pc' := 337) (ls' := [some (.ref (65)), some (.int (a1)), some (.int (a2)), some (.int (a3)), some (.int (a4)), some (.int (c1)), some (.int (sT 4 c1.toNatClampNeg)), some (.int (sT 6 ((4 * c1) + a2).toNatClampNeg)), some (.int (a4 + 1))]) (st' := [.int (a4 + 1), .int (1), .int (0), .int (M3 65 4), .ref (65), .int (c3)]) rfl rfl ?_
                                    cases hc4 : rk (M3 65 4) (0 : Int32) (1 : Int32) (a4 + 1) M3 with
                                    | none => rw [hc4] at h; cases h
                                    | some r4 =>
                                      obtain ⟨c4, M4⟩ := r4
                                      rw [hc4] at h
                                      dsimp only at h
                                      have hq4 := Hk (X := X) (d := d) (by omega) (M := M3) hc4
                                      refine Rc.callV tb_89 rfl rfl rfl mS_89 mP_89 mL_89 mO_89 rfl rfl ob_65 rfl rfl hq4 ?_
                                      refine Rc.run tb_89 1 (pc' := 341) (ls' := [some (.ref (65)), some (.int (a1)), some (.int (a2)), some (.int (a3)), some (.int (a4)), some (.int (c1)), some (.int (sT 4 c1.toNatClampNeg)), some (.int (sT 6 ((4 * c1) + a2).toNatClampNeg)), some (.int (a4 + 1))]) (st' := [.int (c3 * c4)]) rfl rfl ?_
                                      obtain rfl := Option.some.inj h
                                      obtain ⟨rfl, rfl⟩ := hC
                                      exact Rc.iret (ins := .ireturn) tb_89 rfl mR_89
        · rw [if_neg hb28] at h
          cases h
      · rw [if_neg hb29] at h
        cases h
  · rw [if_neg hb30] at h
    refine Rc.run tb_89 1 (pc' := 8) (ls' := [some (.ref (65)), some (.int (a1)), some (.int (a2)), some (.int (a3)), some (.int (a4)), none, none, none, none]) (st' := [.int (0)]) rfl rfl ?_
    obtain rfl := Option.some.inj h
    obtain ⟨rfl, rfl⟩ := hC
    exact Rc.iret (ins := .ireturn) tb_89 rfl mR_89
theorem T_89 (Dk : Nat) (rk : Int32 → Int32 → Int32 → Int32 → IM → Option (Int32 × IM)) (Hk : ∀ {X : AX} {d : Nat}, Dk ≤ d → ∀ {a1 : Int32} {a2 : Int32} {a3 : Int32} {a4 : Int32} {M : IM} {x : Int32} {M1 : IM}, rk a1 a2 a3 a4 M = some (x, M1) → Rc X d 89 0 [some (.ref (65)), some (.int (a1)), some (.int (a2)), some (.int (a3)), some (.int (a4)), none, none, none, none] [] M (some (.int x)) M1) {X : AX} {d : Nat} (hd : Dk + 1 ≤ d) {a1 : Int32} {a2 : Int32} {a3 : Int32} {a4 : Int32} {M : IM} {x : Int32} {M1 : IM} (h : F_89 rk a1 a2 a3 a4 M = some (x, M1)) : Rc X d 89 0 [some (.ref (65)), some (.int (a1)), some (.int (a2)), some (.int (a3)), some (.int (a4)), none, none, none, none] [] M (some (.int x)) M1 := TF_89 Dk rk Hk hd h ⟨rfl, rfl⟩
def KK_89 : Nat → Int32 → Int32 → Int32 → Int32 → IM → Option (Int32 × IM)
  | 0, _, _, _, _, _ => none
  | k + 1, a1, a2, a3, a4, M => F_89 (KK_89 k) a1 a2 a3 a4 M
theorem TKK_89 : ∀ (k : Nat), ∀ {X : AX} {d : Nat}, k * 1 ≤ d → ∀ {a1 : Int32} {a2 : Int32} {a3 : Int32} {a4 : Int32} {M : IM} {x : Int32} {M1 : IM}, KK_89 k a1 a2 a3 a4 M = some (x, M1) → Rc X d 89 0 [some (.ref (65)), some (.int (a1)), some (.int (a2)), some (.int (a3)), some (.int (a4)), none, none, none, none] [] M (some (.int x)) M1
  | 0 => by intros; rename_i h; cases h
  | k + 1 => by intro hd; intros; rename_i h; exact T_89 (k * 1) (KK_89 k) (@TKK_89 k) (by omega) h
def K_89 (a1 : Int32) (a2 : Int32) (a3 : Int32) (a4 : Int32) (M : IM) : Option (Int32 × IM) := KK_89 64 a1 a2 a3 a4 M
theorem TK_89 {X : AX} {d : Nat} (hd : 64 ≤ d)  {a1 : Int32} {a2 : Int32} {a3 : Int32} {a4 : Int32} {M : IM} {x : Int32} {M1 : IM} (h : K_89 a1 a2 a3 a4 M = some (x, M1)) : Rc X d 89 0 [some (.ref (65)), some (.int (a1)), some (.int (a2)), some (.int (a3)), some (.int (a4)), none, none, none, none] [] M (some (.int x)) M1 := TKK_89 64 (by omega) h
/-! 88: NineDemands$Voices.raise -/
def F_88 (a1 : Int32) (t2 : Nat) (a3 : Int32) (a4 : Int32) (M : IM) : Option (Int32 × IM) := (match K_89 ((iset (iset (iset (iset M 65 1 0) 65 2 a1) 65 3 ((iset (iset M 65 1 0) 65 2 a1) t2 1)) 65 4 ((iset (iset (iset M 65 1 0) 65 2 a1) 65 3 ((iset (iset M 65 1 0) 65 2 a1) t2 1)) t2 0)) 65 4) a3 a4 (0 : Int32) (iset (iset (iset (iset M 65 1 0) 65 2 a1) 65 3 ((iset (iset M 65 1 0) 65 2 a1) t2 1)) 65 4 ((iset (iset (iset M 65 1 0) 65 2 a1) 65 3 ((iset (iset M 65 1 0) 65 2 a1) t2 1)) t2 0)) with | none => none | some (c1, M1) => (some ((c1, M1))))
theorem TF_88 {X : AX} {d : Nat} (hd : 65 ≤ d) {a1 : Int32} {t2 : Nat} {a3 : Int32} {a4 : Int32} {M : IM} (ht2 : LawH t2) {v : Option Value} {M' : IM} {o : Int32 × IM} (h : F_88 a1 t2 a3 a4 M = some o) (hC : v = some (.int o.1) ∧ M' = o.2) : Rc X d 88 0 [some (.ref (65)), some (.int (a1)), some (.ref (t2)), some (.int (a3)), some (.int (a4))] [] M v M' := by
  obtain ⟨d, rfl⟩ : ∃ e, d = e + 1 := ⟨d - 1, by omega⟩
  unfold F_88 at h
  refine Rc.run tb_88 2 (pc' := 2) (ls' := [some (.ref (65)), some (.int (a1)), some (.ref (t2)), some (.int (a3)), some (.int (a4))]) (st' := [.int (0), .ref (65)]) rfl rfl ?_
  refine Rc.putI tb_88 rfl rfl ob_65 (by decide +kernel) tg_65_1 rfl ?_
  refine Rc.run tb_88 2 (pc' := 7) (ls' := [some (.ref (65)), some (.int (a1)), some (.ref (t2)), some (.int (a3)), some (.int (a4))]) (st' := [.int (a1), .ref (65)]) rfl rfl ?_
  refine Rc.putI tb_88 rfl rfl ob_65 (by decide +kernel) tg_65_2 rfl ?_
  refine Rc.run tb_88 2 (pc' := 12) (ls' := [some (.ref (65)), some (.int (a1)), some (.ref (t2)), some (.int (a3)), some (.int (a4))]) (st' := [.ref (t2), .ref (65)]) rfl rfl ?_
  refine Rc.getI tb_88 rfl rfl (LawH.ob ht2) (by decide +kernel) (LawH.f1 ht2) ?_
  refine Rc.putI tb_88 rfl rfl ob_65 (by decide +kernel) tg_65_3 rfl ?_
  refine Rc.run tb_88 2 (pc' := 20) (ls' := [some (.ref (65)), some (.int (a1)), some (.ref (t2)), some (.int (a3)), some (.int (a4))]) (st' := [.ref (t2), .ref (65)]) rfl rfl ?_
  refine Rc.getI tb_88 rfl rfl (LawH.ob ht2) (by decide +kernel) (LawH.f0 ht2) ?_
  refine Rc.putI tb_88 rfl rfl ob_65 (by decide +kernel) tg_65_4 rfl ?_
  refine Rc.run tb_88 2 (pc' := 28) (ls' := [some (.ref (65)), some (.int (a1)), some (.ref (t2)), some (.int (a3)), some (.int (a4))]) (st' := [.ref (65), .ref (65)]) rfl rfl ?_
  refine Rc.getI tb_88 rfl rfl ob_65 (by decide +kernel) tg_65_4 ?_
  refine Rc.run tb_88 3 (pc' := 35) (ls' := [some (.ref (65)), some (.int (a1)), some (.ref (t2)), some (.int (a3)), some (.int (a4))]) (st' := [.int (0), .int (a4), .int (a3), .int ((iset (iset (iset (iset M 65 1 0) 65 2 a1) 65 3 ((iset (iset M 65 1 0) 65 2 a1) t2 1)) 65 4 ((iset (iset (iset M 65 1 0) 65 2 a1) 65 3 ((iset (iset M 65 1 0) 65 2 a1) t2 1)) t2 0)) 65 4), .ref (65)]) rfl rfl ?_
  cases hc1 : K_89 ((iset (iset (iset (iset M 65 1 0) 65 2 a1) 65 3 ((iset (iset M 65 1 0) 65 2 a1) t2 1)) 65 4 ((iset (iset (iset M 65 1 0) 65 2 a1) 65 3 ((iset (iset M 65 1 0) 65 2 a1) t2 1)) t2 0)) 65 4) a3 a4 (0 : Int32) (iset (iset (iset (iset M 65 1 0) 65 2 a1) 65 3 ((iset (iset M 65 1 0) 65 2 a1) t2 1)) 65 4 ((iset (iset (iset M 65 1 0) 65 2 a1) 65 3 ((iset (iset M 65 1 0) 65 2 a1) t2 1)) t2 0)) with
  | none => rw [hc1] at h; cases h
  | some r1 =>
    obtain ⟨c1, M1⟩ := r1
    rw [hc1] at h
    dsimp only at h
    have hq1 := TK_89 (X := X) (d := d) (by omega) (M := iset (iset (iset (iset M 65 1 0) 65 2 a1) 65 3 ((iset (iset M 65 1 0) 65 2 a1) t2 1)) 65 4 ((iset (iset (iset M 65 1 0) 65 2 a1) 65 3 ((iset (iset M 65 1 0) 65 2 a1) t2 1)) t2 0)) hc1
    refine Rc.callV tb_88 rfl rfl rfl mS_89 mP_89 mL_89 mO_89 rfl rfl ob_65 rfl rfl hq1 ?_
    obtain rfl := Option.some.inj h
    obtain ⟨rfl, rfl⟩ := hC
    exact Rc.iret (ins := .ireturn) tb_88 rfl mR_88
theorem T_88 {X : AX} {d : Nat} (hd : 65 ≤ d) {a1 : Int32} {t2 : Nat} {a3 : Int32} {a4 : Int32} {M : IM} (ht2 : LawH t2) {x : Int32} {M1 : IM} (h : F_88 a1 t2 a3 a4 M = some (x, M1)) : Rc X d 88 0 [some (.ref (65)), some (.int (a1)), some (.ref (t2)), some (.int (a3)), some (.int (a4))] [] M (some (.int x)) M1 := TF_88 hd ht2 h ⟨rfl, rfl⟩
/-! 146: NineDemands.isOut -/
def J_146_44 (x1 : Int32) (M : IM) : Option (Int32 × IM) := if inb x1 256 = true then (if M 68 x1.toNatClampNeg = 0 then (some ((1, M))) else (some ((0, M)))) else none
def J_146_43 (x1 : Int32) (s0 : Int32) (s1 : Int32) (M : IM) : Option (Int32 × IM) := if inb s1 256 = true then (J_146_44 x1 (iset M 68 s1.toNatClampNeg s0)) else none
def F_146 (a1 : Int32) (M : IM) : Option (Int32 × IM) := if inb a1 256 = true then (if M 68 a1.toNatClampNeg = (-2) then (match F_22 1 a1 M with | none => none | some M1 => (match F_25 M1 with | none => none | some (c2, M2) => (if c2 = 0 then (J_146_43 a1 (0 : Int32) a1 M2) else (J_146_43 a1 ((-1) : Int32) a1 M2)))) else (J_146_44 a1 M)) else none
theorem TJ_146_44 {X : AX} {d : Nat} (hd : 66 ≤ d) {x1 : Int32} {M : IM} {v : Option Value} {M' : IM} {o : Int32 × IM} (h : J_146_44 x1 M = some o) (hC : v = some (.int o.1) ∧ M' = o.2) : Rc X d 146 44 [some (.ref (0)), some (.int (x1))] [] M v M' := by
  obtain ⟨d, rfl⟩ : ∃ e, d = e + 1 := ⟨d - 1, by omega⟩
  unfold J_146_44 at h
  refine Rc.run tb_146 1 (pc' := 45) (ls' := [some (.ref (0)), some (.int (x1))]) (st' := [.ref (0)]) rfl rfl ?_
  refine Rc.getR tb_146 rfl rfl ob_0 (by decide +kernel) tg_0_11 (by decide) ?_
  refine Rc.run tb_146 1 (pc' := 49) (ls' := [some (.ref (0)), some (.int (x1))]) (st' := [.int (x1), .ref (68)]) rfl rfl ?_
  by_cases hb4 : inb x1 256 = true
  · rw [if_pos hb4] at h
    refine Rc.iald tb_146 rfl rfl ia_68 hb4 ?_
    refine Rc.if_ne (pc1 := 57) tb_146 rfl rfl (by decide) (by decide) (fun hb3 => ?_) (fun hb3 => ?_)
    · rw [if_pos hb3] at h
      refine Rc.run tb_146 2 (pc' := 58) (ls' := [some (.ref (0)), some (.int (x1))]) (st' := [.int (1)]) rfl rfl ?_
      obtain rfl := Option.some.inj h
      obtain ⟨rfl, rfl⟩ := hC
      exact Rc.zret tb_146 rfl mR_146 (Or.inr rfl)
    · rw [if_neg hb3] at h
      refine Rc.run tb_146 1 (pc' := 58) (ls' := [some (.ref (0)), some (.int (x1))]) (st' := [.int (0)]) rfl rfl ?_
      obtain rfl := Option.some.inj h
      obtain ⟨rfl, rfl⟩ := hC
      exact Rc.zret tb_146 rfl mR_146 (Or.inl rfl)
  · rw [if_neg hb4] at h
    cases h
theorem TJ_146_43 {X : AX} {d : Nat} (hd : 66 ≤ d) {x1 : Int32} {s0 : Int32} {s1 : Int32} {M : IM} {v : Option Value} {M' : IM} {o : Int32 × IM} (h : J_146_43 x1 s0 s1 M = some o) (hC : v = some (.int o.1) ∧ M' = o.2) : Rc X d 146 43 [some (.ref (0)), some (.int (x1))] [.int (s0), .int (s1), .ref (68)] M v M' := by
  obtain ⟨d, rfl⟩ : ∃ e, d = e + 1 := ⟨d - 1, by omega⟩
  unfold J_146_43 at h
  by_cases hb5 : inb s1 256 = true
  · rw [if_pos hb5] at h
    refine Rc.iast tb_146 rfl rfl ia_68 hb5 ?_
    refine Rc.mask (b := 3) ((tb_146.2 44).trans rfl) (ls' := [some (.ref (0)), some (.int (x1))]) rfl ?_
    exact TJ_146_44 (X := X) (d := d + 1) (by omega) h hC
  · rw [if_neg hb5] at h
    cases h
theorem TF_146 {X : AX} {d : Nat} (hd : 66 ≤ d) {a1 : Int32} {M : IM} {v : Option Value} {M' : IM} {o : Int32 × IM} (h : F_146 a1 M = some o) (hC : v = some (.int o.1) ∧ M' = o.2) : Rc X d 146 0 [some (.ref (0)), some (.int (a1))] [] M v M' := by
  obtain ⟨d, rfl⟩ : ∃ e, d = e + 1 := ⟨d - 1, by omega⟩
  unfold F_146 at h
  refine Rc.run tb_146 1 (pc' := 1) (ls' := [some (.ref (0)), some (.int (a1))]) (st' := [.ref (0)]) rfl rfl ?_
  refine Rc.getR tb_146 rfl rfl ob_0 (by decide +kernel) tg_0_11 (by decide) ?_
  refine Rc.run tb_146 1 (pc' := 5) (ls' := [some (.ref (0)), some (.int (a1))]) (st' := [.int (a1), .ref (68)]) rfl rfl ?_
  by_cases hb8 : inb a1 256 = true
  · rw [if_pos hb8] at h
    refine Rc.iald tb_146 rfl rfl ia_68 hb8 ?_
    refine Rc.run tb_146 1 (pc' := 8) (ls' := [some (.ref (0)), some (.int (a1))]) (st' := [.int ((-2)), .int (M 68 a1.toNatClampNeg)]) rfl rfl ?_
    refine Rc.icmp_ne (pc1 := 44) tb_146 rfl rfl (by decide) (by decide) (fun hb7 => ?_) (fun hb7 => ?_)
    · rw [if_pos hb7] at h
      refine Rc.run tb_146 1 (pc' := 12) (ls' := [some (.ref (0)), some (.int (a1))]) (st' := [.ref (0)]) rfl rfl ?_
      refine Rc.getR tb_146 rfl rfl ob_0 (by decide +kernel) tg_0_7 (by decide) ?_
      refine Rc.run tb_146 1 (pc' := 16) (ls' := [some (.ref (0)), some (.int (a1))]) (st' := [.ref (0), .ref (51)]) rfl rfl ?_
      refine Rc.getR tb_146 rfl rfl ob_0 (by decide +kernel) tg_0_0 (by decide) ?_
      refine Rc.run tb_146 1 (pc' := 20) (ls' := [some (.ref (0)), some (.int (a1))]) (st' := [.int (a1), .ref (1), .ref (51)]) rfl rfl ?_
      cases hc1 : F_22 1 a1 M with
      | none => rw [hc1] at h; cases h
      | some M1 =>
        rw [hc1] at h
        dsimp only at h
        have hq1 := T_22 (X := X) (d := d) (by omega) (M := M) vh_1 hc1
        refine Rc.callV tb_146 rfl rfl rfl mS_22 mP_22 mL_22 mO_22 rfl rfl ob_51 rfl rfl hq1 ?_
        refine Rc.run tb_146 1 (pc' := 24) (ls' := [some (.ref (0)), some (.int (a1))]) (st' := [.ref (0)]) rfl rfl ?_
        refine Rc.getR tb_146 rfl rfl ob_0 (by decide +kernel) tg_0_11 (by decide) ?_
        refine Rc.run tb_146 2 (pc' := 29) (ls' := [some (.ref (0)), some (.int (a1))]) (st' := [.ref (0), .int (a1), .ref (68)]) rfl rfl ?_
        refine Rc.getR tb_146 rfl rfl ob_0 (by decide +kernel) tg_0_7 (by decide) ?_
        cases hc2 : F_25 M1 with
        | none => rw [hc2] at h; cases h
        | some r2 =>
          obtain ⟨c2, M2⟩ := r2
          rw [hc2] at h
          dsimp only at h
          have hq2 := T_25 (X := X) (d := d) (by omega) (M := M1) hc2
          have hz2 := Rc.bool mR_25 hq2
          refine Rc.callV tb_146 rfl rfl rfl mS_25 mP_25 mL_25 mO_25 rfl rfl ob_51 rfl rfl hq2 ?_
          refine Rc.if_eq (pc1 := 42) tb_146 rfl rfl (by decide) (by decide) (fun hb6 => ?_) (fun hb6 => ?_)
          · rw [if_pos hb6] at h
            refine Rc.run tb_146 1 (pc' := 43) (ls' := [some (.ref (0)), some (.int (a1))]) (st' := [.int (0), .int (a1), .ref (68)]) rfl rfl ?_
            refine Rc.mask (b := 3) ((tb_146.2 43).trans rfl) (ls' := [some (.ref (0)), some (.int (a1))]) rfl ?_
            exact TJ_146_43 (X := X) (d := d + 1) (by omega) h hC
          · rw [if_neg hb6] at h
            refine Rc.run tb_146 2 (pc' := 43) (ls' := [some (.ref (0)), some (.int (a1))]) (st' := [.int ((-1)), .int (a1), .ref (68)]) rfl rfl ?_
            refine Rc.mask (b := 3) ((tb_146.2 43).trans rfl) (ls' := [some (.ref (0)), some (.int (a1))]) rfl ?_
            exact TJ_146_43 (X := X) (d := d + 1) (by omega) h hC
    · rw [if_neg hb7] at h
      refine Rc.mask (b := 3) ((tb_146.2 44).trans rfl) (ls' := [some (.ref (0)), some (.int (a1))]) rfl ?_
      exact TJ_146_44 (X := X) (d := d + 1) (by omega) h hC
  · rw [if_neg hb8] at h
    cases h
theorem T_146 {X : AX} {d : Nat} (hd : 66 ≤ d) {a1 : Int32} {M : IM} {x : Int32} {M1 : IM} (h : F_146 a1 M = some (x, M1)) : Rc X d 146 0 [some (.ref (0)), some (.int (a1))] [] M (some (.int x)) M1 := TF_146 hd h ⟨rfl, rfl⟩
/-! 148: NineDemands.seekFirst -/
def F_148 (a1 : Int32) (M : IM) : Option (Int32 × IM) := (match F_146 a1 M with | none => none | some (c1, M1) => (if c1 = 0 then (match F_22 1 a1 M1 with | none => none | some M2 => (match F_25 M2 with | none => none | some (c3, M3) => (some ((c3, M3))))) else (some ((0, M1)))))
theorem TF_148 {X : AX} {d : Nat} (hd : 67 ≤ d) {a1 : Int32} {M : IM} {v : Option Value} {M' : IM} {o : Int32 × IM} (h : F_148 a1 M = some o) (hC : v = some (.int o.1) ∧ M' = o.2) : Rc X d 148 0 [some (.ref (0)), some (.int (a1))] [] M v M' := by
  obtain ⟨d, rfl⟩ : ∃ e, d = e + 1 := ⟨d - 1, by omega⟩
  unfold F_148 at h
  refine Rc.run tb_148 2 (pc' := 2) (ls' := [some (.ref (0)), some (.int (a1))]) (st' := [.int (a1), .ref (0)]) rfl rfl ?_
  cases hc1 : F_146 a1 M with
  | none => rw [hc1] at h; cases h
  | some r1 =>
    obtain ⟨c1, M1⟩ := r1
    rw [hc1] at h
    dsimp only at h
    have hq1 := T_146 (X := X) (d := d) (by omega) (M := M) hc1
    have hz1 := Rc.bool mR_146 hq1
    refine Rc.callV tb_148 rfl rfl rfl mS_146 mP_146 mL_146 mO_146 rfl rfl ob_0 rfl rfl hq1 ?_
    refine Rc.if_eq (pc1 := 10) tb_148 rfl rfl (by decide) (by decide) (fun hb4 => ?_) (fun hb4 => ?_)
    · rw [if_pos hb4] at h
      refine Rc.run tb_148 1 (pc' := 11) (ls' := [some (.ref (0)), some (.int (a1))]) (st' := [.ref (0)]) rfl rfl ?_
      refine Rc.getR tb_148 rfl rfl ob_0 (by decide +kernel) tg_0_7 (by decide) ?_
      refine Rc.run tb_148 1 (pc' := 15) (ls' := [some (.ref (0)), some (.int (a1))]) (st' := [.ref (0), .ref (51)]) rfl rfl ?_
      refine Rc.getR tb_148 rfl rfl ob_0 (by decide +kernel) tg_0_0 (by decide) ?_
      refine Rc.run tb_148 1 (pc' := 19) (ls' := [some (.ref (0)), some (.int (a1))]) (st' := [.int (a1), .ref (1), .ref (51)]) rfl rfl ?_
      cases hc2 : F_22 1 a1 M1 with
      | none => rw [hc2] at h; cases h
      | some M2 =>
        rw [hc2] at h
        dsimp only at h
        have hq2 := T_22 (X := X) (d := d) (by omega) (M := M1) vh_1 hc2
        refine Rc.callV tb_148 rfl rfl rfl mS_22 mP_22 mL_22 mO_22 rfl rfl ob_51 rfl rfl hq2 ?_
        refine Rc.run tb_148 1 (pc' := 23) (ls' := [some (.ref (0)), some (.int (a1))]) (st' := [.ref (0)]) rfl rfl ?_
        refine Rc.getR tb_148 rfl rfl ob_0 (by decide +kernel) tg_0_7 (by decide) ?_
        cases hc3 : F_25 M2 with
        | none => rw [hc3] at h; cases h
        | some r3 =>
          obtain ⟨c3, M3⟩ := r3
          rw [hc3] at h
          dsimp only at h
          have hq3 := T_25 (X := X) (d := d) (by omega) (M := M2) hc3
          have hz3 := Rc.bool mR_25 hq3
          refine Rc.callV tb_148 rfl rfl rfl mS_25 mP_25 mL_25 mO_25 rfl rfl ob_51 rfl rfl hq3 ?_
          obtain rfl := Option.some.inj h
          obtain ⟨rfl, rfl⟩ := hC
          exact Rc.zret tb_148 rfl mR_148 hz3
    · rw [if_neg hb4] at h
      refine Rc.run tb_148 1 (pc' := 9) (ls' := [some (.ref (0)), some (.int (a1))]) (st' := [.int (0)]) rfl rfl ?_
      obtain rfl := Option.some.inj h
      obtain ⟨rfl, rfl⟩ := hC
      exact Rc.zret tb_148 rfl mR_148 (Or.inl rfl)
theorem T_148 {X : AX} {d : Nat} (hd : 67 ≤ d) {a1 : Int32} {M : IM} {x : Int32} {M1 : IM} (h : F_148 a1 M = some (x, M1)) : Rc X d 148 0 [some (.ref (0)), some (.int (a1))] [] M (some (.int x)) M1 := TF_148 hd h ⟨rfl, rfl⟩
/-! 107: NineDemands.find -/
def J_107_15 (M : IM) : Option (Int32 × IM) := (match F_132 (1 : Int32) M with | none => none | some (c2, M2) => (some ((c2, M2))))
def F_107 (a1 : Int32) (a2 : Int32) (M : IM) : Option (Int32 × IM) := if F_135 a1 M = 0 then (J_107_15 M) else (if F_5 a2 = 0 then (J_107_15 M) else (match F_148 a1 M with | none => none | some (c4, M4) => (if c4 = 0 then (match F_132 (2 : Int32) M4 with | none => none | some (c5, M5) => (some ((c5, M5)))) else (if inb a2 12 = true then (some ((M4 54 a2.toNatClampNeg, M4))) else none))))
theorem TJ_107_15 {X : AX} {d : Nat} (hd : 68 ≤ d) {M : IM} {v : Option Value} {M' : IM} {o : Int32 × IM} (h : J_107_15 M = some o) (hC : v = some (.int o.1) ∧ M' = o.2) : Rc X d 107 15 [some (.ref (0)), none, none] [] M v M' := by
  obtain ⟨d, rfl⟩ : ∃ e, d = e + 1 := ⟨d - 1, by omega⟩
  unfold J_107_15 at h
  refine Rc.run tb_107 2 (pc' := 17) (ls' := [some (.ref (0)), none, none]) (st' := [.int (1), .ref (0)]) rfl rfl ?_
  cases hc2 : F_132 (1 : Int32) M with
  | none => rw [hc2] at h; cases h
  | some r2 =>
    obtain ⟨c2, M2⟩ := r2
    rw [hc2] at h
    dsimp only at h
    have hq2 := T_132 (X := X) (d := d) (by omega) (M := M) hc2
    refine Rc.callV tb_107 rfl rfl rfl mS_132 mP_132 mL_132 mO_132 rfl rfl ob_0 rfl rfl hq2 ?_
    obtain rfl := Option.some.inj h
    obtain ⟨rfl, rfl⟩ := hC
    exact Rc.iret (ins := .ireturn) tb_107 rfl mR_107
theorem TF_107 {X : AX} {d : Nat} (hd : 68 ≤ d) {a1 : Int32} {a2 : Int32} {M : IM} {v : Option Value} {M' : IM} {o : Int32 × IM} (h : F_107 a1 a2 M = some o) (hC : v = some (.int o.1) ∧ M' = o.2) : Rc X d 107 0 [some (.ref (0)), some (.int (a1)), some (.int (a2))] [] M v M' := by
  obtain ⟨d, rfl⟩ : ∃ e, d = e + 1 := ⟨d - 1, by omega⟩
  unfold F_107 at h
  refine Rc.run tb_107 2 (pc' := 2) (ls' := [some (.ref (0)), some (.int (a1)), some (.int (a2))]) (st' := [.int (a1), .ref (0)]) rfl rfl ?_
  have hq1 := T_135 (X := X) (d := d) (by omega) a1 M
  have hz1 := Rc.bool mR_135 hq1
  refine Rc.callV tb_107 rfl rfl rfl mS_135 mP_135 mL_135 mO_135 rfl rfl ob_0 rfl rfl hq1 ?_
  refine Rc.if_eq (pc1 := 15) tb_107 rfl rfl (by decide) (by decide) (fun hb9 => ?_) (fun hb9 => ?_)
  · rw [if_pos hb9] at h
    refine Rc.mask (b := 1) ((tb_107.2 15).trans rfl) (ls' := [some (.ref (0)), none, none]) rfl ?_
    exact TJ_107_15 (X := X) (d := d + 1) (by omega) h hC
  · rw [if_neg hb9] at h
    refine Rc.run tb_107 1 (pc' := 9) (ls' := [some (.ref (0)), some (.int (a1)), some (.int (a2))]) (st' := [.int (a2)]) rfl rfl ?_
    have hq3 := T_5 (X := X) (d := d) (by omega) a2 M
    have hz3 := Rc.bool mR_5 hq3
    refine Rc.callS tb_107 rfl rfl rfl mS_5 mP_5 mL_5 rfl rfl rfl hq3 ?_
    refine Rc.if_ne (pc1 := 21) tb_107 rfl rfl (by decide) (by decide) (fun hb8 => ?_) (fun hb8 => ?_)
    · rw [if_pos hb8] at h
      refine Rc.mask (b := 1) ((tb_107.2 15).trans rfl) (ls' := [some (.ref (0)), none, none]) rfl ?_
      exact TJ_107_15 (X := X) (d := d + 1) (by omega) h hC
    · rw [if_neg hb8] at h
      refine Rc.run tb_107 2 (pc' := 23) (ls' := [some (.ref (0)), some (.int (a1)), some (.int (a2))]) (st' := [.int (a1), .ref (0)]) rfl rfl ?_
      cases hc4 : F_148 a1 M with
      | none => rw [hc4] at h; cases h
      | some r4 =>
        obtain ⟨c4, M4⟩ := r4
        rw [hc4] at h
        dsimp only at h
        have hq4 := T_148 (X := X) (d := d) (by omega) (M := M) hc4
        have hz4 := Rc.bool mR_148 hq4
        refine Rc.callV tb_107 rfl rfl rfl mS_148 mP_148 mL_148 mO_148 rfl rfl ob_0 rfl rfl hq4 ?_
        refine Rc.if_eq (pc1 := 41) tb_107 rfl rfl (by decide) (by decide) (fun hb7 => ?_) (fun hb7 => ?_)
        · rw [if_pos hb7] at h
          refine Rc.run tb_107 2 (pc' := 43) (ls' := [some (.ref (0)), some (.int (a1)), some (.int (a2))]) (st' := [.int (2), .ref (0)]) rfl rfl ?_
          cases hc5 : F_132 (2 : Int32) M4 with
          | none => rw [hc5] at h; cases h
          | some r5 =>
            obtain ⟨c5, M5⟩ := r5
            rw [hc5] at h
            dsimp only at h
            have hq5 := T_132 (X := X) (d := d) (by omega) (M := M4) hc5
            refine Rc.callV tb_107 rfl rfl rfl mS_132 mP_132 mL_132 mO_132 rfl rfl ob_0 rfl rfl hq5 ?_
            obtain rfl := Option.some.inj h
            obtain ⟨rfl, rfl⟩ := hC
            exact Rc.iret (ins := .ireturn) tb_107 rfl mR_107
        · rw [if_neg hb7] at h
          refine Rc.run tb_107 1 (pc' := 30) (ls' := [some (.ref (0)), some (.int (a1)), some (.int (a2))]) (st' := [.ref (0)]) rfl rfl ?_
          refine Rc.getR tb_107 rfl rfl ob_0 (by decide +kernel) tg_0_7 (by decide) ?_
          refine Rc.getR tb_107 rfl rfl ob_51 (by decide +kernel) tg_51_2 (by decide) ?_
          refine Rc.run tb_107 1 (pc' := 37) (ls' := [some (.ref (0)), some (.int (a1)), some (.int (a2))]) (st' := [.int (a2), .ref (54)]) rfl rfl ?_
          by_cases hb6 : inb a2 12 = true
          · rw [if_pos hb6] at h
            refine Rc.iald tb_107 rfl rfl ia_54 hb6 ?_
            refine Rc.run tb_107 1 (pc' := 46) (ls' := [some (.ref (0)), some (.int (a1)), some (.int (a2))]) (st' := [.int (M4 54 a2.toNatClampNeg)]) rfl rfl ?_
            obtain rfl := Option.some.inj h
            obtain ⟨rfl, rfl⟩ := hC
            exact Rc.iret (ins := .ireturn) tb_107 rfl mR_107
          · rw [if_neg hb6] at h
            cases h
theorem T_107 {X : AX} {d : Nat} (hd : 68 ≤ d) {a1 : Int32} {a2 : Int32} {M : IM} {x : Int32} {M1 : IM} (h : F_107 a1 a2 M = some (x, M1)) : Rc X d 107 0 [some (.ref (0)), some (.int (a1)), some (.int (a2))] [] M (some (.int x)) M1 := TF_107 hd h ⟨rfl, rfl⟩
/-! 108: NineDemands.write -/
def F_108 (a1 : Int32) (M : IM) : Option (Int32 × IM) := if F_135 a1 M = 0 then (match F_132 (1 : Int32) M with | none => none | some (c2, M2) => (some ((c2, M2)))) else (match F_148 a1 M with | none => none | some (c3, M3) => (if c3 = 0 then (match F_132 (2 : Int32) M3 with | none => none | some (c4, M4) => (some ((c4, M4)))) else (match F_85 1 (icpy M3 54 (0 : Int32).toNatClampNeg 2 (0 : Int32).toNatClampNeg (12 : Int32).toNatClampNeg) with | none => none | some c5 => (some ((c5, icpy M3 54 (0 : Int32).toNatClampNeg 2 (0 : Int32).toNatClampNeg (12 : Int32).toNatClampNeg))))))
theorem TF_108 {X : AX} {d : Nat} (hd : 68 ≤ d) {a1 : Int32} {M : IM} {v : Option Value} {M' : IM} {o : Int32 × IM} (h : F_108 a1 M = some o) (hC : v = some (.int o.1) ∧ M' = o.2) : Rc X d 108 0 [some (.ref (0)), some (.int (a1))] [] M v M' := by
  obtain ⟨d, rfl⟩ : ∃ e, d = e + 1 := ⟨d - 1, by omega⟩
  unfold F_108 at h
  refine Rc.run tb_108 2 (pc' := 2) (ls' := [some (.ref (0)), some (.int (a1))]) (st' := [.int (a1), .ref (0)]) rfl rfl ?_
  have hq1 := T_135 (X := X) (d := d) (by omega) a1 M
  have hz1 := Rc.bool mR_135 hq1
  refine Rc.callV tb_108 rfl rfl rfl mS_135 mP_135 mL_135 mO_135 rfl rfl ob_0 rfl rfl hq1 ?_
  refine Rc.if_ne (pc1 := 14) tb_108 rfl rfl (by decide) (by decide) (fun hb7 => ?_) (fun hb7 => ?_)
  · rw [if_pos hb7] at h
    refine Rc.run tb_108 2 (pc' := 10) (ls' := [some (.ref (0)), some (.int (a1))]) (st' := [.int (1), .ref (0)]) rfl rfl ?_
    cases hc2 : F_132 (1 : Int32) M with
    | none => rw [hc2] at h; cases h
    | some r2 =>
      obtain ⟨c2, M2⟩ := r2
      rw [hc2] at h
      dsimp only at h
      have hq2 := T_132 (X := X) (d := d) (by omega) (M := M) hc2
      refine Rc.callV tb_108 rfl rfl rfl mS_132 mP_132 mL_132 mO_132 rfl rfl ob_0 rfl rfl hq2 ?_
      obtain rfl := Option.some.inj h
      obtain ⟨rfl, rfl⟩ := hC
      exact Rc.iret (ins := .ireturn) tb_108 rfl mR_108
  · rw [if_neg hb7] at h
    refine Rc.run tb_108 2 (pc' := 16) (ls' := [some (.ref (0)), some (.int (a1))]) (st' := [.int (a1), .ref (0)]) rfl rfl ?_
    cases hc3 : F_148 a1 M with
    | none => rw [hc3] at h; cases h
    | some r3 =>
      obtain ⟨c3, M3⟩ := r3
      rw [hc3] at h
      dsimp only at h
      have hq3 := T_148 (X := X) (d := d) (by omega) (M := M) hc3
      have hz3 := Rc.bool mR_148 hq3
      refine Rc.callV tb_108 rfl rfl rfl mS_148 mP_148 mL_148 mO_148 rfl rfl ob_0 rfl rfl hq3 ?_
      refine Rc.if_ne (pc1 := 28) tb_108 rfl rfl (by decide) (by decide) (fun hb6 => ?_) (fun hb6 => ?_)
      · rw [if_pos hb6] at h
        refine Rc.run tb_108 2 (pc' := 24) (ls' := [some (.ref (0)), some (.int (a1))]) (st' := [.int (2), .ref (0)]) rfl rfl ?_
        cases hc4 : F_132 (2 : Int32) M3 with
        | none => rw [hc4] at h; cases h
        | some r4 =>
          obtain ⟨c4, M4⟩ := r4
          rw [hc4] at h
          dsimp only at h
          have hq4 := T_132 (X := X) (d := d) (by omega) (M := M3) hc4
          refine Rc.callV tb_108 rfl rfl rfl mS_132 mP_132 mL_132 mO_132 rfl rfl ob_0 rfl rfl hq4 ?_
          obtain rfl := Option.some.inj h
          obtain ⟨rfl, rfl⟩ := hC
          exact Rc.iret (ins := .ireturn) tb_108 rfl mR_108
      · rw [if_neg hb6] at h
        refine Rc.run tb_108 1 (pc' := 29) (ls' := [some (.ref (0)), some (.int (a1))]) (st' := [.ref (0)]) rfl rfl ?_
        refine Rc.getR tb_108 rfl rfl ob_0 (by decide +kernel) tg_0_7 (by decide) ?_
        refine Rc.getR tb_108 rfl rfl ob_51 (by decide +kernel) tg_51_2 (by decide) ?_
        refine Rc.run tb_108 2 (pc' := 37) (ls' := [some (.ref (0)), some (.int (a1))]) (st' := [.ref (0), .int (0), .ref (54)]) rfl rfl ?_
        refine Rc.getR tb_108 rfl rfl ob_0 (by decide +kernel) tg_0_0 (by decide) ?_
        refine Rc.getR tb_108 rfl rfl (VilH.ob vh_1) (by decide +kernel) (VilH.f0 vh_1) (by decide) ?_
        refine Rc.run tb_108 2 (pc' := 46) (ls' := [some (.ref (0)), some (.int (a1))]) (st' := [.int (12), .int (0), .ref (2), .int (0), .ref (54)]) rfl rfl ?_
        refine Rc.copy tb_108 rfl rfl rfl ia_54 ia_2 (by decide) ?_
        refine Rc.run tb_108 1 (pc' := 50) (ls' := [some (.ref (0)), some (.int (a1))]) (st' := [.ref (0)]) rfl rfl ?_
        refine Rc.getR tb_108 rfl rfl ob_0 (by decide +kernel) tg_0_0 (by decide) ?_
        cases hc5 : F_85 1 (icpy M3 54 (0 : Int32).toNatClampNeg 2 (0 : Int32).toNatClampNeg (12 : Int32).toNatClampNeg) with
        | none => rw [hc5] at h; cases h
        | some c5 =>
          rw [hc5] at h
          dsimp only at h
          have hq5 := T_85 (X := X) (d := d) (by omega) (M := icpy M3 54 (0 : Int32).toNatClampNeg 2 (0 : Int32).toNatClampNeg (12 : Int32).toNatClampNeg) vh_1 hc5
          refine Rc.callV tb_108 rfl rfl rfl mS_85 mP_85 mL_85 mO_85 rfl rfl (VilH.ob vh_1) rfl rfl hq5 ?_
          obtain rfl := Option.some.inj h
          obtain ⟨rfl, rfl⟩ := hC
          exact Rc.iret (ins := .ireturn) tb_108 rfl mR_108
theorem T_108 {X : AX} {d : Nat} (hd : 68 ≤ d) {a1 : Int32} {M : IM} {x : Int32} {M1 : IM} (h : F_108 a1 M = some (x, M1)) : Rc X d 108 0 [some (.ref (0)), some (.int (a1))] [] M (some (.int x)) M1 := TF_108 hd h ⟨rfl, rfl⟩
/-! 147: NineDemands.ways -/
def J_147_48 (x1 : Int32) (M : IM) : Option (Int32 × IM) := if inb x1 256 = true then (some ((M 68 x1.toNatClampNeg, M))) else none
def F_147 (a1 : Int32) (M : IM) : Option (Int32 × IM) := if inb a1 256 = true then (if (0 : Int32) ≤ M 68 a1.toNatClampNeg then (J_147_48 a1 M) else (match F_22 1 a1 M with | none => none | some M2 => (match F_48 2 M2 with | none => none | some M3 => (if inb a1 256 = true then (J_147_48 a1 (iset M3 68 a1.toNatClampNeg (M3 50 8))) else none)))) else none
theorem TJ_147_48 {X : AX} {d : Nat} (hd : 194 ≤ d) {x1 : Int32} {M : IM} {v : Option Value} {M' : IM} {o : Int32 × IM} (h : J_147_48 x1 M = some o) (hC : v = some (.int o.1) ∧ M' = o.2) : Rc X d 147 48 [some (.ref (0)), some (.int (x1))] [] M v M' := by
  obtain ⟨d, rfl⟩ : ∃ e, d = e + 1 := ⟨d - 1, by omega⟩
  unfold J_147_48 at h
  refine Rc.run tb_147 1 (pc' := 49) (ls' := [some (.ref (0)), some (.int (x1))]) (st' := [.ref (0)]) rfl rfl ?_
  refine Rc.getR tb_147 rfl rfl ob_0 (by decide +kernel) tg_0_11 (by decide) ?_
  refine Rc.run tb_147 1 (pc' := 53) (ls' := [some (.ref (0)), some (.int (x1))]) (st' := [.int (x1), .ref (68)]) rfl rfl ?_
  by_cases hb1 : inb x1 256 = true
  · rw [if_pos hb1] at h
    refine Rc.iald tb_147 rfl rfl ia_68 hb1 ?_
    obtain rfl := Option.some.inj h
    obtain ⟨rfl, rfl⟩ := hC
    exact Rc.iret (ins := .ireturn) tb_147 rfl mR_147
  · rw [if_neg hb1] at h
    cases h
theorem TF_147 {X : AX} {d : Nat} (hd : 194 ≤ d) {a1 : Int32} {M : IM} {v : Option Value} {M' : IM} {o : Int32 × IM} (h : F_147 a1 M = some o) (hC : v = some (.int o.1) ∧ M' = o.2) : Rc X d 147 0 [some (.ref (0)), some (.int (a1))] [] M v M' := by
  obtain ⟨d, rfl⟩ : ∃ e, d = e + 1 := ⟨d - 1, by omega⟩
  unfold F_147 at h
  refine Rc.run tb_147 1 (pc' := 1) (ls' := [some (.ref (0)), some (.int (a1))]) (st' := [.ref (0)]) rfl rfl ?_
  refine Rc.getR tb_147 rfl rfl ob_0 (by decide +kernel) tg_0_11 (by decide) ?_
  refine Rc.run tb_147 1 (pc' := 5) (ls' := [some (.ref (0)), some (.int (a1))]) (st' := [.int (a1), .ref (68)]) rfl rfl ?_
  by_cases hb6 : inb a1 256 = true
  · rw [if_pos hb6] at h
    refine Rc.iald tb_147 rfl rfl ia_68 hb6 ?_
    refine Rc.if_ge (pc1 := 48) tb_147 rfl rfl (by decide) (by decide) (fun hb5 => ?_) (fun hb5 => ?_)
    · rw [if_pos hb5] at h
      refine Rc.mask (b := 3) ((tb_147.2 48).trans rfl) (ls' := [some (.ref (0)), some (.int (a1))]) rfl ?_
      exact TJ_147_48 (X := X) (d := d + 1) (by omega) h hC
    · rw [if_neg hb5] at h
      refine Rc.run tb_147 1 (pc' := 10) (ls' := [some (.ref (0)), some (.int (a1))]) (st' := [.ref (0)]) rfl rfl ?_
      refine Rc.getR tb_147 rfl rfl ob_0 (by decide +kernel) tg_0_7 (by decide) ?_
      refine Rc.run tb_147 1 (pc' := 14) (ls' := [some (.ref (0)), some (.int (a1))]) (st' := [.ref (0), .ref (51)]) rfl rfl ?_
      refine Rc.getR tb_147 rfl rfl ob_0 (by decide +kernel) tg_0_0 (by decide) ?_
      refine Rc.run tb_147 1 (pc' := 18) (ls' := [some (.ref (0)), some (.int (a1))]) (st' := [.int (a1), .ref (1), .ref (51)]) rfl rfl ?_
      cases hc2 : F_22 1 a1 M with
      | none => rw [hc2] at h; cases h
      | some M2 =>
        rw [hc2] at h
        dsimp only at h
        have hq2 := T_22 (X := X) (d := d) (by omega) (M := M) vh_1 hc2
        refine Rc.callV tb_147 rfl rfl rfl mS_22 mP_22 mL_22 mO_22 rfl rfl ob_51 rfl rfl hq2 ?_
        refine Rc.run tb_147 1 (pc' := 22) (ls' := [some (.ref (0)), some (.int (a1))]) (st' := [.ref (0)]) rfl rfl ?_
        refine Rc.getR tb_147 rfl rfl ob_0 (by decide +kernel) tg_0_6 (by decide) ?_
        refine Rc.run tb_147 1 (pc' := 26) (ls' := [some (.ref (0)), some (.int (a1))]) (st' := [.ref (0), .ref (50)]) rfl rfl ?_
        refine Rc.getR tb_147 rfl rfl ob_0 (by decide +kernel) tg_0_0 (by decide) ?_
        refine Rc.getR tb_147 rfl rfl (VilH.ob vh_1) (by decide +kernel) (VilH.f0 vh_1) (by decide) ?_
        cases hc3 : F_48 2 M2 with
        | none => rw [hc3] at h; cases h
        | some M3 =>
          rw [hc3] at h
          dsimp only at h
          have hq3 := T_48 (X := X) (d := d) (by omega) (M := M2) (ia_2).1 hc3
          refine Rc.callV tb_147 rfl rfl rfl mS_48 mP_48 mL_48 mO_48 rfl rfl ob_50 rfl rfl hq3 ?_
          refine Rc.run tb_147 1 (pc' := 36) (ls' := [some (.ref (0)), some (.int (a1))]) (st' := [.ref (0)]) rfl rfl ?_
          refine Rc.getR tb_147 rfl rfl ob_0 (by decide +kernel) tg_0_11 (by decide) ?_
          refine Rc.run tb_147 2 (pc' := 41) (ls' := [some (.ref (0)), some (.int (a1))]) (st' := [.ref (0), .int (a1), .ref (68)]) rfl rfl ?_
          refine Rc.getR tb_147 rfl rfl ob_0 (by decide +kernel) tg_0_6 (by decide) ?_
          refine Rc.getI tb_147 rfl rfl ob_50 (by decide +kernel) tg_50_8 ?_
          by_cases hb4 : inb a1 256 = true
          · rw [if_pos hb4] at h
            refine Rc.iast tb_147 rfl rfl ia_68 hb4 ?_
            refine Rc.mask (b := 3) ((tb_147.2 48).trans rfl) (ls' := [some (.ref (0)), some (.int (a1))]) rfl ?_
            exact TJ_147_48 (X := X) (d := d + 1) (by omega) h hC
          · rw [if_neg hb4] at h
            cases h
  · rw [if_neg hb6] at h
    cases h
theorem T_147 {X : AX} {d : Nat} (hd : 194 ≤ d) {a1 : Int32} {M : IM} {x : Int32} {M1 : IM} (h : F_147 a1 M = some (x, M1)) : Rc X d 147 0 [some (.ref (0)), some (.int (a1))] [] M (some (.int x)) M1 := TF_147 hd h ⟨rfl, rfl⟩
/-! 109: NineDemands.rules -/
def F_109 (a1 : Int32) (M : IM) : Option (Int64 × IM) := if F_135 a1 M = 0 then (match F_132 (1 : Int32) M with | none => none | some (c2, M2) => (some ((c2.toInt64, M2)))) else (match F_147 a1 M with | none => none | some (c3, M3) => (some ((c3.toInt64, M3))))
theorem TF_109 {X : AX} {d : Nat} (hd : 195 ≤ d) {a1 : Int32} {M : IM} {v : Option Value} {M' : IM} {o : Int64 × IM} (h : F_109 a1 M = some o) (hC : v = some (.long o.1) ∧ M' = o.2) : Rc X d 109 0 [some (.ref (0)), some (.int (a1))] [] M v M' := by
  obtain ⟨d, rfl⟩ : ∃ e, d = e + 1 := ⟨d - 1, by omega⟩
  unfold F_109 at h
  refine Rc.run tb_109 2 (pc' := 2) (ls' := [some (.ref (0)), some (.int (a1))]) (st' := [.int (a1), .ref (0)]) rfl rfl ?_
  have hq1 := T_135 (X := X) (d := d) (by omega) a1 M
  have hz1 := Rc.bool mR_135 hq1
  refine Rc.callV tb_109 rfl rfl rfl mS_135 mP_135 mL_135 mO_135 rfl rfl ob_0 rfl rfl hq1 ?_
  refine Rc.if_eq (pc1 := 17) tb_109 rfl rfl (by decide) (by decide) (fun hb4 => ?_) (fun hb4 => ?_)
  · rw [if_pos hb4] at h
    refine Rc.run tb_109 2 (pc' := 19) (ls' := [some (.ref (0)), some (.int (a1))]) (st' := [.int (1), .ref (0)]) rfl rfl ?_
    cases hc2 : F_132 (1 : Int32) M with
    | none => rw [hc2] at h; cases h
    | some r2 =>
      obtain ⟨c2, M2⟩ := r2
      rw [hc2] at h
      dsimp only at h
      have hq2 := T_132 (X := X) (d := d) (by omega) (M := M) hc2
      refine Rc.callV tb_109 rfl rfl rfl mS_132 mP_132 mL_132 mO_132 rfl rfl ob_0 rfl rfl hq2 ?_
      refine Rc.run tb_109 1 (pc' := 23) (ls' := [some (.ref (0)), some (.int (a1))]) (st' := [.long (c2.toInt64)]) rfl rfl ?_
      obtain rfl := Option.some.inj h
      obtain ⟨rfl, rfl⟩ := hC
      exact Rc.lret tb_109 rfl mR_109
  · rw [if_neg hb4] at h
    refine Rc.run tb_109 2 (pc' := 10) (ls' := [some (.ref (0)), some (.int (a1))]) (st' := [.int (a1), .ref (0)]) rfl rfl ?_
    cases hc3 : F_147 a1 M with
    | none => rw [hc3] at h; cases h
    | some r3 =>
      obtain ⟨c3, M3⟩ := r3
      rw [hc3] at h
      dsimp only at h
      have hq3 := T_147 (X := X) (d := d) (by omega) (M := M) hc3
      refine Rc.callV tb_109 rfl rfl rfl mS_147 mP_147 mL_147 mO_147 rfl rfl ob_0 rfl rfl hq3 ?_
      refine Rc.run tb_109 2 (pc' := 23) (ls' := [some (.ref (0)), some (.int (a1))]) (st' := [.long (c3.toInt64)]) rfl rfl ?_
      obtain rfl := Option.some.inj h
      obtain ⟨rfl, rfl⟩ := hC
      exact Rc.lret tb_109 rfl mR_109
theorem T_109 {X : AX} {d : Nat} (hd : 195 ≤ d) {a1 : Int32} {M : IM} {x : Int64} {M1 : IM} (h : F_109 a1 M = some (x, M1)) : Rc X d 109 0 [some (.ref (0)), some (.int (a1))] [] M (some (.long x)) M1 := TF_109 hd h ⟨rfl, rfl⟩
/-! 110: NineDemands.may -/
def J_110_15 (M : IM) : Option (Int32 × IM) := (match F_132 (1 : Int32) M with | none => none | some (c2, M2) => (some ((c2, M2))))
def J_110_100_59 (x2 : Int32) (x3 : Int32) (x4 : Int32) (x5 : Int32) (M : IM) : Option ((Int32 × Int32 × IM) ⊕ (Int32 × Int32 × IM)) := some (Sum.inl (x4, x5 + 1, M))
def B_110_59 (x2 : Int32) (x3 : Int32) : (Int32 × Int32 × IM) → Option ((Int32 × Int32 × IM) ⊕ (Int32 × Int32 × IM)) := fun (x4, x5, M) => if (3 : Int32) < x5 then (some (Sum.inr (x4, x5, M))) else (if inb x2 156 = true then (match F_25 (iset M 53 x2.toNatClampNeg (x3 &&& (F_142 x5))) with | none => none | some (c7, M7) => (if c7 = 0 then (J_110_100_59 x2 x3 x4 x5 M7) else (J_110_100_59 x2 x3 (x4 ||| ((1 : Int32) <<< (x5 &&& 31))) x5 M7))) else none)
def L_110_59 (x2 : Int32) (x3 : Int32) (x4 : Int32) (x5 : Int32) (M : IM) : Option (Int32 × Int32 × IM) := loopN (B_110_59 x2 x3) FU (x4, x5, M)
def F_110 (a1 : Int32) (a2 : Int32) (M : IM) : Option (Int32 × IM) := if F_135 a1 M = 0 then (J_110_15 M) else (if F_5 a2 = 0 then (J_110_15 M) else (match F_146 a1 M with | none => none | some (c4, M4) => (if c4 = 0 then (match F_22 1 a1 M4 with | none => none | some M5 => (if inb a2 156 = true then (match L_110_59 a2 (M5 53 a2.toNatClampNeg) 0 1 M5 with | none => none | some (x4_11, x5_11, M11) => (some ((x4_11, M11)))) else none)) else (some ((0, M4))))))
theorem TJ_110_15 {X : AX} {d : Nat} (hd : 67 ≤ d) {M : IM} {v : Option Value} {M' : IM} {o : Int32 × IM} (h : J_110_15 M = some o) (hC : v = some (.int o.1) ∧ M' = o.2) : Rc X d 110 15 [some (.ref (0)), none, none, none, none, none] [] M v M' := by
  obtain ⟨d, rfl⟩ : ∃ e, d = e + 1 := ⟨d - 1, by omega⟩
  unfold J_110_15 at h
  refine Rc.run tb_110 2 (pc' := 17) (ls' := [some (.ref (0)), none, none, none, none, none]) (st' := [.int (1), .ref (0)]) rfl rfl ?_
  cases hc2 : F_132 (1 : Int32) M with
  | none => rw [hc2] at h; cases h
  | some r2 =>
    obtain ⟨c2, M2⟩ := r2
    rw [hc2] at h
    dsimp only at h
    have hq2 := T_132 (X := X) (d := d) (by omega) (M := M) hc2
    refine Rc.callV tb_110 rfl rfl rfl mS_132 mP_132 mL_132 mO_132 rfl rfl ob_0 rfl rfl hq2 ?_
    obtain rfl := Option.some.inj h
    obtain ⟨rfl, rfl⟩ := hC
    exact Rc.iret (ins := .ireturn) tb_110 rfl mR_110
theorem TJ_110_100_59 {X : AX} {d : Nat} (hd : 67 ≤ d) {x2 : Int32} {x3 : Int32} {x4 : Int32} {x5 : Int32} {M : IM} {v : Option Value} {M' : IM} {o : (Int32 × Int32 × IM) ⊕ (Int32 × Int32 × IM)} (h : J_110_100_59 x2 x3 x4 x5 M = some o) (hP : ∀ s', o = .inl s' → (fun (x4, x5, M) => Rc X d 110 59 [some (.ref (0)), none, some (.int (x2)), some (.int (x3)), some (.int (x4)), some (.int (x5))] [] M v M') s') (hE : ∀ r, o = .inr r → (fun (x4, x5, M) => Rc X d 110 106 [none, none, none, none, some (.int (x4)), none] [] M v M') r) : Rc X d 110 100 [some (.ref (0)), none, some (.int (x2)), some (.int (x3)), some (.int (x4)), some (.int (x5))] [] M v M' := by
  obtain ⟨d, rfl⟩ : ∃ e, d = e + 1 := ⟨d - 1, by omega⟩
  unfold J_110_100_59 at h
  dsimp only at hP hE
  refine Rc.run tb_110 2 (pc' := 59) (ls' := [some (.ref (0)), none, some (.int (x2)), some (.int (x3)), some (.int (x4)), some (.int (x5 + 1))]) (st' := []) rfl rfl ?_
  refine Rc.mask (b := 61) ((tb_110.2 59).trans rfl) (ls' := [some (.ref (0)), none, some (.int (x2)), some (.int (x3)), some (.int (x4)), some (.int (x5 + 1))]) rfl ?_
  obtain rfl := Option.some.inj h
  exact hP _ rfl
theorem TB_110_59 {X : AX} {d : Nat} (hd : 67 ≤ d) {x2 : Int32} {x3 : Int32} {v : Option Value} {M' : IM} : ∀ (s : Int32 × Int32 × IM) (o : (Int32 × Int32 × IM) ⊕ (Int32 × Int32 × IM)), B_110_59 x2 x3 s = some o → (∀ s', o = .inl s' → (fun (x4, x5, M) => Rc X d 110 59 [some (.ref (0)), none, some (.int (x2)), some (.int (x3)), some (.int (x4)), some (.int (x5))] [] M v M') s') → (∀ r, o = .inr r → (fun (x4, x5, M) => Rc X d 110 106 [none, none, none, none, some (.int (x4)), none] [] M v M') r) → (fun (x4, x5, M) => Rc X d 110 59 [some (.ref (0)), none, some (.int (x2)), some (.int (x3)), some (.int (x4)), some (.int (x5))] [] M v M') s := by
  rintro ⟨x4, x5, M⟩ o h hP hE
  show Rc X d 110 59 [some (.ref (0)), none, some (.int (x2)), some (.int (x3)), some (.int (x4)), some (.int (x5))] [] M v M'
  obtain ⟨d, rfl⟩ : ∃ e, d = e + 1 := ⟨d - 1, by omega⟩
  unfold B_110_59 at h
  dsimp only at h hP hE
  refine Rc.run tb_110 2 (pc' := 62) (ls' := [some (.ref (0)), none, some (.int (x2)), some (.int (x3)), some (.int (x4)), some (.int (x5))]) (st' := [.int (3), .int (x5)]) rfl rfl ?_
  refine Rc.icmp_gt (pc1 := 106) tb_110 rfl rfl (by decide) (by decide) (fun hb10 => ?_) (fun hb10 => ?_)
  · rw [if_pos hb10] at h
    refine Rc.mask (b := 16) ((tb_110.2 106).trans rfl) (ls' := [none, none, none, none, some (.int (x4)), none]) rfl ?_
    obtain rfl := Option.some.inj h
    exact hE _ rfl
  · rw [if_neg hb10] at h
    refine Rc.run tb_110 1 (pc' := 66) (ls' := [some (.ref (0)), none, some (.int (x2)), some (.int (x3)), some (.int (x4)), some (.int (x5))]) (st' := [.ref (0)]) rfl rfl ?_
    refine Rc.getR tb_110 rfl rfl ob_0 (by decide +kernel) tg_0_7 (by decide) ?_
    refine Rc.getR tb_110 rfl rfl ob_51 (by decide +kernel) tg_51_1 (by decide) ?_
    refine Rc.run tb_110 3 (pc' := 76) (ls' := [some (.ref (0)), none, some (.int (x2)), some (.int (x3)), some (.int (x4)), some (.int (x5))]) (st' := [.int (x5), .int (x3), .int (x2), .ref (53)]) rfl rfl ?_
    have hq6 := T_142 (X := X) (d := d) (by omega) x5 M
    refine Rc.callS tb_110 rfl rfl rfl mS_142 mP_142 mL_142 rfl rfl rfl hq6 ?_
    refine Rc.run tb_110 1 (pc' := 80) (ls' := [some (.ref (0)), none, some (.int (x2)), some (.int (x3)), some (.int (x4)), some (.int (x5))]) (st' := [.int (x3 &&& (F_142 x5)), .int (x2), .ref (53)]) rfl rfl ?_
    by_cases hb9 : inb x2 156 = true
    · rw [if_pos hb9] at h
      refine Rc.iast tb_110 rfl rfl ia_53 hb9 ?_
      refine Rc.run tb_110 1 (pc' := 82) (ls' := [some (.ref (0)), none, some (.int (x2)), some (.int (x3)), some (.int (x4)), some (.int (x5))]) (st' := [.ref (0)]) rfl rfl ?_
      refine Rc.getR tb_110 rfl rfl ob_0 (by decide +kernel) tg_0_7 (by decide) ?_
      cases hc7 : F_25 (iset M 53 x2.toNatClampNeg (x3 &&& (F_142 x5))) with
      | none => rw [hc7] at h; cases h
      | some r7 =>
        obtain ⟨c7, M7⟩ := r7
        rw [hc7] at h
        dsimp only at h
        have hq7 := T_25 (X := X) (d := d) (by omega) (M := iset M 53 x2.toNatClampNeg (x3 &&& (F_142 x5))) hc7
        have hz7 := Rc.bool mR_25 hq7
        refine Rc.callV tb_110 rfl rfl rfl mS_25 mP_25 mL_25 mO_25 rfl rfl ob_51 rfl rfl hq7 ?_
        refine Rc.if_eq (pc1 := 100) tb_110 rfl rfl (by decide) (by decide) (fun hb8 => ?_) (fun hb8 => ?_)
        · rw [if_pos hb8] at h
          refine Rc.mask (b := 61) ((tb_110.2 100).trans rfl) (ls' := [some (.ref (0)), none, some (.int (x2)), some (.int (x3)), some (.int (x4)), some (.int (x5))]) rfl ?_
          exact TJ_110_100_59 (X := X) (d := d + 1) (by omega) h hP hE
        · rw [if_neg hb8] at h
          refine Rc.run tb_110 6 (pc' := 100) (ls' := [some (.ref (0)), none, some (.int (x2)), some (.int (x3)), some (.int (x4 ||| ((1 : Int32) <<< (x5 &&& 31)))), some (.int (x5))]) (st' := []) rfl rfl ?_
          refine Rc.mask (b := 61) ((tb_110.2 100).trans rfl) (ls' := [some (.ref (0)), none, some (.int (x2)), some (.int (x3)), some (.int (x4 ||| ((1 : Int32) <<< (x5 &&& 31)))), some (.int (x5))]) rfl ?_
          exact TJ_110_100_59 (X := X) (d := d + 1) (by omega) h hP hE
    · rw [if_neg hb9] at h
      cases h
theorem TL_110_59 {X : AX} {d : Nat} (hd : 67 ≤ d) {x2 : Int32} {x3 : Int32} {x4 : Int32} {x5 : Int32} {M : IM} {v : Option Value} {M' : IM} {r : Int32 × Int32 × IM} (h : L_110_59 x2 x3 x4 x5 M = some r) (hE : (fun (x4, x5, M) => Rc X d 110 106 [none, none, none, none, some (.int (x4)), none] [] M v M') r) : Rc X d 110 59 [some (.ref (0)), none, some (.int (x2)), some (.int (x3)), some (.int (x4)), some (.int (x5))] [] M v M' := by
  exact loopN_rc (P := fun (x4, x5, M) => Rc X d 110 59 [some (.ref (0)), none, some (.int (x2)), some (.int (x3)), some (.int (x4)), some (.int (x5))] [] M v M') (E := fun (x4, x5, M) => Rc X d 110 106 [none, none, none, none, some (.int (x4)), none] [] M v M') (TB_110_59 (X := X) hd) FU _ r h hE
theorem TF_110 {X : AX} {d : Nat} (hd : 67 ≤ d) {a1 : Int32} {a2 : Int32} {M : IM} {v : Option Value} {M' : IM} {o : Int32 × IM} (h : F_110 a1 a2 M = some o) (hC : v = some (.int o.1) ∧ M' = o.2) : Rc X d 110 0 [some (.ref (0)), some (.int (a1)), some (.int (a2)), none, none, none] [] M v M' := by
  obtain ⟨d, rfl⟩ : ∃ e, d = e + 1 := ⟨d - 1, by omega⟩
  unfold F_110 at h
  refine Rc.run tb_110 2 (pc' := 2) (ls' := [some (.ref (0)), some (.int (a1)), some (.int (a2)), none, none, none]) (st' := [.int (a1), .ref (0)]) rfl rfl ?_
  have hq1 := T_135 (X := X) (d := d) (by omega) a1 M
  have hz1 := Rc.bool mR_135 hq1
  refine Rc.callV tb_110 rfl rfl rfl mS_135 mP_135 mL_135 mO_135 rfl rfl ob_0 rfl rfl hq1 ?_
  refine Rc.if_eq (pc1 := 15) tb_110 rfl rfl (by decide) (by decide) (fun hb15 => ?_) (fun hb15 => ?_)
  · rw [if_pos hb15] at h
    refine Rc.mask (b := 1) ((tb_110.2 15).trans rfl) (ls' := [some (.ref (0)), none, none, none, none, none]) rfl ?_
    exact TJ_110_15 (X := X) (d := d + 1) (by omega) h hC
  · rw [if_neg hb15] at h
    refine Rc.run tb_110 1 (pc' := 9) (ls' := [some (.ref (0)), some (.int (a1)), some (.int (a2)), none, none, none]) (st' := [.int (a2)]) rfl rfl ?_
    have hq3 := T_5 (X := X) (d := d) (by omega) a2 M
    have hz3 := Rc.bool mR_5 hq3
    refine Rc.callS tb_110 rfl rfl rfl mS_5 mP_5 mL_5 rfl rfl rfl hq3 ?_
    refine Rc.if_ne (pc1 := 21) tb_110 rfl rfl (by decide) (by decide) (fun hb14 => ?_) (fun hb14 => ?_)
    · rw [if_pos hb14] at h
      refine Rc.mask (b := 1) ((tb_110.2 15).trans rfl) (ls' := [some (.ref (0)), none, none, none, none, none]) rfl ?_
      exact TJ_110_15 (X := X) (d := d + 1) (by omega) h hC
    · rw [if_neg hb14] at h
      refine Rc.run tb_110 2 (pc' := 23) (ls' := [some (.ref (0)), some (.int (a1)), some (.int (a2)), none, none, none]) (st' := [.int (a1), .ref (0)]) rfl rfl ?_
      cases hc4 : F_146 a1 M with
      | none => rw [hc4] at h; cases h
      | some r4 =>
        obtain ⟨c4, M4⟩ := r4
        rw [hc4] at h
        dsimp only at h
        have hq4 := T_146 (X := X) (d := d) (by omega) (M := M) hc4
        have hz4 := Rc.bool mR_146 hq4
        refine Rc.callV tb_110 rfl rfl rfl mS_146 mP_146 mL_146 mO_146 rfl rfl ob_0 rfl rfl hq4 ?_
        refine Rc.if_eq (pc1 := 31) tb_110 rfl rfl (by decide) (by decide) (fun hb13 => ?_) (fun hb13 => ?_)
        · rw [if_pos hb13] at h
          refine Rc.run tb_110 1 (pc' := 32) (ls' := [some (.ref (0)), some (.int (a1)), some (.int (a2)), none, none, none]) (st' := [.ref (0)]) rfl rfl ?_
          refine Rc.getR tb_110 rfl rfl ob_0 (by decide +kernel) tg_0_7 (by decide) ?_
          refine Rc.run tb_110 1 (pc' := 36) (ls' := [some (.ref (0)), some (.int (a1)), some (.int (a2)), none, none, none]) (st' := [.ref (0), .ref (51)]) rfl rfl ?_
          refine Rc.getR tb_110 rfl rfl ob_0 (by decide +kernel) tg_0_0 (by decide) ?_
          refine Rc.run tb_110 1 (pc' := 40) (ls' := [some (.ref (0)), some (.int (a1)), some (.int (a2)), none, none, none]) (st' := [.int (a1), .ref (1), .ref (51)]) rfl rfl ?_
          cases hc5 : F_22 1 a1 M4 with
          | none => rw [hc5] at h; cases h
          | some M5 =>
            rw [hc5] at h
            dsimp only at h
            have hq5 := T_22 (X := X) (d := d) (by omega) (M := M4) vh_1 hc5
            refine Rc.callV tb_110 rfl rfl rfl mS_22 mP_22 mL_22 mO_22 rfl rfl ob_51 rfl rfl hq5 ?_
            refine Rc.run tb_110 1 (pc' := 44) (ls' := [some (.ref (0)), some (.int (a1)), some (.int (a2)), none, none, none]) (st' := [.ref (0)]) rfl rfl ?_
            refine Rc.getR tb_110 rfl rfl ob_0 (by decide +kernel) tg_0_7 (by decide) ?_
            refine Rc.getR tb_110 rfl rfl ob_51 (by decide +kernel) tg_51_1 (by decide) ?_
            refine Rc.run tb_110 1 (pc' := 51) (ls' := [some (.ref (0)), some (.int (a1)), some (.int (a2)), none, none, none]) (st' := [.int (a2), .ref (53)]) rfl rfl ?_
            by_cases hb12 : inb a2 156 = true
            · rw [if_pos hb12] at h
              refine Rc.iald tb_110 rfl rfl ia_53 hb12 ?_
              refine Rc.run tb_110 5 (pc' := 59) (ls' := [some (.ref (0)), some (.int (a1)), some (.int (a2)), some (.int (M5 53 a2.toNatClampNeg)), some (.int (0)), some (.int (1))]) (st' := []) rfl rfl ?_
              refine Rc.mask (b := 61) ((tb_110.2 59).trans rfl) (ls' := [some (.ref (0)), none, some (.int (a2)), some (.int (M5 53 a2.toNatClampNeg)), some (.int (0)), some (.int (1))]) rfl ?_
              cases hl11 : L_110_59 a2 (M5 53 a2.toNatClampNeg) 0 1 M5 with
              | none => rw [hl11] at h; cases h
              | some r11 =>
                obtain ⟨x4_11, x5_11, M11⟩ := r11
                rw [hl11] at h
                dsimp only at h
                refine TL_110_59 (X := X) (d := d + 1) (by omega) hl11 ?_
                refine Rc.run tb_110 1 (pc' := 108) (ls' := [none, none, none, none, some (.int (x4_11)), none]) (st' := [.int (x4_11)]) rfl rfl ?_
                obtain rfl := Option.some.inj h
                obtain ⟨rfl, rfl⟩ := hC
                exact Rc.iret (ins := .ireturn) tb_110 rfl mR_110
            · rw [if_neg hb12] at h
              cases h
        · rw [if_neg hb13] at h
          refine Rc.run tb_110 1 (pc' := 30) (ls' := [some (.ref (0)), some (.int (a1)), some (.int (a2)), none, none, none]) (st' := [.int (0)]) rfl rfl ?_
          obtain rfl := Option.some.inj h
          obtain ⟨rfl, rfl⟩ := hC
          exact Rc.iret (ins := .ireturn) tb_110 rfl mR_110
theorem T_110 {X : AX} {d : Nat} (hd : 67 ≤ d) {a1 : Int32} {a2 : Int32} {M : IM} {x : Int32} {M1 : IM} (h : F_110 a1 a2 M = some (x, M1)) : Rc X d 110 0 [some (.ref (0)), some (.int (a1)), some (.int (a2)), none, none, none] [] M (some (.int x)) M1 := TF_110 hd h ⟨rfl, rfl⟩
/-! 111: NineDemands.near -/
def F_111 (a1 : Int32) (M : IM) : Option (Int32 × IM) := if F_135 a1 M = 0 then (match F_132 (1 : Int32) M with | none => none | some (c2, M2) => (some ((c2, M2)))) else (match F_146 a1 M with | none => none | some (c3, M3) => (if c3 = 0 then (match F_22 1 a1 M3 with | none => none | some M4 => (match F_48 2 M4 with | none => none | some M5 => (if inb a1 256 = true then (some (((iset M5 68 a1.toNatClampNeg (M5 50 8)) 50 9, iset M5 68 a1.toNatClampNeg (M5 50 8)))) else none))) else (match F_132 (2 : Int32) M3 with | none => none | some (c7, M7) => (some ((c7, M7))))))
theorem TF_111 {X : AX} {d : Nat} (hd : 194 ≤ d) {a1 : Int32} {M : IM} {v : Option Value} {M' : IM} {o : Int32 × IM} (h : F_111 a1 M = some o) (hC : v = some (.int o.1) ∧ M' = o.2) : Rc X d 111 0 [some (.ref (0)), some (.int (a1))] [] M v M' := by
  obtain ⟨d, rfl⟩ : ∃ e, d = e + 1 := ⟨d - 1, by omega⟩
  unfold F_111 at h
  refine Rc.run tb_111 2 (pc' := 2) (ls' := [some (.ref (0)), some (.int (a1))]) (st' := [.int (a1), .ref (0)]) rfl rfl ?_
  have hq1 := T_135 (X := X) (d := d) (by omega) a1 M
  have hz1 := Rc.bool mR_135 hq1
  refine Rc.callV tb_111 rfl rfl rfl mS_135 mP_135 mL_135 mO_135 rfl rfl ob_0 rfl rfl hq1 ?_
  refine Rc.if_ne (pc1 := 14) tb_111 rfl rfl (by decide) (by decide) (fun hb9 => ?_) (fun hb9 => ?_)
  · rw [if_pos hb9] at h
    refine Rc.run tb_111 2 (pc' := 10) (ls' := [some (.ref (0)), some (.int (a1))]) (st' := [.int (1), .ref (0)]) rfl rfl ?_
    cases hc2 : F_132 (1 : Int32) M with
    | none => rw [hc2] at h; cases h
    | some r2 =>
      obtain ⟨c2, M2⟩ := r2
      rw [hc2] at h
      dsimp only at h
      have hq2 := T_132 (X := X) (d := d) (by omega) (M := M) hc2
      refine Rc.callV tb_111 rfl rfl rfl mS_132 mP_132 mL_132 mO_132 rfl rfl ob_0 rfl rfl hq2 ?_
      obtain rfl := Option.some.inj h
      obtain ⟨rfl, rfl⟩ := hC
      exact Rc.iret (ins := .ireturn) tb_111 rfl mR_111
  · rw [if_neg hb9] at h
    refine Rc.run tb_111 2 (pc' := 16) (ls' := [some (.ref (0)), some (.int (a1))]) (st' := [.int (a1), .ref (0)]) rfl rfl ?_
    cases hc3 : F_146 a1 M with
    | none => rw [hc3] at h; cases h
    | some r3 =>
      obtain ⟨c3, M3⟩ := r3
      rw [hc3] at h
      dsimp only at h
      have hq3 := T_146 (X := X) (d := d) (by omega) (M := M) hc3
      have hz3 := Rc.bool mR_146 hq3
      refine Rc.callV tb_111 rfl rfl rfl mS_146 mP_146 mL_146 mO_146 rfl rfl ob_0 rfl rfl hq3 ?_
      refine Rc.if_eq (pc1 := 28) tb_111 rfl rfl (by decide) (by decide) (fun hb8 => ?_) (fun hb8 => ?_)
      · rw [if_pos hb8] at h
        refine Rc.run tb_111 1 (pc' := 29) (ls' := [some (.ref (0)), some (.int (a1))]) (st' := [.ref (0)]) rfl rfl ?_
        refine Rc.getR tb_111 rfl rfl ob_0 (by decide +kernel) tg_0_7 (by decide) ?_
        refine Rc.run tb_111 1 (pc' := 33) (ls' := [some (.ref (0)), some (.int (a1))]) (st' := [.ref (0), .ref (51)]) rfl rfl ?_
        refine Rc.getR tb_111 rfl rfl ob_0 (by decide +kernel) tg_0_0 (by decide) ?_
        refine Rc.run tb_111 1 (pc' := 37) (ls' := [some (.ref (0)), some (.int (a1))]) (st' := [.int (a1), .ref (1), .ref (51)]) rfl rfl ?_
        cases hc4 : F_22 1 a1 M3 with
        | none => rw [hc4] at h; cases h
        | some M4 =>
          rw [hc4] at h
          dsimp only at h
          have hq4 := T_22 (X := X) (d := d) (by omega) (M := M3) vh_1 hc4
          refine Rc.callV tb_111 rfl rfl rfl mS_22 mP_22 mL_22 mO_22 rfl rfl ob_51 rfl rfl hq4 ?_
          refine Rc.run tb_111 1 (pc' := 41) (ls' := [some (.ref (0)), some (.int (a1))]) (st' := [.ref (0)]) rfl rfl ?_
          refine Rc.getR tb_111 rfl rfl ob_0 (by decide +kernel) tg_0_6 (by decide) ?_
          refine Rc.run tb_111 1 (pc' := 45) (ls' := [some (.ref (0)), some (.int (a1))]) (st' := [.ref (0), .ref (50)]) rfl rfl ?_
          refine Rc.getR tb_111 rfl rfl ob_0 (by decide +kernel) tg_0_0 (by decide) ?_
          refine Rc.getR tb_111 rfl rfl (VilH.ob vh_1) (by decide +kernel) (VilH.f0 vh_1) (by decide) ?_
          cases hc5 : F_48 2 M4 with
          | none => rw [hc5] at h; cases h
          | some M5 =>
            rw [hc5] at h
            dsimp only at h
            have hq5 := T_48 (X := X) (d := d) (by omega) (M := M4) (ia_2).1 hc5
            refine Rc.callV tb_111 rfl rfl rfl mS_48 mP_48 mL_48 mO_48 rfl rfl ob_50 rfl rfl hq5 ?_
            refine Rc.run tb_111 1 (pc' := 55) (ls' := [some (.ref (0)), some (.int (a1))]) (st' := [.ref (0)]) rfl rfl ?_
            refine Rc.getR tb_111 rfl rfl ob_0 (by decide +kernel) tg_0_11 (by decide) ?_
            refine Rc.run tb_111 2 (pc' := 60) (ls' := [some (.ref (0)), some (.int (a1))]) (st' := [.ref (0), .int (a1), .ref (68)]) rfl rfl ?_
            refine Rc.getR tb_111 rfl rfl ob_0 (by decide +kernel) tg_0_6 (by decide) ?_
            refine Rc.getI tb_111 rfl rfl ob_50 (by decide +kernel) tg_50_8 ?_
            by_cases hb6 : inb a1 256 = true
            · rw [if_pos hb6] at h
              refine Rc.iast tb_111 rfl rfl ia_68 hb6 ?_
              refine Rc.run tb_111 1 (pc' := 68) (ls' := [some (.ref (0)), some (.int (a1))]) (st' := [.ref (0)]) rfl rfl ?_
              refine Rc.getR tb_111 rfl rfl ob_0 (by decide +kernel) tg_0_6 (by decide) ?_
              refine Rc.getI tb_111 rfl rfl ob_50 (by decide +kernel) tg_50_9 ?_
              obtain rfl := Option.some.inj h
              obtain ⟨rfl, rfl⟩ := hC
              exact Rc.iret (ins := .ireturn) tb_111 rfl mR_111
            · rw [if_neg hb6] at h
              cases h
      · rw [if_neg hb8] at h
        refine Rc.run tb_111 2 (pc' := 24) (ls' := [some (.ref (0)), some (.int (a1))]) (st' := [.int (2), .ref (0)]) rfl rfl ?_
        cases hc7 : F_132 (2 : Int32) M3 with
        | none => rw [hc7] at h; cases h
        | some r7 =>
          obtain ⟨c7, M7⟩ := r7
          rw [hc7] at h
          dsimp only at h
          have hq7 := T_132 (X := X) (d := d) (by omega) (M := M3) hc7
          refine Rc.callV tb_111 rfl rfl rfl mS_132 mP_132 mL_132 mO_132 rfl rfl ob_0 rfl rfl hq7 ?_
          obtain rfl := Option.some.inj h
          obtain ⟨rfl, rfl⟩ := hC
          exact Rc.iret (ins := .ireturn) tb_111 rfl mR_111
theorem T_111 {X : AX} {d : Nat} (hd : 194 ≤ d) {a1 : Int32} {M : IM} {x : Int32} {M1 : IM} (h : F_111 a1 M = some (x, M1)) : Rc X d 111 0 [some (.ref (0)), some (.int (a1))] [] M (some (.int x)) M1 := TF_111 hd h ⟨rfl, rfl⟩
/-! 115: NineDemands.small -/
def J_115_69_38 (x1 : Int32) (x2 : Int32) (x3 : Int32) (M : IM) : Option ((Int32 × IM) ⊕ ((Int32 × IM) ⊕ (Int32 × IM))) := some (Sum.inl (x3 + 1, M))
def B_115_38 (x1 : Int32) (x2 : Int32) : (Int32 × IM) → Option ((Int32 × IM) ⊕ ((Int32 × IM) ⊕ (Int32 × IM))) := fun (x3, M) => if x1 < x3 then (some (Sum.inr (Sum.inl (x3, M)))) else (if x3 &&& (x1 ^^^ (-1)) = 0 then (if F_252 x3 = x2 then (match F_146 x3 M with | none => none | some (c6, M6) => (if c6 = 0 then (J_115_69_38 x1 x2 x3 M6) else (some (Sum.inr (Sum.inr (x3, M6)))))) else (J_115_69_38 x1 x2 x3 M)) else (J_115_69_38 x1 x2 x3 M))
def L_115_38 (x1 : Int32) (x2 : Int32) (x3 : Int32) (M : IM) : Option ((Int32 × IM) ⊕ (Int32 × IM)) := loopN (B_115_38 x1 x2) FU (x3, M)
def J_115_75_30 (x1 : Int32) (x2 : Int32) (M : IM) : Option ((Int32 × IM) ⊕ ((Int32 × IM) ⊕ (Int32 × IM))) := some (Sum.inl (x2 + 1, M))
def B_115_30 (x1 : Int32) : (Int32 × IM) → Option ((Int32 × IM) ⊕ ((Int32 × IM) ⊕ (Int32 × IM))) := fun (x2, M) => if (8 : Int32) < x2 then (some (Sum.inr (Sum.inl (x2, M)))) else (match L_115_38 x1 x2 1 M with | none => none | some (.inl (x3_11, M11)) => (J_115_75_30 x1 x2 M11) | some (.inr q) => some (Sum.inr (Sum.inr q)))
def L_115_30 (x1 : Int32) (x2 : Int32) (M : IM) : Option ((Int32 × IM) ⊕ (Int32 × IM)) := loopN (B_115_30 x1) FU (x2, M)
def F_115 (a1 : Int32) (M : IM) : Option (Int32 × IM) := if F_135 a1 M = 0 then (match F_132 (1 : Int32) M with | none => none | some (c2, M2) => (some ((c2, M2)))) else (match F_146 a1 M with | none => none | some (c3, M3) => (if c3 = 0 then (match F_132 (3 : Int32) M3 with | none => none | some (c4, M4) => (some ((c4, M4)))) else (match L_115_30 a1 1 M3 with | none => none | some (.inl (x2_13, M13)) => (some ((a1, M13))) | some (.inr q) => some (q))))
theorem TJ_115_69_38 {X : AX} {d : Nat} (hd : 67 ≤ d) {x1 : Int32} {x2 : Int32} {x3 : Int32} {M : IM} {v : Option Value} {M' : IM} {o : (Int32 × IM) ⊕ ((Int32 × IM) ⊕ (Int32 × IM))} (h : J_115_69_38 x1 x2 x3 M = some o) (hP : ∀ s', o = .inl s' → (fun (x3, M) => Rc X d 115 38 [some (.ref (0)), some (.int (x1)), some (.int (x2)), some (.int (x3))] [] M v M') s') (hE : ∀ r, o = .inr r → (fun r => match r with | .inl (x3, M) => Rc X d 115 75 [some (.ref (0)), some (.int (x1)), some (.int (x2)), none] [] M v M' | .inr q => v = some (.int q.1) ∧ M' = q.2) r) : Rc X d 115 69 [some (.ref (0)), some (.int (x1)), some (.int (x2)), some (.int (x3))] [] M v M' := by
  obtain ⟨d, rfl⟩ : ∃ e, d = e + 1 := ⟨d - 1, by omega⟩
  unfold J_115_69_38 at h
  dsimp only at hP hE
  refine Rc.run tb_115 2 (pc' := 38) (ls' := [some (.ref (0)), some (.int (x1)), some (.int (x2)), some (.int (x3 + 1))]) (st' := []) rfl rfl ?_
  refine Rc.mask (b := 15) ((tb_115.2 38).trans rfl) (ls' := [some (.ref (0)), some (.int (x1)), some (.int (x2)), some (.int (x3 + 1))]) rfl ?_
  obtain rfl := Option.some.inj h
  exact hP _ rfl
theorem TB_115_38 {X : AX} {d : Nat} (hd : 67 ≤ d) {x1 : Int32} {x2 : Int32} {v : Option Value} {M' : IM} : ∀ (s : Int32 × IM) (o : (Int32 × IM) ⊕ ((Int32 × IM) ⊕ (Int32 × IM))), B_115_38 x1 x2 s = some o → (∀ s', o = .inl s' → (fun (x3, M) => Rc X d 115 38 [some (.ref (0)), some (.int (x1)), some (.int (x2)), some (.int (x3))] [] M v M') s') → (∀ r, o = .inr r → (fun r => match r with | .inl (x3, M) => Rc X d 115 75 [some (.ref (0)), some (.int (x1)), some (.int (x2)), none] [] M v M' | .inr q => v = some (.int q.1) ∧ M' = q.2) r) → (fun (x3, M) => Rc X d 115 38 [some (.ref (0)), some (.int (x1)), some (.int (x2)), some (.int (x3))] [] M v M') s := by
  rintro ⟨x3, M⟩ o h hP hE
  show Rc X d 115 38 [some (.ref (0)), some (.int (x1)), some (.int (x2)), some (.int (x3))] [] M v M'
  obtain ⟨d, rfl⟩ : ∃ e, d = e + 1 := ⟨d - 1, by omega⟩
  unfold B_115_38 at h
  dsimp only at h hP hE
  refine Rc.run tb_115 2 (pc' := 40) (ls' := [some (.ref (0)), some (.int (x1)), some (.int (x2)), some (.int (x3))]) (st' := [.int (x1), .int (x3)]) rfl rfl ?_
  refine Rc.icmp_gt (pc1 := 75) tb_115 rfl rfl (by decide) (by decide) (fun hb10 => ?_) (fun hb10 => ?_)
  · rw [if_pos hb10] at h
    refine Rc.mask (b := 7) ((tb_115.2 75).trans rfl) (ls' := [some (.ref (0)), some (.int (x1)), some (.int (x2)), none]) rfl ?_
    obtain rfl := Option.some.inj h
    exact hE _ rfl
  · rw [if_neg hb10] at h
    refine Rc.run tb_115 5 (pc' := 48) (ls' := [some (.ref (0)), some (.int (x1)), some (.int (x2)), some (.int (x3))]) (st' := [.int (x3 &&& (x1 ^^^ (-1)))]) rfl rfl ?_
    refine Rc.if_ne (pc1 := 69) tb_115 rfl rfl (by decide) (by decide) (fun hb9 => ?_) (fun hb9 => ?_)
    · rw [if_pos hb9] at h
      refine Rc.run tb_115 1 (pc' := 52) (ls' := [some (.ref (0)), some (.int (x1)), some (.int (x2)), some (.int (x3))]) (st' := [.int (x3)]) rfl rfl ?_
      have hq5 := T_252 (X := X) (d := d) (by omega) x3 M
      refine Rc.callS tb_115 rfl rfl rfl mS_252 mP_252 mL_252 rfl rfl rfl hq5 ?_
      refine Rc.run tb_115 1 (pc' := 56) (ls' := [some (.ref (0)), some (.int (x1)), some (.int (x2)), some (.int (x3))]) (st' := [.int (x2), .int (F_252 x3)]) rfl rfl ?_
      refine Rc.icmp_ne (pc1 := 69) tb_115 rfl rfl (by decide) (by decide) (fun hb8 => ?_) (fun hb8 => ?_)
      · rw [if_pos hb8] at h
        refine Rc.run tb_115 2 (pc' := 61) (ls' := [some (.ref (0)), some (.int (x1)), some (.int (x2)), some (.int (x3))]) (st' := [.int (x3), .ref (0)]) rfl rfl ?_
        cases hc6 : F_146 x3 M with
        | none => rw [hc6] at h; cases h
        | some r6 =>
          obtain ⟨c6, M6⟩ := r6
          rw [hc6] at h
          dsimp only at h
          have hq6 := T_146 (X := X) (d := d) (by omega) (M := M) hc6
          have hz6 := Rc.bool mR_146 hq6
          refine Rc.callV tb_115 rfl rfl rfl mS_146 mP_146 mL_146 mO_146 rfl rfl ob_0 rfl rfl hq6 ?_
          refine Rc.if_eq (pc1 := 69) tb_115 rfl rfl (by decide) (by decide) (fun hb7 => ?_) (fun hb7 => ?_)
          · rw [if_pos hb7] at h
            refine Rc.mask (b := 15) ((tb_115.2 69).trans rfl) (ls' := [some (.ref (0)), some (.int (x1)), some (.int (x2)), some (.int (x3))]) rfl ?_
            exact TJ_115_69_38 (X := X) (d := d + 1) (by omega) h hP hE
          · rw [if_neg hb7] at h
            refine Rc.run tb_115 1 (pc' := 68) (ls' := [some (.ref (0)), some (.int (x1)), some (.int (x2)), some (.int (x3))]) (st' := [.int (x3)]) rfl rfl ?_
            obtain rfl := Option.some.inj h
            obtain ⟨rfl, rfl⟩ := hE _ rfl
            exact Rc.iret (ins := .ireturn) tb_115 rfl mR_115
      · rw [if_neg hb8] at h
        refine Rc.mask (b := 15) ((tb_115.2 69).trans rfl) (ls' := [some (.ref (0)), some (.int (x1)), some (.int (x2)), some (.int (x3))]) rfl ?_
        exact TJ_115_69_38 (X := X) (d := d + 1) (by omega) h hP hE
    · rw [if_neg hb9] at h
      refine Rc.mask (b := 15) ((tb_115.2 69).trans rfl) (ls' := [some (.ref (0)), some (.int (x1)), some (.int (x2)), some (.int (x3))]) rfl ?_
      exact TJ_115_69_38 (X := X) (d := d + 1) (by omega) h hP hE
theorem TL_115_38 {X : AX} {d : Nat} (hd : 67 ≤ d) {x1 : Int32} {x2 : Int32} {x3 : Int32} {M : IM} {v : Option Value} {M' : IM} {r : (Int32 × IM) ⊕ (Int32 × IM)} (h : L_115_38 x1 x2 x3 M = some r) (hE : (fun r => match r with | .inl (x3, M) => Rc X d 115 75 [some (.ref (0)), some (.int (x1)), some (.int (x2)), none] [] M v M' | .inr q => v = some (.int q.1) ∧ M' = q.2) r) : Rc X d 115 38 [some (.ref (0)), some (.int (x1)), some (.int (x2)), some (.int (x3))] [] M v M' := by
  exact loopN_rc (P := fun (x3, M) => Rc X d 115 38 [some (.ref (0)), some (.int (x1)), some (.int (x2)), some (.int (x3))] [] M v M') (E := fun r => match r with | .inl (x3, M) => Rc X d 115 75 [some (.ref (0)), some (.int (x1)), some (.int (x2)), none] [] M v M' | .inr q => v = some (.int q.1) ∧ M' = q.2) (TB_115_38 (X := X) hd) FU _ r h hE
theorem TJ_115_75_30 {X : AX} {d : Nat} (hd : 67 ≤ d) {x1 : Int32} {x2 : Int32} {M : IM} {v : Option Value} {M' : IM} {o : (Int32 × IM) ⊕ ((Int32 × IM) ⊕ (Int32 × IM))} (h : J_115_75_30 x1 x2 M = some o) (hP : ∀ s', o = .inl s' → (fun (x2, M) => Rc X d 115 30 [some (.ref (0)), some (.int (x1)), some (.int (x2)), none] [] M v M') s') (hE : ∀ r, o = .inr r → (fun r => match r with | .inl (x2, M) => Rc X d 115 81 [none, some (.int (x1)), none, none] [] M v M' | .inr q => v = some (.int q.1) ∧ M' = q.2) r) : Rc X d 115 75 [some (.ref (0)), some (.int (x1)), some (.int (x2)), none] [] M v M' := by
  obtain ⟨d, rfl⟩ : ∃ e, d = e + 1 := ⟨d - 1, by omega⟩
  unfold J_115_75_30 at h
  dsimp only at hP hE
  refine Rc.run tb_115 2 (pc' := 30) (ls' := [some (.ref (0)), some (.int (x1)), some (.int (x2 + 1)), none]) (st' := []) rfl rfl ?_
  refine Rc.mask (b := 7) ((tb_115.2 30).trans rfl) (ls' := [some (.ref (0)), some (.int (x1)), some (.int (x2 + 1)), none]) rfl ?_
  obtain rfl := Option.some.inj h
  exact hP _ rfl
theorem TB_115_30 {X : AX} {d : Nat} (hd : 67 ≤ d) {x1 : Int32} {v : Option Value} {M' : IM} : ∀ (s : Int32 × IM) (o : (Int32 × IM) ⊕ ((Int32 × IM) ⊕ (Int32 × IM))), B_115_30 x1 s = some o → (∀ s', o = .inl s' → (fun (x2, M) => Rc X d 115 30 [some (.ref (0)), some (.int (x1)), some (.int (x2)), none] [] M v M') s') → (∀ r, o = .inr r → (fun r => match r with | .inl (x2, M) => Rc X d 115 81 [none, some (.int (x1)), none, none] [] M v M' | .inr q => v = some (.int q.1) ∧ M' = q.2) r) → (fun (x2, M) => Rc X d 115 30 [some (.ref (0)), some (.int (x1)), some (.int (x2)), none] [] M v M') s := by
  rintro ⟨x2, M⟩ o h hP hE
  show Rc X d 115 30 [some (.ref (0)), some (.int (x1)), some (.int (x2)), none] [] M v M'
  obtain ⟨d, rfl⟩ : ∃ e, d = e + 1 := ⟨d - 1, by omega⟩
  unfold B_115_30 at h
  dsimp only at h hP hE
  refine Rc.run tb_115 2 (pc' := 33) (ls' := [some (.ref (0)), some (.int (x1)), some (.int (x2)), none]) (st' := [.int (8), .int (x2)]) rfl rfl ?_
  refine Rc.icmp_gt (pc1 := 81) tb_115 rfl rfl (by decide) (by decide) (fun hb12 => ?_) (fun hb12 => ?_)
  · rw [if_pos hb12] at h
    refine Rc.mask (b := 2) ((tb_115.2 81).trans rfl) (ls' := [none, some (.int (x1)), none, none]) rfl ?_
    obtain rfl := Option.some.inj h
    exact hE _ rfl
  · rw [if_neg hb12] at h
    refine Rc.run tb_115 2 (pc' := 38) (ls' := [some (.ref (0)), some (.int (x1)), some (.int (x2)), some (.int (1))]) (st' := []) rfl rfl ?_
    refine Rc.mask (b := 15) ((tb_115.2 38).trans rfl) (ls' := [some (.ref (0)), some (.int (x1)), some (.int (x2)), some (.int (1))]) rfl ?_
    cases hl11 : L_115_38 x1 x2 1 M with
    | none => rw [hl11] at h; cases h
    | some rr11 =>
      rw [hl11] at h
      cases rr11 with
      | inl r11 =>
        obtain ⟨x3_11, M11⟩ := r11
        dsimp only at h
        refine TL_115_38 (X := X) (d := d + 1) (by omega) hl11 ?_
        refine Rc.mask (b := 7) ((tb_115.2 75).trans rfl) (ls' := [some (.ref (0)), some (.int (x1)), some (.int (x2)), none]) rfl ?_
        exact TJ_115_75_30 (X := X) (d := d + 1) (by omega) h hP hE
      | inr q =>
        dsimp only at h
        refine TL_115_38 (X := X) (d := d + 1) (by omega) hl11 ?_
        obtain rfl := Option.some.inj h
        obtain ⟨rfl, rfl⟩ := hE _ rfl
        exact ⟨rfl, rfl⟩
theorem TL_115_30 {X : AX} {d : Nat} (hd : 67 ≤ d) {x1 : Int32} {x2 : Int32} {M : IM} {v : Option Value} {M' : IM} {r : (Int32 × IM) ⊕ (Int32 × IM)} (h : L_115_30 x1 x2 M = some r) (hE : (fun r => match r with | .inl (x2, M) => Rc X d 115 81 [none, some (.int (x1)), none, none] [] M v M' | .inr q => v = some (.int q.1) ∧ M' = q.2) r) : Rc X d 115 30 [some (.ref (0)), some (.int (x1)), some (.int (x2)), none] [] M v M' := by
  exact loopN_rc (P := fun (x2, M) => Rc X d 115 30 [some (.ref (0)), some (.int (x1)), some (.int (x2)), none] [] M v M') (E := fun r => match r with | .inl (x2, M) => Rc X d 115 81 [none, some (.int (x1)), none, none] [] M v M' | .inr q => v = some (.int q.1) ∧ M' = q.2) (TB_115_30 (X := X) hd) FU _ r h hE
theorem TF_115 {X : AX} {d : Nat} (hd : 67 ≤ d) {a1 : Int32} {M : IM} {v : Option Value} {M' : IM} {o : Int32 × IM} (h : F_115 a1 M = some o) (hC : v = some (.int o.1) ∧ M' = o.2) : Rc X d 115 0 [some (.ref (0)), some (.int (a1)), none, none] [] M v M' := by
  obtain ⟨d, rfl⟩ : ∃ e, d = e + 1 := ⟨d - 1, by omega⟩
  unfold F_115 at h
  refine Rc.run tb_115 2 (pc' := 2) (ls' := [some (.ref (0)), some (.int (a1)), none, none]) (st' := [.int (a1), .ref (0)]) rfl rfl ?_
  have hq1 := T_135 (X := X) (d := d) (by omega) a1 M
  have hz1 := Rc.bool mR_135 hq1
  refine Rc.callV tb_115 rfl rfl rfl mS_135 mP_135 mL_135 mO_135 rfl rfl ob_0 rfl rfl hq1 ?_
  refine Rc.if_ne (pc1 := 14) tb_115 rfl rfl (by decide) (by decide) (fun hb15 => ?_) (fun hb15 => ?_)
  · rw [if_pos hb15] at h
    refine Rc.run tb_115 2 (pc' := 10) (ls' := [some (.ref (0)), some (.int (a1)), none, none]) (st' := [.int (1), .ref (0)]) rfl rfl ?_
    cases hc2 : F_132 (1 : Int32) M with
    | none => rw [hc2] at h; cases h
    | some r2 =>
      obtain ⟨c2, M2⟩ := r2
      rw [hc2] at h
      dsimp only at h
      have hq2 := T_132 (X := X) (d := d) (by omega) (M := M) hc2
      refine Rc.callV tb_115 rfl rfl rfl mS_132 mP_132 mL_132 mO_132 rfl rfl ob_0 rfl rfl hq2 ?_
      obtain rfl := Option.some.inj h
      obtain ⟨rfl, rfl⟩ := hC
      exact Rc.iret (ins := .ireturn) tb_115 rfl mR_115
  · rw [if_neg hb15] at h
    refine Rc.run tb_115 2 (pc' := 16) (ls' := [some (.ref (0)), some (.int (a1)), none, none]) (st' := [.int (a1), .ref (0)]) rfl rfl ?_
    cases hc3 : F_146 a1 M with
    | none => rw [hc3] at h; cases h
    | some r3 =>
      obtain ⟨c3, M3⟩ := r3
      rw [hc3] at h
      dsimp only at h
      have hq3 := T_146 (X := X) (d := d) (by omega) (M := M) hc3
      have hz3 := Rc.bool mR_146 hq3
      refine Rc.callV tb_115 rfl rfl rfl mS_146 mP_146 mL_146 mO_146 rfl rfl ob_0 rfl rfl hq3 ?_
      refine Rc.if_ne (pc1 := 28) tb_115 rfl rfl (by decide) (by decide) (fun hb14 => ?_) (fun hb14 => ?_)
      · rw [if_pos hb14] at h
        refine Rc.run tb_115 2 (pc' := 24) (ls' := [some (.ref (0)), some (.int (a1)), none, none]) (st' := [.int (3), .ref (0)]) rfl rfl ?_
        cases hc4 : F_132 (3 : Int32) M3 with
        | none => rw [hc4] at h; cases h
        | some r4 =>
          obtain ⟨c4, M4⟩ := r4
          rw [hc4] at h
          dsimp only at h
          have hq4 := T_132 (X := X) (d := d) (by omega) (M := M3) hc4
          refine Rc.callV tb_115 rfl rfl rfl mS_132 mP_132 mL_132 mO_132 rfl rfl ob_0 rfl rfl hq4 ?_
          obtain rfl := Option.some.inj h
          obtain ⟨rfl, rfl⟩ := hC
          exact Rc.iret (ins := .ireturn) tb_115 rfl mR_115
      · rw [if_neg hb14] at h
        refine Rc.run tb_115 2 (pc' := 30) (ls' := [some (.ref (0)), some (.int (a1)), some (.int (1)), none]) (st' := []) rfl rfl ?_
        refine Rc.mask (b := 7) ((tb_115.2 30).trans rfl) (ls' := [some (.ref (0)), some (.int (a1)), some (.int (1)), none]) rfl ?_
        cases hl13 : L_115_30 a1 1 M3 with
        | none => rw [hl13] at h; cases h
        | some rr13 =>
          rw [hl13] at h
          cases rr13 with
          | inl r13 =>
            obtain ⟨x2_13, M13⟩ := r13
            dsimp only at h
            refine TL_115_30 (X := X) (d := d + 1) (by omega) hl13 ?_
            refine Rc.run tb_115 1 (pc' := 82) (ls' := [none, some (.int (a1)), none, none]) (st' := [.int (a1)]) rfl rfl ?_
            obtain rfl := Option.some.inj h
            obtain ⟨rfl, rfl⟩ := hC
            exact Rc.iret (ins := .ireturn) tb_115 rfl mR_115
          | inr q =>
            dsimp only at h
            refine TL_115_30 (X := X) (d := d + 1) (by omega) hl13 ?_
            obtain rfl := Option.some.inj h
            obtain ⟨rfl, rfl⟩ := hC
            exact ⟨rfl, rfl⟩
theorem T_115 {X : AX} {d : Nat} (hd : 67 ≤ d) {a1 : Int32} {M : IM} {x : Int32} {M1 : IM} (h : F_115 a1 M = some (x, M1)) : Rc X d 115 0 [some (.ref (0)), some (.int (a1)), none, none] [] M (some (.int x)) M1 := TF_115 hd h ⟨rfl, rfl⟩
/-! 116: NineDemands.few -/
def F_116 (a1 : Int32) (M : IM) : Option (Int32 × IM) := if F_135 a1 M = 0 then (match F_132 (1 : Int32) M with | none => none | some (c2, M2) => (some ((c2, M2)))) else (match F_146 a1 M with | none => none | some (c3, M3) => (if c3 = 0 then (match F_132 (3 : Int32) M3 with | none => none | some (c4, M4) => (some ((c4, M4)))) else (match F_22 1 a1 M3 with | none => none | some M5 => (match F_28 M5 with | none => none | some (c6, M6) => (some ((c6, M6)))))))
theorem TF_116 {X : AX} {d : Nat} (hd : 67 ≤ d) {a1 : Int32} {M : IM} {v : Option Value} {M' : IM} {o : Int32 × IM} (h : F_116 a1 M = some o) (hC : v = some (.int o.1) ∧ M' = o.2) : Rc X d 116 0 [some (.ref (0)), some (.int (a1))] [] M v M' := by
  obtain ⟨d, rfl⟩ : ∃ e, d = e + 1 := ⟨d - 1, by omega⟩
  unfold F_116 at h
  refine Rc.run tb_116 2 (pc' := 2) (ls' := [some (.ref (0)), some (.int (a1))]) (st' := [.int (a1), .ref (0)]) rfl rfl ?_
  have hq1 := T_135 (X := X) (d := d) (by omega) a1 M
  have hz1 := Rc.bool mR_135 hq1
  refine Rc.callV tb_116 rfl rfl rfl mS_135 mP_135 mL_135 mO_135 rfl rfl ob_0 rfl rfl hq1 ?_
  refine Rc.if_ne (pc1 := 14) tb_116 rfl rfl (by decide) (by decide) (fun hb8 => ?_) (fun hb8 => ?_)
  · rw [if_pos hb8] at h
    refine Rc.run tb_116 2 (pc' := 10) (ls' := [some (.ref (0)), some (.int (a1))]) (st' := [.int (1), .ref (0)]) rfl rfl ?_
    cases hc2 : F_132 (1 : Int32) M with
    | none => rw [hc2] at h; cases h
    | some r2 =>
      obtain ⟨c2, M2⟩ := r2
      rw [hc2] at h
      dsimp only at h
      have hq2 := T_132 (X := X) (d := d) (by omega) (M := M) hc2
      refine Rc.callV tb_116 rfl rfl rfl mS_132 mP_132 mL_132 mO_132 rfl rfl ob_0 rfl rfl hq2 ?_
      obtain rfl := Option.some.inj h
      obtain ⟨rfl, rfl⟩ := hC
      exact Rc.iret (ins := .ireturn) tb_116 rfl mR_116
  · rw [if_neg hb8] at h
    refine Rc.run tb_116 2 (pc' := 16) (ls' := [some (.ref (0)), some (.int (a1))]) (st' := [.int (a1), .ref (0)]) rfl rfl ?_
    cases hc3 : F_146 a1 M with
    | none => rw [hc3] at h; cases h
    | some r3 =>
      obtain ⟨c3, M3⟩ := r3
      rw [hc3] at h
      dsimp only at h
      have hq3 := T_146 (X := X) (d := d) (by omega) (M := M) hc3
      have hz3 := Rc.bool mR_146 hq3
      refine Rc.callV tb_116 rfl rfl rfl mS_146 mP_146 mL_146 mO_146 rfl rfl ob_0 rfl rfl hq3 ?_
      refine Rc.if_ne (pc1 := 28) tb_116 rfl rfl (by decide) (by decide) (fun hb7 => ?_) (fun hb7 => ?_)
      · rw [if_pos hb7] at h
        refine Rc.run tb_116 2 (pc' := 24) (ls' := [some (.ref (0)), some (.int (a1))]) (st' := [.int (3), .ref (0)]) rfl rfl ?_
        cases hc4 : F_132 (3 : Int32) M3 with
        | none => rw [hc4] at h; cases h
        | some r4 =>
          obtain ⟨c4, M4⟩ := r4
          rw [hc4] at h
          dsimp only at h
          have hq4 := T_132 (X := X) (d := d) (by omega) (M := M3) hc4
          refine Rc.callV tb_116 rfl rfl rfl mS_132 mP_132 mL_132 mO_132 rfl rfl ob_0 rfl rfl hq4 ?_
          obtain rfl := Option.some.inj h
          obtain ⟨rfl, rfl⟩ := hC
          exact Rc.iret (ins := .ireturn) tb_116 rfl mR_116
      · rw [if_neg hb7] at h
        refine Rc.run tb_116 1 (pc' := 29) (ls' := [some (.ref (0)), some (.int (a1))]) (st' := [.ref (0)]) rfl rfl ?_
        refine Rc.getR tb_116 rfl rfl ob_0 (by decide +kernel) tg_0_7 (by decide) ?_
        refine Rc.run tb_116 1 (pc' := 33) (ls' := [some (.ref (0)), some (.int (a1))]) (st' := [.ref (0), .ref (51)]) rfl rfl ?_
        refine Rc.getR tb_116 rfl rfl ob_0 (by decide +kernel) tg_0_0 (by decide) ?_
        refine Rc.run tb_116 1 (pc' := 37) (ls' := [some (.ref (0)), some (.int (a1))]) (st' := [.int (a1), .ref (1), .ref (51)]) rfl rfl ?_
        cases hc5 : F_22 1 a1 M3 with
        | none => rw [hc5] at h; cases h
        | some M5 =>
          rw [hc5] at h
          dsimp only at h
          have hq5 := T_22 (X := X) (d := d) (by omega) (M := M3) vh_1 hc5
          refine Rc.callV tb_116 rfl rfl rfl mS_22 mP_22 mL_22 mO_22 rfl rfl ob_51 rfl rfl hq5 ?_
          refine Rc.run tb_116 1 (pc' := 41) (ls' := [some (.ref (0)), some (.int (a1))]) (st' := [.ref (0)]) rfl rfl ?_
          refine Rc.getR tb_116 rfl rfl ob_0 (by decide +kernel) tg_0_7 (by decide) ?_
          cases hc6 : F_28 M5 with
          | none => rw [hc6] at h; cases h
          | some r6 =>
            obtain ⟨c6, M6⟩ := r6
            rw [hc6] at h
            dsimp only at h
            have hq6 := T_28 (X := X) (d := d) (by omega) (M := M5) hc6
            refine Rc.callV tb_116 rfl rfl rfl mS_28 mP_28 mL_28 mO_28 rfl rfl ob_51 rfl rfl hq6 ?_
            obtain rfl := Option.some.inj h
            obtain ⟨rfl, rfl⟩ := hC
            exact Rc.iret (ins := .ireturn) tb_116 rfl mR_116
theorem T_116 {X : AX} {d : Nat} (hd : 67 ≤ d) {a1 : Int32} {M : IM} {x : Int32} {M1 : IM} (h : F_116 a1 M = some (x, M1)) : Rc X d 116 0 [some (.ref (0)), some (.int (a1))] [] M (some (.int x)) M1 := TF_116 hd h ⟨rfl, rfl⟩
/-! 117: NineDemands.give -/
def J_117_17 (M : IM) : Option (Int32 × IM) := (match F_132 (1 : Int32) M with | none => none | some (c2, M2) => (some ((c2, M2))))
def J_117_125_38 (x1 : Int32) (x2 : Int32) (x3 : Int32) (x4 : Int32) (x5 : Int32) (M : IM) : Option ((Int32 × Int32 × Int32 × IM) ⊕ (Int32 × Int32 × Int32 × IM)) := some (Sum.inl (x3, x4, x5 + 1, M))
def J_117_98_38 (x1 : Int32) (x2 : Int32) (x3 : Int32) (x4 : Int32) (x5 : Int32) (x6 : Int32) (s0 : Int32) (M : IM) : Option ((Int32 × Int32 × Int32 × IM) ⊕ (Int32 × Int32 × Int32 × IM)) := if s0 = 0 then (J_117_125_38 x1 x2 x3 x4 x5 M) else (match F_146 (x1 &&& (x5 ^^^ (-1))) M with | none => none | some (c5, M5) => (if c5 = 0 then (J_117_125_38 x1 x2 x5 x6 x5 M5) else (J_117_125_38 x1 x2 x3 x4 x5 M5)))
def J_117_93_38 (x1 : Int32) (x2 : Int32) (x3 : Int32) (x4 : Int32) (x5 : Int32) (x6 : Int32) (M : IM) : Option ((Int32 × Int32 × Int32 × IM) ⊕ (Int32 × Int32 × Int32 × IM)) := J_117_98_38 x1 x2 x3 x4 x5 x6 (1 : Int32) M
def J_117_97_38 (x1 : Int32) (x2 : Int32) (x3 : Int32) (x4 : Int32) (x5 : Int32) (x6 : Int32) (M : IM) : Option ((Int32 × Int32 × Int32 × IM) ⊕ (Int32 × Int32 × Int32 × IM)) := J_117_98_38 x1 x2 x3 x4 x5 x6 (0 : Int32) M
def B_117_38 (x1 : Int32) (x2 : Int32) : (Int32 × Int32 × Int32 × IM) → Option ((Int32 × Int32 × Int32 × IM) ⊕ (Int32 × Int32 × Int32 × IM)) := fun (x3, x4, x5, M) => if x1 ≤ x5 then (some (Sum.inr (x3, x4, x5, M))) else (if x5 &&& (x1 ^^^ (-1)) = 0 then (match F_84 1 x5 M with | none => none | some c4 => (if c4 < x4 then (J_117_93_38 x1 x2 x3 x4 x5 c4 M) else (if c4 = x4 then (if F_252 x3 ≤ F_252 x5 then (J_117_97_38 x1 x2 x3 x4 x5 c4 M) else (J_117_93_38 x1 x2 x3 x4 x5 c4 M)) else (J_117_97_38 x1 x2 x3 x4 x5 c4 M)))) else (J_117_125_38 x1 x2 x3 x4 x5 M))
def L_117_38 (x1 : Int32) (x2 : Int32) (x3 : Int32) (x4 : Int32) (x5 : Int32) (M : IM) : Option (Int32 × Int32 × Int32 × IM) := loopN (B_117_38 x1 x2) FU (x3, x4, x5, M)
def J_117_131 (x2 : Int32) (x3 : Int32) (x4 : Int32) (M : IM) : Option (Int32 × IM) := if x2 = 0 then (some ((x3, M))) else (some ((x4, M)))
def F_117 (a1 : Int32) (a2 : Int32) (M : IM) : Option (Int32 × IM) := if F_135 a1 M = 0 then (J_117_17 M) else (if a2 < 0 then (J_117_17 M) else (if a2 ≤ 1 then (match F_84 1 a1 M with | none => none | some c3 => (match L_117_38 a1 a2 a1 c3 0 M with | none => none | some (x3_15, x4_15, x5_15, M15) => (J_117_131 a2 x3_15 x4_15 M15))) else (J_117_17 M)))
theorem TJ_117_17 {X : AX} {d : Nat} (hd : 67 ≤ d) {M : IM} {v : Option Value} {M' : IM} {o : Int32 × IM} (h : J_117_17 M = some o) (hC : v = some (.int o.1) ∧ M' = o.2) : Rc X d 117 17 [some (.ref (0)), none, none, none, none, none, none, none] [] M v M' := by
  obtain ⟨d, rfl⟩ : ∃ e, d = e + 1 := ⟨d - 1, by omega⟩
  unfold J_117_17 at h
  refine Rc.run tb_117 2 (pc' := 19) (ls' := [some (.ref (0)), none, none, none, none, none, none, none]) (st' := [.int (1), .ref (0)]) rfl rfl ?_
  cases hc2 : F_132 (1 : Int32) M with
  | none => rw [hc2] at h; cases h
  | some r2 =>
    obtain ⟨c2, M2⟩ := r2
    rw [hc2] at h
    dsimp only at h
    have hq2 := T_132 (X := X) (d := d) (by omega) (M := M) hc2
    refine Rc.callV tb_117 rfl rfl rfl mS_132 mP_132 mL_132 mO_132 rfl rfl ob_0 rfl rfl hq2 ?_
    obtain rfl := Option.some.inj h
    obtain ⟨rfl, rfl⟩ := hC
    exact Rc.iret (ins := .ireturn) tb_117 rfl mR_117
theorem TJ_117_125_38 {X : AX} {d : Nat} (hd : 67 ≤ d) {x1 : Int32} {x2 : Int32} {x3 : Int32} {x4 : Int32} {x5 : Int32} {M : IM} {v : Option Value} {M' : IM} {o : (Int32 × Int32 × Int32 × IM) ⊕ (Int32 × Int32 × Int32 × IM)} (h : J_117_125_38 x1 x2 x3 x4 x5 M = some o) (hP : ∀ s', o = .inl s' → (fun (x3, x4, x5, M) => Rc X d 117 38 [some (.ref (0)), some (.int (x1)), some (.int (x2)), some (.int (x3)), some (.int (x4)), some (.int (x5)), none, none] [] M v M') s') (hE : ∀ r, o = .inr r → (fun (x3, x4, x5, M) => Rc X d 117 131 [none, none, some (.int (x2)), some (.int (x3)), some (.int (x4)), none, none, none] [] M v M') r) : Rc X d 117 125 [some (.ref (0)), some (.int (x1)), some (.int (x2)), some (.int (x3)), some (.int (x4)), some (.int (x5)), none, none] [] M v M' := by
  obtain ⟨d, rfl⟩ : ∃ e, d = e + 1 := ⟨d - 1, by omega⟩
  unfold J_117_125_38 at h
  dsimp only at hP hE
  refine Rc.run tb_117 2 (pc' := 38) (ls' := [some (.ref (0)), some (.int (x1)), some (.int (x2)), some (.int (x3)), some (.int (x4)), some (.int (x5 + 1)), none, none]) (st' := []) rfl rfl ?_
  refine Rc.mask (b := 63) ((tb_117.2 38).trans rfl) (ls' := [some (.ref (0)), some (.int (x1)), some (.int (x2)), some (.int (x3)), some (.int (x4)), some (.int (x5 + 1)), none, none]) rfl ?_
  obtain rfl := Option.some.inj h
  exact hP _ rfl
theorem TJ_117_98_38 {X : AX} {d : Nat} (hd : 67 ≤ d) {x1 : Int32} {x2 : Int32} {x3 : Int32} {x4 : Int32} {x5 : Int32} {x6 : Int32} {s0 : Int32} {M : IM} (hs0 : s0 = 0 ∨ s0 = 1) {v : Option Value} {M' : IM} {o : (Int32 × Int32 × Int32 × IM) ⊕ (Int32 × Int32 × Int32 × IM)} (h : J_117_98_38 x1 x2 x3 x4 x5 x6 s0 M = some o) (hP : ∀ s', o = .inl s' → (fun (x3, x4, x5, M) => Rc X d 117 38 [some (.ref (0)), some (.int (x1)), some (.int (x2)), some (.int (x3)), some (.int (x4)), some (.int (x5)), none, none] [] M v M') s') (hE : ∀ r, o = .inr r → (fun (x3, x4, x5, M) => Rc X d 117 131 [none, none, some (.int (x2)), some (.int (x3)), some (.int (x4)), none, none, none] [] M v M') r) : Rc X d 117 98 [some (.ref (0)), some (.int (x1)), some (.int (x2)), some (.int (x3)), some (.int (x4)), some (.int (x5)), some (.int (x6)), none] [.int (s0)] M v M' := by
  obtain ⟨d, rfl⟩ : ∃ e, d = e + 1 := ⟨d - 1, by omega⟩
  unfold J_117_98_38 at h
  dsimp only at hP hE
  refine Rc.run tb_117 2 (pc' := 102) (ls' := [some (.ref (0)), some (.int (x1)), some (.int (x2)), some (.int (x3)), some (.int (x4)), some (.int (x5)), some (.int (x6)), some (.int (s0))]) (st' := [.int (s0)]) rfl rfl ?_
  refine Rc.if_eq (pc1 := 125) tb_117 rfl rfl (by decide) (by decide) (fun hb7 => ?_) (fun hb7 => ?_)
  · rw [if_pos hb7] at h
    refine Rc.mask (b := 63) ((tb_117.2 125).trans rfl) (ls' := [some (.ref (0)), some (.int (x1)), some (.int (x2)), some (.int (x3)), some (.int (x4)), some (.int (x5)), none, none]) rfl ?_
    exact TJ_117_125_38 (X := X) (d := d + 1) (by omega) h hP hE
  · rw [if_neg hb7] at h
    refine Rc.run tb_117 6 (pc' := 112) (ls' := [some (.ref (0)), some (.int (x1)), some (.int (x2)), some (.int (x3)), some (.int (x4)), some (.int (x5)), some (.int (x6)), some (.int (s0))]) (st' := [.int (x1 &&& (x5 ^^^ (-1))), .ref (0)]) rfl rfl ?_
    cases hc5 : F_146 (x1 &&& (x5 ^^^ (-1))) M with
    | none => rw [hc5] at h; cases h
    | some r5 =>
      obtain ⟨c5, M5⟩ := r5
      rw [hc5] at h
      dsimp only at h
      have hq5 := T_146 (X := X) (d := d) (by omega) (M := M) hc5
      have hz5 := Rc.bool mR_146 hq5
      refine Rc.callV tb_117 rfl rfl rfl mS_146 mP_146 mL_146 mO_146 rfl rfl ob_0 rfl rfl hq5 ?_
      refine Rc.if_ne (pc1 := 125) tb_117 rfl rfl (by decide) (by decide) (fun hb6 => ?_) (fun hb6 => ?_)
      · rw [if_pos hb6] at h
        refine Rc.run tb_117 4 (pc' := 125) (ls' := [some (.ref (0)), some (.int (x1)), some (.int (x2)), some (.int (x5)), some (.int (x6)), some (.int (x5)), some (.int (x6)), some (.int (s0))]) (st' := []) rfl rfl ?_
        refine Rc.mask (b := 63) ((tb_117.2 125).trans rfl) (ls' := [some (.ref (0)), some (.int (x1)), some (.int (x2)), some (.int (x5)), some (.int (x6)), some (.int (x5)), none, none]) rfl ?_
        exact TJ_117_125_38 (X := X) (d := d + 1) (by omega) h hP hE
      · rw [if_neg hb6] at h
        refine Rc.mask (b := 63) ((tb_117.2 125).trans rfl) (ls' := [some (.ref (0)), some (.int (x1)), some (.int (x2)), some (.int (x3)), some (.int (x4)), some (.int (x5)), none, none]) rfl ?_
        exact TJ_117_125_38 (X := X) (d := d + 1) (by omega) h hP hE
theorem TJ_117_93_38 {X : AX} {d : Nat} (hd : 67 ≤ d) {x1 : Int32} {x2 : Int32} {x3 : Int32} {x4 : Int32} {x5 : Int32} {x6 : Int32} {M : IM} {v : Option Value} {M' : IM} {o : (Int32 × Int32 × Int32 × IM) ⊕ (Int32 × Int32 × Int32 × IM)} (h : J_117_93_38 x1 x2 x3 x4 x5 x6 M = some o) (hP : ∀ s', o = .inl s' → (fun (x3, x4, x5, M) => Rc X d 117 38 [some (.ref (0)), some (.int (x1)), some (.int (x2)), some (.int (x3)), some (.int (x4)), some (.int (x5)), none, none] [] M v M') s') (hE : ∀ r, o = .inr r → (fun (x3, x4, x5, M) => Rc X d 117 131 [none, none, some (.int (x2)), some (.int (x3)), some (.int (x4)), none, none, none] [] M v M') r) : Rc X d 117 93 [some (.ref (0)), some (.int (x1)), some (.int (x2)), some (.int (x3)), some (.int (x4)), some (.int (x5)), some (.int (x6)), none] [] M v M' := by
  obtain ⟨d, rfl⟩ : ∃ e, d = e + 1 := ⟨d - 1, by omega⟩
  unfold J_117_93_38 at h
  dsimp only at hP hE
  refine Rc.run tb_117 2 (pc' := 98) (ls' := [some (.ref (0)), some (.int (x1)), some (.int (x2)), some (.int (x3)), some (.int (x4)), some (.int (x5)), some (.int (x6)), none]) (st' := [.int (1)]) rfl rfl ?_
  refine Rc.mask (b := 127) ((tb_117.2 98).trans rfl) (ls' := [some (.ref (0)), some (.int (x1)), some (.int (x2)), some (.int (x3)), some (.int (x4)), some (.int (x5)), some (.int (x6)), none]) rfl ?_
  exact TJ_117_98_38 (X := X) (d := d + 1) (by omega) (Or.inr rfl) h hP hE
theorem TJ_117_97_38 {X : AX} {d : Nat} (hd : 67 ≤ d) {x1 : Int32} {x2 : Int32} {x3 : Int32} {x4 : Int32} {x5 : Int32} {x6 : Int32} {M : IM} {v : Option Value} {M' : IM} {o : (Int32 × Int32 × Int32 × IM) ⊕ (Int32 × Int32 × Int32 × IM)} (h : J_117_97_38 x1 x2 x3 x4 x5 x6 M = some o) (hP : ∀ s', o = .inl s' → (fun (x3, x4, x5, M) => Rc X d 117 38 [some (.ref (0)), some (.int (x1)), some (.int (x2)), some (.int (x3)), some (.int (x4)), some (.int (x5)), none, none] [] M v M') s') (hE : ∀ r, o = .inr r → (fun (x3, x4, x5, M) => Rc X d 117 131 [none, none, some (.int (x2)), some (.int (x3)), some (.int (x4)), none, none, none] [] M v M') r) : Rc X d 117 97 [some (.ref (0)), some (.int (x1)), some (.int (x2)), some (.int (x3)), some (.int (x4)), some (.int (x5)), some (.int (x6)), none] [] M v M' := by
  obtain ⟨d, rfl⟩ : ∃ e, d = e + 1 := ⟨d - 1, by omega⟩
  unfold J_117_97_38 at h
  dsimp only at hP hE
  refine Rc.run tb_117 1 (pc' := 98) (ls' := [some (.ref (0)), some (.int (x1)), some (.int (x2)), some (.int (x3)), some (.int (x4)), some (.int (x5)), some (.int (x6)), none]) (st' := [.int (0)]) rfl rfl ?_
  refine Rc.mask (b := 127) ((tb_117.2 98).trans rfl) (ls' := [some (.ref (0)), some (.int (x1)), some (.int (x2)), some (.int (x3)), some (.int (x4)), some (.int (x5)), some (.int (x6)), none]) rfl ?_
  exact TJ_117_98_38 (X := X) (d := d + 1) (by omega) (Or.inl rfl) h hP hE
theorem TB_117_38 {X : AX} {d : Nat} (hd : 67 ≤ d) {x1 : Int32} {x2 : Int32} {v : Option Value} {M' : IM} : ∀ (s : Int32 × Int32 × Int32 × IM) (o : (Int32 × Int32 × Int32 × IM) ⊕ (Int32 × Int32 × Int32 × IM)), B_117_38 x1 x2 s = some o → (∀ s', o = .inl s' → (fun (x3, x4, x5, M) => Rc X d 117 38 [some (.ref (0)), some (.int (x1)), some (.int (x2)), some (.int (x3)), some (.int (x4)), some (.int (x5)), none, none] [] M v M') s') → (∀ r, o = .inr r → (fun (x3, x4, x5, M) => Rc X d 117 131 [none, none, some (.int (x2)), some (.int (x3)), some (.int (x4)), none, none, none] [] M v M') r) → (fun (x3, x4, x5, M) => Rc X d 117 38 [some (.ref (0)), some (.int (x1)), some (.int (x2)), some (.int (x3)), some (.int (x4)), some (.int (x5)), none, none] [] M v M') s := by
  rintro ⟨x3, x4, x5, M⟩ o h hP hE
  show Rc X d 117 38 [some (.ref (0)), some (.int (x1)), some (.int (x2)), some (.int (x3)), some (.int (x4)), some (.int (x5)), none, none] [] M v M'
  obtain ⟨d, rfl⟩ : ∃ e, d = e + 1 := ⟨d - 1, by omega⟩
  unfold B_117_38 at h
  dsimp only at h hP hE
  refine Rc.run tb_117 2 (pc' := 41) (ls' := [some (.ref (0)), some (.int (x1)), some (.int (x2)), some (.int (x3)), some (.int (x4)), some (.int (x5)), none, none]) (st' := [.int (x1), .int (x5)]) rfl rfl ?_
  refine Rc.icmp_ge (pc1 := 131) tb_117 rfl rfl (by decide) (by decide) (fun hb14 => ?_) (fun hb14 => ?_)
  · rw [if_pos hb14] at h
    refine Rc.mask (b := 28) ((tb_117.2 131).trans rfl) (ls' := [none, none, some (.int (x2)), some (.int (x3)), some (.int (x4)), none, none, none]) rfl ?_
    obtain rfl := Option.some.inj h
    exact hE _ rfl
  · rw [if_neg hb14] at h
    refine Rc.run tb_117 5 (pc' := 50) (ls' := [some (.ref (0)), some (.int (x1)), some (.int (x2)), some (.int (x3)), some (.int (x4)), some (.int (x5)), none, none]) (st' := [.int (x5 &&& (x1 ^^^ (-1)))]) rfl rfl ?_
    refine Rc.if_eq (pc1 := 56) tb_117 rfl rfl (by decide) (by decide) (fun hb13 => ?_) (fun hb13 => ?_)
    · rw [if_pos hb13] at h
      refine Rc.run tb_117 1 (pc' := 57) (ls' := [some (.ref (0)), some (.int (x1)), some (.int (x2)), some (.int (x3)), some (.int (x4)), some (.int (x5)), none, none]) (st' := [.ref (0)]) rfl rfl ?_
      refine Rc.getR tb_117 rfl rfl ob_0 (by decide +kernel) tg_0_0 (by decide) ?_
      refine Rc.run tb_117 1 (pc' := 62) (ls' := [some (.ref (0)), some (.int (x1)), some (.int (x2)), some (.int (x3)), some (.int (x4)), some (.int (x5)), none, none]) (st' := [.int (x5), .ref (1)]) rfl rfl ?_
      cases hc4 : F_84 1 x5 M with
      | none => rw [hc4] at h; cases h
      | some c4 =>
        rw [hc4] at h
        dsimp only at h
        have hq4 := T_84 (X := X) (d := d) (by omega) (M := M) vh_1 hc4
        refine Rc.callV tb_117 rfl rfl rfl mS_84 mP_84 mL_84 mO_84 rfl rfl (VilH.ob vh_1) rfl rfl hq4 ?_
        refine Rc.run tb_117 3 (pc' := 71) (ls' := [some (.ref (0)), some (.int (x1)), some (.int (x2)), some (.int (x3)), some (.int (x4)), some (.int (x5)), some (.int (c4)), none]) (st' := [.int (x4), .int (c4)]) rfl rfl ?_
        refine Rc.icmp_lt (pc1 := 93) tb_117 rfl rfl (by decide) (by decide) (fun hb12 => ?_) (fun hb12 => ?_)
        · rw [if_pos hb12] at h
          refine Rc.mask (b := 127) ((tb_117.2 93).trans rfl) (ls' := [some (.ref (0)), some (.int (x1)), some (.int (x2)), some (.int (x3)), some (.int (x4)), some (.int (x5)), some (.int (c4)), none]) rfl ?_
          exact TJ_117_93_38 (X := X) (d := d + 1) (by omega) h hP hE
        · rw [if_neg hb12] at h
          refine Rc.run tb_117 2 (pc' := 78) (ls' := [some (.ref (0)), some (.int (x1)), some (.int (x2)), some (.int (x3)), some (.int (x4)), some (.int (x5)), some (.int (c4)), none]) (st' := [.int (x4), .int (c4)]) rfl rfl ?_
          refine Rc.icmp_ne (pc1 := 97) tb_117 rfl rfl (by decide) (by decide) (fun hb11 => ?_) (fun hb11 => ?_)
          · rw [if_pos hb11] at h
            refine Rc.run tb_117 1 (pc' := 83) (ls' := [some (.ref (0)), some (.int (x1)), some (.int (x2)), some (.int (x3)), some (.int (x4)), some (.int (x5)), some (.int (c4)), none]) (st' := [.int (x5)]) rfl rfl ?_
            have hq8 := T_252 (X := X) (d := d) (by omega) x5 M
            refine Rc.callS tb_117 rfl rfl rfl mS_252 mP_252 mL_252 rfl rfl rfl hq8 ?_
            refine Rc.run tb_117 1 (pc' := 87) (ls' := [some (.ref (0)), some (.int (x1)), some (.int (x2)), some (.int (x3)), some (.int (x4)), some (.int (x5)), some (.int (c4)), none]) (st' := [.int (x3), .int (F_252 x5)]) rfl rfl ?_
            have hq9 := T_252 (X := X) (d := d) (by omega) x3 M
            refine Rc.callS tb_117 rfl rfl rfl mS_252 mP_252 mL_252 rfl rfl rfl hq9 ?_
            refine Rc.icmp_ge (pc1 := 97) tb_117 rfl rfl (by decide) (by decide) (fun hb10 => ?_) (fun hb10 => ?_)
            · rw [if_pos hb10] at h
              refine Rc.mask (b := 127) ((tb_117.2 97).trans rfl) (ls' := [some (.ref (0)), some (.int (x1)), some (.int (x2)), some (.int (x3)), some (.int (x4)), some (.int (x5)), some (.int (c4)), none]) rfl ?_
              exact TJ_117_97_38 (X := X) (d := d + 1) (by omega) h hP hE
            · rw [if_neg hb10] at h
              refine Rc.mask (b := 127) ((tb_117.2 93).trans rfl) (ls' := [some (.ref (0)), some (.int (x1)), some (.int (x2)), some (.int (x3)), some (.int (x4)), some (.int (x5)), some (.int (c4)), none]) rfl ?_
              exact TJ_117_93_38 (X := X) (d := d + 1) (by omega) h hP hE
          · rw [if_neg hb11] at h
            refine Rc.mask (b := 127) ((tb_117.2 97).trans rfl) (ls' := [some (.ref (0)), some (.int (x1)), some (.int (x2)), some (.int (x3)), some (.int (x4)), some (.int (x5)), some (.int (c4)), none]) rfl ?_
            exact TJ_117_97_38 (X := X) (d := d + 1) (by omega) h hP hE
    · rw [if_neg hb13] at h
      refine Rc.run tb_117 1 (pc' := 125) (ls' := [some (.ref (0)), some (.int (x1)), some (.int (x2)), some (.int (x3)), some (.int (x4)), some (.int (x5)), none, none]) (st' := []) rfl rfl ?_
      refine Rc.mask (b := 63) ((tb_117.2 125).trans rfl) (ls' := [some (.ref (0)), some (.int (x1)), some (.int (x2)), some (.int (x3)), some (.int (x4)), some (.int (x5)), none, none]) rfl ?_
      exact TJ_117_125_38 (X := X) (d := d + 1) (by omega) h hP hE
theorem TL_117_38 {X : AX} {d : Nat} (hd : 67 ≤ d) {x1 : Int32} {x2 : Int32} {x3 : Int32} {x4 : Int32} {x5 : Int32} {M : IM} {v : Option Value} {M' : IM} {r : Int32 × Int32 × Int32 × IM} (h : L_117_38 x1 x2 x3 x4 x5 M = some r) (hE : (fun (x3, x4, x5, M) => Rc X d 117 131 [none, none, some (.int (x2)), some (.int (x3)), some (.int (x4)), none, none, none] [] M v M') r) : Rc X d 117 38 [some (.ref (0)), some (.int (x1)), some (.int (x2)), some (.int (x3)), some (.int (x4)), some (.int (x5)), none, none] [] M v M' := by
  exact loopN_rc (P := fun (x3, x4, x5, M) => Rc X d 117 38 [some (.ref (0)), some (.int (x1)), some (.int (x2)), some (.int (x3)), some (.int (x4)), some (.int (x5)), none, none] [] M v M') (E := fun (x3, x4, x5, M) => Rc X d 117 131 [none, none, some (.int (x2)), some (.int (x3)), some (.int (x4)), none, none, none] [] M v M') (TB_117_38 (X := X) hd) FU _ r h hE
theorem TJ_117_131 {X : AX} {d : Nat} (hd : 67 ≤ d) {x2 : Int32} {x3 : Int32} {x4 : Int32} {M : IM} {v : Option Value} {M' : IM} {o : Int32 × IM} (h : J_117_131 x2 x3 x4 M = some o) (hC : v = some (.int o.1) ∧ M' = o.2) : Rc X d 117 131 [none, none, some (.int (x2)), some (.int (x3)), some (.int (x4)), none, none, none] [] M v M' := by
  obtain ⟨d, rfl⟩ : ∃ e, d = e + 1 := ⟨d - 1, by omega⟩
  unfold J_117_131 at h
  refine Rc.run tb_117 1 (pc' := 132) (ls' := [none, none, some (.int (x2)), some (.int (x3)), some (.int (x4)), none, none, none]) (st' := [.int (x2)]) rfl rfl ?_
  refine Rc.if_ne (pc1 := 139) tb_117 rfl rfl (by decide) (by decide) (fun hb16 => ?_) (fun hb16 => ?_)
  · rw [if_pos hb16] at h
    refine Rc.run tb_117 2 (pc' := 141) (ls' := [none, none, some (.int (x2)), some (.int (x3)), some (.int (x4)), none, none, none]) (st' := [.int (x3)]) rfl rfl ?_
    obtain rfl := Option.some.inj h
    obtain ⟨rfl, rfl⟩ := hC
    exact Rc.iret (ins := .ireturn) tb_117 rfl mR_117
  · rw [if_neg hb16] at h
    refine Rc.run tb_117 1 (pc' := 141) (ls' := [none, none, some (.int (x2)), some (.int (x3)), some (.int (x4)), none, none, none]) (st' := [.int (x4)]) rfl rfl ?_
    obtain rfl := Option.some.inj h
    obtain ⟨rfl, rfl⟩ := hC
    exact Rc.iret (ins := .ireturn) tb_117 rfl mR_117
theorem TF_117 {X : AX} {d : Nat} (hd : 67 ≤ d) {a1 : Int32} {a2 : Int32} {M : IM} {v : Option Value} {M' : IM} {o : Int32 × IM} (h : F_117 a1 a2 M = some o) (hC : v = some (.int o.1) ∧ M' = o.2) : Rc X d 117 0 [some (.ref (0)), some (.int (a1)), some (.int (a2)), none, none, none, none, none] [] M v M' := by
  obtain ⟨d, rfl⟩ : ∃ e, d = e + 1 := ⟨d - 1, by omega⟩
  unfold F_117 at h
  refine Rc.run tb_117 2 (pc' := 2) (ls' := [some (.ref (0)), some (.int (a1)), some (.int (a2)), none, none, none, none, none]) (st' := [.int (a1), .ref (0)]) rfl rfl ?_
  have hq1 := T_135 (X := X) (d := d) (by omega) a1 M
  have hz1 := Rc.bool mR_135 hq1
  refine Rc.callV tb_117 rfl rfl rfl mS_135 mP_135 mL_135 mO_135 rfl rfl ob_0 rfl rfl hq1 ?_
  refine Rc.if_eq (pc1 := 17) tb_117 rfl rfl (by decide) (by decide) (fun hb19 => ?_) (fun hb19 => ?_)
  · rw [if_pos hb19] at h
    refine Rc.mask (b := 1) ((tb_117.2 17).trans rfl) (ls' := [some (.ref (0)), none, none, none, none, none, none, none]) rfl ?_
    exact TJ_117_17 (X := X) (d := d + 1) (by omega) h hC
  · rw [if_neg hb19] at h
    refine Rc.run tb_117 1 (pc' := 9) (ls' := [some (.ref (0)), some (.int (a1)), some (.int (a2)), none, none, none, none, none]) (st' := [.int (a2)]) rfl rfl ?_
    refine Rc.if_lt (pc1 := 17) tb_117 rfl rfl (by decide) (by decide) (fun hb18 => ?_) (fun hb18 => ?_)
    · rw [if_pos hb18] at h
      refine Rc.mask (b := 1) ((tb_117.2 17).trans rfl) (ls' := [some (.ref (0)), none, none, none, none, none, none, none]) rfl ?_
      exact TJ_117_17 (X := X) (d := d + 1) (by omega) h hC
    · rw [if_neg hb18] at h
      refine Rc.run tb_117 2 (pc' := 14) (ls' := [some (.ref (0)), some (.int (a1)), some (.int (a2)), none, none, none, none, none]) (st' := [.int (1), .int (a2)]) rfl rfl ?_
      refine Rc.icmp_le (pc1 := 23) tb_117 rfl rfl (by decide) (by decide) (fun hb17 => ?_) (fun hb17 => ?_)
      · rw [if_pos hb17] at h
        refine Rc.run tb_117 3 (pc' := 26) (ls' := [some (.ref (0)), some (.int (a1)), some (.int (a2)), some (.int (a1)), none, none, none, none]) (st' := [.ref (0)]) rfl rfl ?_
        refine Rc.getR tb_117 rfl rfl ob_0 (by decide +kernel) tg_0_0 (by decide) ?_
        refine Rc.run tb_117 1 (pc' := 30) (ls' := [some (.ref (0)), some (.int (a1)), some (.int (a2)), some (.int (a1)), none, none, none, none]) (st' := [.int (a1), .ref (1)]) rfl rfl ?_
        cases hc3 : F_84 1 a1 M with
        | none => rw [hc3] at h; cases h
        | some c3 =>
          rw [hc3] at h
          dsimp only at h
          have hq3 := T_84 (X := X) (d := d) (by omega) (M := M) vh_1 hc3
          refine Rc.callV tb_117 rfl rfl rfl mS_84 mP_84 mL_84 mO_84 rfl rfl (VilH.ob vh_1) rfl rfl hq3 ?_
          refine Rc.run tb_117 3 (pc' := 38) (ls' := [some (.ref (0)), some (.int (a1)), some (.int (a2)), some (.int (a1)), some (.int (c3)), some (.int (0)), none, none]) (st' := []) rfl rfl ?_
          refine Rc.mask (b := 63) ((tb_117.2 38).trans rfl) (ls' := [some (.ref (0)), some (.int (a1)), some (.int (a2)), some (.int (a1)), some (.int (c3)), some (.int (0)), none, none]) rfl ?_
          cases hl15 : L_117_38 a1 a2 a1 c3 0 M with
          | none => rw [hl15] at h; cases h
          | some r15 =>
            obtain ⟨x3_15, x4_15, x5_15, M15⟩ := r15
            rw [hl15] at h
            dsimp only at h
            refine TL_117_38 (X := X) (d := d + 1) (by omega) hl15 ?_
            refine Rc.mask (b := 28) ((tb_117.2 131).trans rfl) (ls' := [none, none, some (.int (a2)), some (.int (x3_15)), some (.int (x4_15)), none, none, none]) rfl ?_
            exact TJ_117_131 (X := X) (d := d + 1) (by omega) h hC
      · rw [if_neg hb17] at h
        refine Rc.mask (b := 1) ((tb_117.2 17).trans rfl) (ls' := [some (.ref (0)), none, none, none, none, none, none, none]) rfl ?_
        exact TJ_117_17 (X := X) (d := d + 1) (by omega) h hC
theorem T_117 {X : AX} {d : Nat} (hd : 67 ≤ d) {a1 : Int32} {a2 : Int32} {M : IM} {x : Int32} {M1 : IM} (h : F_117 a1 a2 M = some (x, M1)) : Rc X d 117 0 [some (.ref (0)), some (.int (a1)), some (.int (a2)), none, none, none, none, none] [] M (some (.int x)) M1 := TF_117 hd h ⟨rfl, rfl⟩
/-! 149: NineDemands.isImplied -/
def F_149 (a1 : Int32) (a2 : Int32) (M : IM) : Option (Int32 × IM) := (match F_147 a1 M with | none => none | some (c1, M1) => (match F_147 (a1 ||| ((1 : Int32) <<< (a2 &&& 31))) M1 with | none => none | some (c2, M2) => (if c1 = c2 then (some ((1, M2))) else (some ((0, M2))))))
theorem TF_149 {X : AX} {d : Nat} (hd : 195 ≤ d) {a1 : Int32} {a2 : Int32} {M : IM} {v : Option Value} {M' : IM} {o : Int32 × IM} (h : F_149 a1 a2 M = some o) (hC : v = some (.int o.1) ∧ M' = o.2) : Rc X d 149 0 [some (.ref (0)), some (.int (a1)), some (.int (a2))] [] M v M' := by
  obtain ⟨d, rfl⟩ : ∃ e, d = e + 1 := ⟨d - 1, by omega⟩
  unfold F_149 at h
  refine Rc.run tb_149 2 (pc' := 2) (ls' := [some (.ref (0)), some (.int (a1)), some (.int (a2))]) (st' := [.int (a1), .ref (0)]) rfl rfl ?_
  cases hc1 : F_147 a1 M with
  | none => rw [hc1] at h; cases h
  | some r1 =>
    obtain ⟨c1, M1⟩ := r1
    rw [hc1] at h
    dsimp only at h
    have hq1 := T_147 (X := X) (d := d) (by omega) (M := M) hc1
    refine Rc.callV tb_149 rfl rfl rfl mS_147 mP_147 mL_147 mO_147 rfl rfl ob_0 rfl rfl hq1 ?_
    refine Rc.run tb_149 6 (pc' := 11) (ls' := [some (.ref (0)), some (.int (a1)), some (.int (a2))]) (st' := [.int (a1 ||| ((1 : Int32) <<< (a2 &&& 31))), .ref (0), .int (c1)]) rfl rfl ?_
    cases hc2 : F_147 (a1 ||| ((1 : Int32) <<< (a2 &&& 31))) M1 with
    | none => rw [hc2] at h; cases h
    | some r2 =>
      obtain ⟨c2, M2⟩ := r2
      rw [hc2] at h
      dsimp only at h
      have hq2 := T_147 (X := X) (d := d) (by omega) (M := M1) hc2
      refine Rc.callV tb_149 rfl rfl rfl mS_147 mP_147 mL_147 mO_147 rfl rfl ob_0 rfl rfl hq2 ?_
      refine Rc.icmp_ne (pc1 := 21) tb_149 rfl rfl (by decide) (by decide) (fun hb3 => ?_) (fun hb3 => ?_)
      · rw [if_pos hb3] at h
        refine Rc.run tb_149 2 (pc' := 22) (ls' := [some (.ref (0)), some (.int (a1)), some (.int (a2))]) (st' := [.int (1)]) rfl rfl ?_
        obtain rfl := Option.some.inj h
        obtain ⟨rfl, rfl⟩ := hC
        exact Rc.zret tb_149 rfl mR_149 (Or.inr rfl)
      · rw [if_neg hb3] at h
        refine Rc.run tb_149 1 (pc' := 22) (ls' := [some (.ref (0)), some (.int (a1)), some (.int (a2))]) (st' := [.int (0)]) rfl rfl ?_
        obtain rfl := Option.some.inj h
        obtain ⟨rfl, rfl⟩ := hC
        exact Rc.zret tb_149 rfl mR_149 (Or.inl rfl)
theorem T_149 {X : AX} {d : Nat} (hd : 195 ≤ d) {a1 : Int32} {a2 : Int32} {M : IM} {x : Int32} {M1 : IM} (h : F_149 a1 a2 M = some (x, M1)) : Rc X d 149 0 [some (.ref (0)), some (.int (a1)), some (.int (a2))] [] M (some (.int x)) M1 := TF_149 hd h ⟨rfl, rfl⟩
/-! 118: NineDemands.follows -/
def J_118_16 (M : IM) : Option (Int32 × IM) := (match F_132 (1 : Int32) M with | none => none | some (c2, M2) => (some ((c2, M2))))
def F_118 (a1 : Int32) (a2 : Int32) (M : IM) : Option (Int32 × IM) := if F_135 a1 M = 0 then (J_118_16 M) else (if F_133 a2 M = 0 then (J_118_16 M) else (match F_149 a1 a2 M with | none => none | some (c4, M4) => (if c4 = 0 then (some ((0, M4))) else (some ((1, M4))))))
theorem TJ_118_16 {X : AX} {d : Nat} (hd : 196 ≤ d) {M : IM} {v : Option Value} {M' : IM} {o : Int32 × IM} (h : J_118_16 M = some o) (hC : v = some (.int o.1) ∧ M' = o.2) : Rc X d 118 16 [some (.ref (0)), none, none] [] M v M' := by
  obtain ⟨d, rfl⟩ : ∃ e, d = e + 1 := ⟨d - 1, by omega⟩
  unfold J_118_16 at h
  refine Rc.run tb_118 2 (pc' := 18) (ls' := [some (.ref (0)), none, none]) (st' := [.int (1), .ref (0)]) rfl rfl ?_
  cases hc2 : F_132 (1 : Int32) M with
  | none => rw [hc2] at h; cases h
  | some r2 =>
    obtain ⟨c2, M2⟩ := r2
    rw [hc2] at h
    dsimp only at h
    have hq2 := T_132 (X := X) (d := d) (by omega) (M := M) hc2
    refine Rc.callV tb_118 rfl rfl rfl mS_132 mP_132 mL_132 mO_132 rfl rfl ob_0 rfl rfl hq2 ?_
    obtain rfl := Option.some.inj h
    obtain ⟨rfl, rfl⟩ := hC
    exact Rc.iret (ins := .ireturn) tb_118 rfl mR_118
theorem TF_118 {X : AX} {d : Nat} (hd : 196 ≤ d) {a1 : Int32} {a2 : Int32} {M : IM} {v : Option Value} {M' : IM} {o : Int32 × IM} (h : F_118 a1 a2 M = some o) (hC : v = some (.int o.1) ∧ M' = o.2) : Rc X d 118 0 [some (.ref (0)), some (.int (a1)), some (.int (a2))] [] M v M' := by
  obtain ⟨d, rfl⟩ : ∃ e, d = e + 1 := ⟨d - 1, by omega⟩
  unfold F_118 at h
  refine Rc.run tb_118 2 (pc' := 2) (ls' := [some (.ref (0)), some (.int (a1)), some (.int (a2))]) (st' := [.int (a1), .ref (0)]) rfl rfl ?_
  have hq1 := T_135 (X := X) (d := d) (by omega) a1 M
  have hz1 := Rc.bool mR_135 hq1
  refine Rc.callV tb_118 rfl rfl rfl mS_135 mP_135 mL_135 mO_135 rfl rfl ob_0 rfl rfl hq1 ?_
  refine Rc.if_eq (pc1 := 16) tb_118 rfl rfl (by decide) (by decide) (fun hb7 => ?_) (fun hb7 => ?_)
  · rw [if_pos hb7] at h
    refine Rc.mask (b := 1) ((tb_118.2 16).trans rfl) (ls' := [some (.ref (0)), none, none]) rfl ?_
    exact TJ_118_16 (X := X) (d := d + 1) (by omega) h hC
  · rw [if_neg hb7] at h
    refine Rc.run tb_118 2 (pc' := 10) (ls' := [some (.ref (0)), some (.int (a1)), some (.int (a2))]) (st' := [.int (a2), .ref (0)]) rfl rfl ?_
    have hq3 := T_133 (X := X) (d := d) (by omega) a2 M
    have hz3 := Rc.bool mR_133 hq3
    refine Rc.callV tb_118 rfl rfl rfl mS_133 mP_133 mL_133 mO_133 rfl rfl ob_0 rfl rfl hq3 ?_
    refine Rc.if_ne (pc1 := 22) tb_118 rfl rfl (by decide) (by decide) (fun hb6 => ?_) (fun hb6 => ?_)
    · rw [if_pos hb6] at h
      refine Rc.mask (b := 1) ((tb_118.2 16).trans rfl) (ls' := [some (.ref (0)), none, none]) rfl ?_
      exact TJ_118_16 (X := X) (d := d + 1) (by omega) h hC
    · rw [if_neg hb6] at h
      refine Rc.run tb_118 3 (pc' := 25) (ls' := [some (.ref (0)), some (.int (a1)), some (.int (a2))]) (st' := [.int (a2), .int (a1), .ref (0)]) rfl rfl ?_
      cases hc4 : F_149 a1 a2 M with
      | none => rw [hc4] at h; cases h
      | some r4 =>
        obtain ⟨c4, M4⟩ := r4
        rw [hc4] at h
        dsimp only at h
        have hq4 := T_149 (X := X) (d := d) (by omega) (M := M) hc4
        have hz4 := Rc.bool mR_149 hq4
        refine Rc.callV tb_118 rfl rfl rfl mS_149 mP_149 mL_149 mO_149 rfl rfl ob_0 rfl rfl hq4 ?_
        refine Rc.if_eq (pc1 := 35) tb_118 rfl rfl (by decide) (by decide) (fun hb5 => ?_) (fun hb5 => ?_)
        · rw [if_pos hb5] at h
          refine Rc.run tb_118 1 (pc' := 36) (ls' := [some (.ref (0)), some (.int (a1)), some (.int (a2))]) (st' := [.int (0)]) rfl rfl ?_
          obtain rfl := Option.some.inj h
          obtain ⟨rfl, rfl⟩ := hC
          exact Rc.iret (ins := .ireturn) tb_118 rfl mR_118
        · rw [if_neg hb5] at h
          refine Rc.run tb_118 2 (pc' := 36) (ls' := [some (.ref (0)), some (.int (a1)), some (.int (a2))]) (st' := [.int (1)]) rfl rfl ?_
          obtain rfl := Option.some.inj h
          obtain ⟨rfl, rfl⟩ := hC
          exact Rc.iret (ins := .ireturn) tb_118 rfl mR_118
theorem T_118 {X : AX} {d : Nat} (hd : 196 ≤ d) {a1 : Int32} {a2 : Int32} {M : IM} {x : Int32} {M1 : IM} (h : F_118 a1 a2 M = some (x, M1)) : Rc X d 118 0 [some (.ref (0)), some (.int (a1)), some (.int (a2))] [] M (some (.int x)) M1 := TF_118 hd h ⟨rfl, rfl⟩
/-! 119: NineDemands.spare -/
def J_119_60_18 (x1 : Int32) (x2 : Int32) (x3 : Int32) (M : IM) : Option ((Int32 × Int32 × IM) ⊕ (Int32 × Int32 × IM)) := some (Sum.inl (x2, x3 + 1, M))
def B_119_18 (x1 : Int32) : (Int32 × Int32 × IM) → Option ((Int32 × Int32 × IM) ⊕ (Int32 × Int32 × IM)) := fun (x2, x3, M) => if M 1 2 ≤ x3 then (some (Sum.inr (x2, x3, M))) else (if x1 &&& ((1 : Int32) <<< (x3 &&& 31)) = 0 then (J_119_60_18 x1 x2 x3 M) else (match F_149 (x1 &&& (((1 : Int32) <<< (x3 &&& 31)) ^^^ (-1))) x3 M with | none => none | some (c3, M3) => (if c3 = 0 then (J_119_60_18 x1 x2 x3 M3) else (J_119_60_18 x1 (x2 ||| ((1 : Int32) <<< (x3 &&& 31))) x3 M3))))
def L_119_18 (x1 : Int32) (x2 : Int32) (x3 : Int32) (M : IM) : Option (Int32 × Int32 × IM) := loopN (B_119_18 x1) FU (x2, x3, M)
def F_119 (a1 : Int32) (M : IM) : Option (Int32 × IM) := if F_135 a1 M = 0 then (match F_132 (1 : Int32) M with | none => none | some (c2, M2) => (some ((c2, M2)))) else (match L_119_18 a1 0 0 M with | none => none | some (x2_7, x3_7, M7) => (some ((x2_7, M7))))
theorem TJ_119_60_18 {X : AX} {d : Nat} (hd : 196 ≤ d) {x1 : Int32} {x2 : Int32} {x3 : Int32} {M : IM} {v : Option Value} {M' : IM} {o : (Int32 × Int32 × IM) ⊕ (Int32 × Int32 × IM)} (h : J_119_60_18 x1 x2 x3 M = some o) (hP : ∀ s', o = .inl s' → (fun (x2, x3, M) => Rc X d 119 18 [some (.ref (0)), some (.int (x1)), some (.int (x2)), some (.int (x3)), none] [] M v M') s') (hE : ∀ r, o = .inr r → (fun (x2, x3, M) => Rc X d 119 66 [none, none, some (.int (x2)), none, none] [] M v M') r) : Rc X d 119 60 [some (.ref (0)), some (.int (x1)), some (.int (x2)), some (.int (x3)), none] [] M v M' := by
  obtain ⟨d, rfl⟩ : ∃ e, d = e + 1 := ⟨d - 1, by omega⟩
  unfold J_119_60_18 at h
  dsimp only at hP hE
  refine Rc.run tb_119 2 (pc' := 18) (ls' := [some (.ref (0)), some (.int (x1)), some (.int (x2)), some (.int (x3 + 1)), none]) (st' := []) rfl rfl ?_
  refine Rc.mask (b := 15) ((tb_119.2 18).trans rfl) (ls' := [some (.ref (0)), some (.int (x1)), some (.int (x2)), some (.int (x3 + 1)), none]) rfl ?_
  obtain rfl := Option.some.inj h
  exact hP _ rfl
theorem TB_119_18 {X : AX} {d : Nat} (hd : 196 ≤ d) {x1 : Int32} {v : Option Value} {M' : IM} : ∀ (s : Int32 × Int32 × IM) (o : (Int32 × Int32 × IM) ⊕ (Int32 × Int32 × IM)), B_119_18 x1 s = some o → (∀ s', o = .inl s' → (fun (x2, x3, M) => Rc X d 119 18 [some (.ref (0)), some (.int (x1)), some (.int (x2)), some (.int (x3)), none] [] M v M') s') → (∀ r, o = .inr r → (fun (x2, x3, M) => Rc X d 119 66 [none, none, some (.int (x2)), none, none] [] M v M') r) → (fun (x2, x3, M) => Rc X d 119 18 [some (.ref (0)), some (.int (x1)), some (.int (x2)), some (.int (x3)), none] [] M v M') s := by
  rintro ⟨x2, x3, M⟩ o h hP hE
  show Rc X d 119 18 [some (.ref (0)), some (.int (x1)), some (.int (x2)), some (.int (x3)), none] [] M v M'
  obtain ⟨d, rfl⟩ : ∃ e, d = e + 1 := ⟨d - 1, by omega⟩
  unfold B_119_18 at h
  dsimp only at h hP hE
  refine Rc.run tb_119 2 (pc' := 20) (ls' := [some (.ref (0)), some (.int (x1)), some (.int (x2)), some (.int (x3)), none]) (st' := [.ref (0), .int (x3)]) rfl rfl ?_
  refine Rc.getR tb_119 rfl rfl ob_0 (by decide +kernel) tg_0_0 (by decide) ?_
  refine Rc.getI tb_119 rfl rfl (VilH.ob vh_1) (by decide +kernel) (VilH.f2 vh_1) ?_
  refine Rc.icmp_ge (pc1 := 66) tb_119 rfl rfl (by decide) (by decide) (fun hb6 => ?_) (fun hb6 => ?_)
  · rw [if_pos hb6] at h
    refine Rc.mask (b := 4) ((tb_119.2 66).trans rfl) (ls' := [none, none, some (.int (x2)), none, none]) rfl ?_
    obtain rfl := Option.some.inj h
    exact hE _ rfl
  · rw [if_neg hb6] at h
    refine Rc.run tb_119 7 (pc' := 38) (ls' := [some (.ref (0)), some (.int (x1)), some (.int (x2)), some (.int (x3)), some (.int ((1 : Int32) <<< (x3 &&& 31)))]) (st' := [.int (x1 &&& ((1 : Int32) <<< (x3 &&& 31)))]) rfl rfl ?_
    refine Rc.if_eq (pc1 := 60) tb_119 rfl rfl (by decide) (by decide) (fun hb5 => ?_) (fun hb5 => ?_)
    · rw [if_pos hb5] at h
      refine Rc.mask (b := 15) ((tb_119.2 60).trans rfl) (ls' := [some (.ref (0)), some (.int (x1)), some (.int (x2)), some (.int (x3)), none]) rfl ?_
      exact TJ_119_60_18 (X := X) (d := d + 1) (by omega) h hP hE
    · rw [if_neg hb5] at h
      refine Rc.run tb_119 7 (pc' := 49) (ls' := [some (.ref (0)), some (.int (x1)), some (.int (x2)), some (.int (x3)), some (.int ((1 : Int32) <<< (x3 &&& 31)))]) (st' := [.int (x3), .int (x1 &&& (((1 : Int32) <<< (x3 &&& 31)) ^^^ (-1))), .ref (0)]) rfl rfl ?_
      cases hc3 : F_149 (x1 &&& (((1 : Int32) <<< (x3 &&& 31)) ^^^ (-1))) x3 M with
      | none => rw [hc3] at h; cases h
      | some r3 =>
        obtain ⟨c3, M3⟩ := r3
        rw [hc3] at h
        dsimp only at h
        have hq3 := T_149 (X := X) (d := d) (by omega) (M := M) hc3
        have hz3 := Rc.bool mR_149 hq3
        refine Rc.callV tb_119 rfl rfl rfl mS_149 mP_149 mL_149 mO_149 rfl rfl ob_0 rfl rfl hq3 ?_
        refine Rc.if_eq (pc1 := 60) tb_119 rfl rfl (by decide) (by decide) (fun hb4 => ?_) (fun hb4 => ?_)
        · rw [if_pos hb4] at h
          refine Rc.mask (b := 15) ((tb_119.2 60).trans rfl) (ls' := [some (.ref (0)), some (.int (x1)), some (.int (x2)), some (.int (x3)), none]) rfl ?_
          exact TJ_119_60_18 (X := X) (d := d + 1) (by omega) h hP hE
        · rw [if_neg hb4] at h
          refine Rc.run tb_119 4 (pc' := 60) (ls' := [some (.ref (0)), some (.int (x1)), some (.int (x2 ||| ((1 : Int32) <<< (x3 &&& 31)))), some (.int (x3)), some (.int ((1 : Int32) <<< (x3 &&& 31)))]) (st' := []) rfl rfl ?_
          refine Rc.mask (b := 15) ((tb_119.2 60).trans rfl) (ls' := [some (.ref (0)), some (.int (x1)), some (.int (x2 ||| ((1 : Int32) <<< (x3 &&& 31)))), some (.int (x3)), none]) rfl ?_
          exact TJ_119_60_18 (X := X) (d := d + 1) (by omega) h hP hE
theorem TL_119_18 {X : AX} {d : Nat} (hd : 196 ≤ d) {x1 : Int32} {x2 : Int32} {x3 : Int32} {M : IM} {v : Option Value} {M' : IM} {r : Int32 × Int32 × IM} (h : L_119_18 x1 x2 x3 M = some r) (hE : (fun (x2, x3, M) => Rc X d 119 66 [none, none, some (.int (x2)), none, none] [] M v M') r) : Rc X d 119 18 [some (.ref (0)), some (.int (x1)), some (.int (x2)), some (.int (x3)), none] [] M v M' := by
  exact loopN_rc (P := fun (x2, x3, M) => Rc X d 119 18 [some (.ref (0)), some (.int (x1)), some (.int (x2)), some (.int (x3)), none] [] M v M') (E := fun (x2, x3, M) => Rc X d 119 66 [none, none, some (.int (x2)), none, none] [] M v M') (TB_119_18 (X := X) hd) FU _ r h hE
theorem TF_119 {X : AX} {d : Nat} (hd : 196 ≤ d) {a1 : Int32} {M : IM} {v : Option Value} {M' : IM} {o : Int32 × IM} (h : F_119 a1 M = some o) (hC : v = some (.int o.1) ∧ M' = o.2) : Rc X d 119 0 [some (.ref (0)), some (.int (a1)), none, none, none] [] M v M' := by
  obtain ⟨d, rfl⟩ : ∃ e, d = e + 1 := ⟨d - 1, by omega⟩
  unfold F_119 at h
  refine Rc.run tb_119 2 (pc' := 2) (ls' := [some (.ref (0)), some (.int (a1)), none, none, none]) (st' := [.int (a1), .ref (0)]) rfl rfl ?_
  have hq1 := T_135 (X := X) (d := d) (by omega) a1 M
  have hz1 := Rc.bool mR_135 hq1
  refine Rc.callV tb_119 rfl rfl rfl mS_135 mP_135 mL_135 mO_135 rfl rfl ob_0 rfl rfl hq1 ?_
  refine Rc.if_ne (pc1 := 14) tb_119 rfl rfl (by decide) (by decide) (fun hb8 => ?_) (fun hb8 => ?_)
  · rw [if_pos hb8] at h
    refine Rc.run tb_119 2 (pc' := 10) (ls' := [some (.ref (0)), some (.int (a1)), none, none, none]) (st' := [.int (1), .ref (0)]) rfl rfl ?_
    cases hc2 : F_132 (1 : Int32) M with
    | none => rw [hc2] at h; cases h
    | some r2 =>
      obtain ⟨c2, M2⟩ := r2
      rw [hc2] at h
      dsimp only at h
      have hq2 := T_132 (X := X) (d := d) (by omega) (M := M) hc2
      refine Rc.callV tb_119 rfl rfl rfl mS_132 mP_132 mL_132 mO_132 rfl rfl ob_0 rfl rfl hq2 ?_
      obtain rfl := Option.some.inj h
      obtain ⟨rfl, rfl⟩ := hC
      exact Rc.iret (ins := .ireturn) tb_119 rfl mR_119
  · rw [if_neg hb8] at h
    refine Rc.run tb_119 4 (pc' := 18) (ls' := [some (.ref (0)), some (.int (a1)), some (.int (0)), some (.int (0)), none]) (st' := []) rfl rfl ?_
    refine Rc.mask (b := 15) ((tb_119.2 18).trans rfl) (ls' := [some (.ref (0)), some (.int (a1)), some (.int (0)), some (.int (0)), none]) rfl ?_
    cases hl7 : L_119_18 a1 0 0 M with
    | none => rw [hl7] at h; cases h
    | some r7 =>
      obtain ⟨x2_7, x3_7, M7⟩ := r7
      rw [hl7] at h
      dsimp only at h
      refine TL_119_18 (X := X) (d := d + 1) (by omega) hl7 ?_
      refine Rc.run tb_119 1 (pc' := 67) (ls' := [none, none, some (.int (x2_7)), none, none]) (st' := [.int (x2_7)]) rfl rfl ?_
      obtain rfl := Option.some.inj h
      obtain ⟨rfl, rfl⟩ := hC
      exact Rc.iret (ins := .ireturn) tb_119 rfl mR_119
theorem T_119 {X : AX} {d : Nat} (hd : 196 ≤ d) {a1 : Int32} {M : IM} {x : Int32} {M1 : IM} (h : F_119 a1 M = some (x, M1)) : Rc X d 119 0 [some (.ref (0)), some (.int (a1)), none, none, none] [] M (some (.int x)) M1 := TF_119 hd h ⟨rfl, rfl⟩
/-! 120: NineDemands.same -/
def J_120_16 (M : IM) : Option (Int32 × IM) := (match F_132 (1 : Int32) M with | none => none | some (c2, M2) => (some ((c2, M2))))
def F_120 (a1 : Int32) (a2 : Int32) (M : IM) : Option (Int32 × IM) := if F_135 a1 M = 0 then (J_120_16 M) else (if F_135 a2 M = 0 then (J_120_16 M) else (match F_147 (a1 ||| a2) M with | none => none | some (c4, M4) => (match F_147 a1 M4 with | none => none | some (c5, M5) => (if c5 = c4 then (match F_147 a2 M5 with | none => none | some (c6, M6) => (if c6 = c4 then (some ((1, M6))) else (some ((0, M6))))) else (some ((0, M5)))))))
theorem TJ_120_16 {X : AX} {d : Nat} (hd : 195 ≤ d) {M : IM} {v : Option Value} {M' : IM} {o : Int32 × IM} (h : J_120_16 M = some o) (hC : v = some (.int o.1) ∧ M' = o.2) : Rc X d 120 16 [some (.ref (0)), none, none, none] [] M v M' := by
  obtain ⟨d, rfl⟩ : ∃ e, d = e + 1 := ⟨d - 1, by omega⟩
  unfold J_120_16 at h
  refine Rc.run tb_120 2 (pc' := 18) (ls' := [some (.ref (0)), none, none, none]) (st' := [.int (1), .ref (0)]) rfl rfl ?_
  cases hc2 : F_132 (1 : Int32) M with
  | none => rw [hc2] at h; cases h
  | some r2 =>
    obtain ⟨c2, M2⟩ := r2
    rw [hc2] at h
    dsimp only at h
    have hq2 := T_132 (X := X) (d := d) (by omega) (M := M) hc2
    refine Rc.callV tb_120 rfl rfl rfl mS_132 mP_132 mL_132 mO_132 rfl rfl ob_0 rfl rfl hq2 ?_
    obtain rfl := Option.some.inj h
    obtain ⟨rfl, rfl⟩ := hC
    exact Rc.iret (ins := .ireturn) tb_120 rfl mR_120
theorem TF_120 {X : AX} {d : Nat} (hd : 195 ≤ d) {a1 : Int32} {a2 : Int32} {M : IM} {v : Option Value} {M' : IM} {o : Int32 × IM} (h : F_120 a1 a2 M = some o) (hC : v = some (.int o.1) ∧ M' = o.2) : Rc X d 120 0 [some (.ref (0)), some (.int (a1)), some (.int (a2)), none] [] M v M' := by
  obtain ⟨d, rfl⟩ : ∃ e, d = e + 1 := ⟨d - 1, by omega⟩
  unfold F_120 at h
  refine Rc.run tb_120 2 (pc' := 2) (ls' := [some (.ref (0)), some (.int (a1)), some (.int (a2)), none]) (st' := [.int (a1), .ref (0)]) rfl rfl ?_
  have hq1 := T_135 (X := X) (d := d) (by omega) a1 M
  have hz1 := Rc.bool mR_135 hq1
  refine Rc.callV tb_120 rfl rfl rfl mS_135 mP_135 mL_135 mO_135 rfl rfl ob_0 rfl rfl hq1 ?_
  refine Rc.if_eq (pc1 := 16) tb_120 rfl rfl (by decide) (by decide) (fun hb10 => ?_) (fun hb10 => ?_)
  · rw [if_pos hb10] at h
    refine Rc.mask (b := 1) ((tb_120.2 16).trans rfl) (ls' := [some (.ref (0)), none, none, none]) rfl ?_
    exact TJ_120_16 (X := X) (d := d + 1) (by omega) h hC
  · rw [if_neg hb10] at h
    refine Rc.run tb_120 2 (pc' := 10) (ls' := [some (.ref (0)), some (.int (a1)), some (.int (a2)), none]) (st' := [.int (a2), .ref (0)]) rfl rfl ?_
    have hq3 := T_135 (X := X) (d := d) (by omega) a2 M
    have hz3 := Rc.bool mR_135 hq3
    refine Rc.callV tb_120 rfl rfl rfl mS_135 mP_135 mL_135 mO_135 rfl rfl ob_0 rfl rfl hq3 ?_
    refine Rc.if_ne (pc1 := 22) tb_120 rfl rfl (by decide) (by decide) (fun hb9 => ?_) (fun hb9 => ?_)
    · rw [if_pos hb9] at h
      refine Rc.mask (b := 1) ((tb_120.2 16).trans rfl) (ls' := [some (.ref (0)), none, none, none]) rfl ?_
      exact TJ_120_16 (X := X) (d := d + 1) (by omega) h hC
    · rw [if_neg hb9] at h
      refine Rc.run tb_120 4 (pc' := 26) (ls' := [some (.ref (0)), some (.int (a1)), some (.int (a2)), none]) (st' := [.int (a1 ||| a2), .ref (0)]) rfl rfl ?_
      cases hc4 : F_147 (a1 ||| a2) M with
      | none => rw [hc4] at h; cases h
      | some r4 =>
        obtain ⟨c4, M4⟩ := r4
        rw [hc4] at h
        dsimp only at h
        have hq4 := T_147 (X := X) (d := d) (by omega) (M := M) hc4
        refine Rc.callV tb_120 rfl rfl rfl mS_147 mP_147 mL_147 mO_147 rfl rfl ob_0 rfl rfl hq4 ?_
        refine Rc.run tb_120 3 (pc' := 32) (ls' := [some (.ref (0)), some (.int (a1)), some (.int (a2)), some (.int (c4))]) (st' := [.int (a1), .ref (0)]) rfl rfl ?_
        cases hc5 : F_147 a1 M4 with
        | none => rw [hc5] at h; cases h
        | some r5 =>
          obtain ⟨c5, M5⟩ := r5
          rw [hc5] at h
          dsimp only at h
          have hq5 := T_147 (X := X) (d := d) (by omega) (M := M4) hc5
          refine Rc.callV tb_120 rfl rfl rfl mS_147 mP_147 mL_147 mO_147 rfl rfl ob_0 rfl rfl hq5 ?_
          refine Rc.run tb_120 1 (pc' := 36) (ls' := [some (.ref (0)), some (.int (a1)), some (.int (a2)), some (.int (c4))]) (st' := [.int (c4), .int (c5)]) rfl rfl ?_
          refine Rc.icmp_ne (pc1 := 52) tb_120 rfl rfl (by decide) (by decide) (fun hb8 => ?_) (fun hb8 => ?_)
          · rw [if_pos hb8] at h
            refine Rc.run tb_120 2 (pc' := 41) (ls' := [some (.ref (0)), some (.int (a1)), some (.int (a2)), some (.int (c4))]) (st' := [.int (a2), .ref (0)]) rfl rfl ?_
            cases hc6 : F_147 a2 M5 with
            | none => rw [hc6] at h; cases h
            | some r6 =>
              obtain ⟨c6, M6⟩ := r6
              rw [hc6] at h
              dsimp only at h
              have hq6 := T_147 (X := X) (d := d) (by omega) (M := M5) hc6
              refine Rc.callV tb_120 rfl rfl rfl mS_147 mP_147 mL_147 mO_147 rfl rfl ob_0 rfl rfl hq6 ?_
              refine Rc.run tb_120 1 (pc' := 45) (ls' := [some (.ref (0)), some (.int (a1)), some (.int (a2)), some (.int (c4))]) (st' := [.int (c4), .int (c6)]) rfl rfl ?_
              refine Rc.icmp_ne (pc1 := 52) tb_120 rfl rfl (by decide) (by decide) (fun hb7 => ?_) (fun hb7 => ?_)
              · rw [if_pos hb7] at h
                refine Rc.run tb_120 2 (pc' := 53) (ls' := [some (.ref (0)), some (.int (a1)), some (.int (a2)), some (.int (c4))]) (st' := [.int (1)]) rfl rfl ?_
                obtain rfl := Option.some.inj h
                obtain ⟨rfl, rfl⟩ := hC
                exact Rc.iret (ins := .ireturn) tb_120 rfl mR_120
              · rw [if_neg hb7] at h
                refine Rc.run tb_120 1 (pc' := 53) (ls' := [none, none, none, none]) (st' := [.int (0)]) rfl rfl ?_
                obtain rfl := Option.some.inj h
                obtain ⟨rfl, rfl⟩ := hC
                exact Rc.iret (ins := .ireturn) tb_120 rfl mR_120
          · rw [if_neg hb8] at h
            refine Rc.run tb_120 1 (pc' := 53) (ls' := [none, none, none, none]) (st' := [.int (0)]) rfl rfl ?_
            obtain rfl := Option.some.inj h
            obtain ⟨rfl, rfl⟩ := hC
            exact Rc.iret (ins := .ireturn) tb_120 rfl mR_120
theorem T_120 {X : AX} {d : Nat} (hd : 195 ≤ d) {a1 : Int32} {a2 : Int32} {M : IM} {x : Int32} {M1 : IM} (h : F_120 a1 a2 M = some (x, M1)) : Rc X d 120 0 [some (.ref (0)), some (.int (a1)), some (.int (a2)), none] [] M (some (.int x)) M1 := TF_120 hd h ⟨rfl, rfl⟩
/-! 121: NineDemands.voice -/
def J_121_17 (M : IM) : Option (Int32 × IM) := (match F_132 (1 : Int32) M with | none => none | some (c2, M2) => (some ((c2, M2))))
def F_121 (a1 : Int32) (a2 : Int32) (a3 : Int32) (M : IM) : Option (Int32 × IM) := if F_133 a1 M = 0 then (J_121_17 M) else (if a2 < 0 then (J_121_17 M) else (if a2 < 4 then (if inb a1 8 = true then (match F_88 a1 (6 + 2 * a1.toNatClampNeg) a2 a3 M with | none => none | some (c4, M4) => (some ((c4, M4)))) else none) else (J_121_17 M)))
theorem TJ_121_17 {X : AX} {d : Nat} (hd : 66 ≤ d) {M : IM} {v : Option Value} {M' : IM} {o : Int32 × IM} (h : J_121_17 M = some o) (hC : v = some (.int o.1) ∧ M' = o.2) : Rc X d 121 17 [some (.ref (0)), none, none, none] [] M v M' := by
  obtain ⟨d, rfl⟩ : ∃ e, d = e + 1 := ⟨d - 1, by omega⟩
  unfold J_121_17 at h
  refine Rc.run tb_121 2 (pc' := 19) (ls' := [some (.ref (0)), none, none, none]) (st' := [.int (1), .ref (0)]) rfl rfl ?_
  cases hc2 : F_132 (1 : Int32) M with
  | none => rw [hc2] at h; cases h
  | some r2 =>
    obtain ⟨c2, M2⟩ := r2
    rw [hc2] at h
    dsimp only at h
    have hq2 := T_132 (X := X) (d := d) (by omega) (M := M) hc2
    refine Rc.callV tb_121 rfl rfl rfl mS_132 mP_132 mL_132 mO_132 rfl rfl ob_0 rfl rfl hq2 ?_
    obtain rfl := Option.some.inj h
    obtain ⟨rfl, rfl⟩ := hC
    exact Rc.iret (ins := .ireturn) tb_121 rfl mR_121
theorem TF_121 {X : AX} {d : Nat} (hd : 66 ≤ d) {a1 : Int32} {a2 : Int32} {a3 : Int32} {M : IM} {v : Option Value} {M' : IM} {o : Int32 × IM} (h : F_121 a1 a2 a3 M = some o) (hC : v = some (.int o.1) ∧ M' = o.2) : Rc X d 121 0 [some (.ref (0)), some (.int (a1)), some (.int (a2)), some (.int (a3))] [] M v M' := by
  obtain ⟨d, rfl⟩ : ∃ e, d = e + 1 := ⟨d - 1, by omega⟩
  unfold F_121 at h
  refine Rc.run tb_121 2 (pc' := 2) (ls' := [some (.ref (0)), some (.int (a1)), some (.int (a2)), some (.int (a3))]) (st' := [.int (a1), .ref (0)]) rfl rfl ?_
  have hq1 := T_133 (X := X) (d := d) (by omega) a1 M
  have hz1 := Rc.bool mR_133 hq1
  refine Rc.callV tb_121 rfl rfl rfl mS_133 mP_133 mL_133 mO_133 rfl rfl ob_0 rfl rfl hq1 ?_
  refine Rc.if_eq (pc1 := 17) tb_121 rfl rfl (by decide) (by decide) (fun hb7 => ?_) (fun hb7 => ?_)
  · rw [if_pos hb7] at h
    refine Rc.mask (b := 1) ((tb_121.2 17).trans rfl) (ls' := [some (.ref (0)), none, none, none]) rfl ?_
    exact TJ_121_17 (X := X) (d := d + 1) (by omega) h hC
  · rw [if_neg hb7] at h
    refine Rc.run tb_121 1 (pc' := 9) (ls' := [some (.ref (0)), some (.int (a1)), some (.int (a2)), some (.int (a3))]) (st' := [.int (a2)]) rfl rfl ?_
    refine Rc.if_lt (pc1 := 17) tb_121 rfl rfl (by decide) (by decide) (fun hb6 => ?_) (fun hb6 => ?_)
    · rw [if_pos hb6] at h
      refine Rc.mask (b := 1) ((tb_121.2 17).trans rfl) (ls' := [some (.ref (0)), none, none, none]) rfl ?_
      exact TJ_121_17 (X := X) (d := d + 1) (by omega) h hC
    · rw [if_neg hb6] at h
      refine Rc.run tb_121 2 (pc' := 14) (ls' := [some (.ref (0)), some (.int (a1)), some (.int (a2)), some (.int (a3))]) (st' := [.int (4), .int (a2)]) rfl rfl ?_
      refine Rc.icmp_lt (pc1 := 23) tb_121 rfl rfl (by decide) (by decide) (fun hb5 => ?_) (fun hb5 => ?_)
      · rw [if_pos hb5] at h
        refine Rc.run tb_121 1 (pc' := 24) (ls' := [some (.ref (0)), some (.int (a1)), some (.int (a2)), some (.int (a3))]) (st' := [.ref (0)]) rfl rfl ?_
        refine Rc.getR tb_121 rfl rfl ob_0 (by decide +kernel) tg_0_9 (by decide) ?_
        refine Rc.run tb_121 2 (pc' := 29) (ls' := [some (.ref (0)), some (.int (a1)), some (.int (a2)), some (.int (a3))]) (st' := [.ref (0), .int (a1), .ref (65)]) rfl rfl ?_
        refine Rc.getR tb_121 rfl rfl ob_0 (by decide +kernel) tg_0_0 (by decide) ?_
        refine Rc.getR tb_121 rfl rfl (VilH.ob vh_1) (by decide +kernel) (VilH.f1 vh_1) (by decide) ?_
        refine Rc.run tb_121 1 (pc' := 36) (ls' := [some (.ref (0)), some (.int (a1)), some (.int (a2)), some (.int (a3))]) (st' := [.int (a1), .ref (3), .int (a1), .ref (65)]) rfl rfl ?_
        by_cases hb3 : inb a1 8 = true
        · rw [if_pos hb3] at h
          refine Rc.aald tb_121 rfl rfl (by decide) (Or.inl (by decide +kernel)) (by rw [ln_3]; exact hb3) (la_3 hb3) (by have := lawEl_1 hb3; exact LawH.lt0 this) ?_
          refine Rc.run tb_121 2 (pc' := 39) (ls' := [some (.ref (0)), some (.int (a1)), some (.int (a2)), some (.int (a3))]) (st' := [.int (a3), .int (a2), .ref ((6 + 2 * a1.toNatClampNeg)), .int (a1), .ref (65)]) rfl rfl ?_
          cases hc4 : F_88 a1 (6 + 2 * a1.toNatClampNeg) a2 a3 M with
          | none => rw [hc4] at h; cases h
          | some r4 =>
            obtain ⟨c4, M4⟩ := r4
            rw [hc4] at h
            dsimp only at h
            have hq4 := T_88 (X := X) (d := d) (by omega) (M := M) (lawEl_1 hb3) hc4
            refine Rc.callV tb_121 rfl rfl rfl mS_88 mP_88 mL_88 mO_88 rfl rfl ob_65 rfl rfl hq4 ?_
            obtain rfl := Option.some.inj h
            obtain ⟨rfl, rfl⟩ := hC
            exact Rc.iret (ins := .ireturn) tb_121 rfl mR_121
        · rw [if_neg hb3] at h
          cases h
      · rw [if_neg hb5] at h
        refine Rc.mask (b := 1) ((tb_121.2 17).trans rfl) (ls' := [some (.ref (0)), none, none, none]) rfl ?_
        exact TJ_121_17 (X := X) (d := d + 1) (by omega) h hC
theorem T_121 {X : AX} {d : Nat} (hd : 66 ≤ d) {a1 : Int32} {a2 : Int32} {a3 : Int32} {M : IM} {x : Int32} {M1 : IM} (h : F_121 a1 a2 a3 M = some (x, M1)) : Rc X d 121 0 [some (.ref (0)), some (.int (a1)), some (.int (a2)), some (.int (a3))] [] M (some (.int x)) M1 := TF_121 hd h ⟨rfl, rfl⟩
/-! 123: NineDemands.sheet -/
def J_123_29 (M : IM) : Option (Int32 × IM) := (match F_132 (1 : Int32) M with | none => none | some (c2, M2) => (some ((c2, M2))))
def J_123_81 (s0 : Int32) (s1 : Int32) (s2 : Nat) (M : IM) : Option (Int32 × IM) := (match F_35 s2 s1 s0 M with | none => none | some M4 => (some ((1, M4))))
def J_123_65 (x1 : Int32) (x2 : Int32) (x3 : Int32) (M : IM) : Option (Int32 × IM) := if inb x1 4 = true then (if x2 = 0 then (J_123_81 (0 : Int32) x2 (69 + 2 * x1.toNatClampNeg) M) else (J_123_81 x3 x2 (69 + 2 * x1.toNatClampNeg) M)) else none
def J_123_49 (x1 : Int32) (x2 : Int32) (x3 : Int32) (M : IM) : Option (Int32 × IM) := if x2 = 0 then (J_123_65 x1 x2 x3 M) else (if x3 ≤ 40 then (J_123_65 x1 x2 x3 M) else (match F_132 (1 : Int32) M with | none => none | some (c6, M6) => (some ((c6, M6)))))
def J_123_35 (x1 : Int32) (x2 : Int32) (x3 : Int32) (M : IM) : Option (Int32 × IM) := if x2 = 0 then (J_123_49 x1 x2 x3 M) else (if (0 : Int32) ≤ x3 then (J_123_49 x1 x2 x3 M) else (match F_132 (3 : Int32) M with | none => none | some (c9, M9) => (some ((c9, M9)))))
def F_123 (a1 : Int32) (a2 : Int32) (a3 : Int32) (M : IM) : Option (Int32 × IM) := if F_136 a1 = 0 then (J_123_29 M) else (if a2 = 0 then (J_123_35 a1 a2 a3 M) else (if a2 = 8 then (J_123_35 a1 a2 a3 M) else (if a2 = 16 then (J_123_35 a1 a2 a3 M) else (if a2 = 32 then (J_123_35 a1 a2 a3 M) else (J_123_29 M)))))
theorem TJ_123_29 {X : AX} {d : Nat} (hd : 2 ≤ d) {M : IM} {v : Option Value} {M' : IM} {o : Int32 × IM} (h : J_123_29 M = some o) (hC : v = some (.int o.1) ∧ M' = o.2) : Rc X d 123 29 [some (.ref (0)), none, none, none] [] M v M' := by
  obtain ⟨d, rfl⟩ : ∃ e, d = e + 1 := ⟨d - 1, by omega⟩
  unfold J_123_29 at h
  refine Rc.run tb_123 2 (pc' := 31) (ls' := [some (.ref (0)), none, none, none]) (st' := [.int (1), .ref (0)]) rfl rfl ?_
  cases hc2 : F_132 (1 : Int32) M with
  | none => rw [hc2] at h; cases h
  | some r2 =>
    obtain ⟨c2, M2⟩ := r2
    rw [hc2] at h
    dsimp only at h
    have hq2 := T_132 (X := X) (d := d) (by omega) (M := M) hc2
    refine Rc.callV tb_123 rfl rfl rfl mS_132 mP_132 mL_132 mO_132 rfl rfl ob_0 rfl rfl hq2 ?_
    obtain rfl := Option.some.inj h
    obtain ⟨rfl, rfl⟩ := hC
    exact Rc.iret (ins := .ireturn) tb_123 rfl mR_123
theorem TJ_123_81 {X : AX} {d : Nat} (hd : 2 ≤ d) {s0 : Int32} {s1 : Int32} {s2 : Nat} {M : IM} (hs2 : ShH s2) {v : Option Value} {M' : IM} {o : Int32 × IM} (h : J_123_81 s0 s1 s2 M = some o) (hC : v = some (.int o.1) ∧ M' = o.2) : Rc X d 123 81 [none, none, none, none] [.int (s0), .int (s1), .ref (s2)] M v M' := by
  obtain ⟨d, rfl⟩ : ∃ e, d = e + 1 := ⟨d - 1, by omega⟩
  unfold J_123_81 at h
  cases hc4 : F_35 s2 s1 s0 M with
  | none => rw [hc4] at h; cases h
  | some M4 =>
    rw [hc4] at h
    dsimp only at h
    have hq4 := T_35 (X := X) (d := d) (by omega) (M := M) hs2 hc4
    refine Rc.callV tb_123 rfl rfl rfl mS_35 mP_35 mL_35 mO_35 rfl rfl (ShH.ob hs2) rfl rfl hq4 ?_
    refine Rc.run tb_123 1 (pc' := 85) (ls' := [none, none, none, none]) (st' := [.int (1)]) rfl rfl ?_
    obtain rfl := Option.some.inj h
    obtain ⟨rfl, rfl⟩ := hC
    exact Rc.iret (ins := .ireturn) tb_123 rfl mR_123
theorem TJ_123_65 {X : AX} {d : Nat} (hd : 2 ≤ d) {x1 : Int32} {x2 : Int32} {x3 : Int32} {M : IM} {v : Option Value} {M' : IM} {o : Int32 × IM} (h : J_123_65 x1 x2 x3 M = some o) (hC : v = some (.int o.1) ∧ M' = o.2) : Rc X d 123 65 [some (.ref (0)), some (.int (x1)), some (.int (x2)), some (.int (x3))] [] M v M' := by
  obtain ⟨d, rfl⟩ : ∃ e, d = e + 1 := ⟨d - 1, by omega⟩
  unfold J_123_65 at h
  refine Rc.run tb_123 1 (pc' := 66) (ls' := [some (.ref (0)), some (.int (x1)), some (.int (x2)), some (.int (x3))]) (st' := [.ref (0)]) rfl rfl ?_
  refine Rc.getR tb_123 rfl rfl ob_0 (by decide +kernel) tg_0_4 (by decide) ?_
  refine Rc.run tb_123 1 (pc' := 70) (ls' := [some (.ref (0)), some (.int (x1)), some (.int (x2)), some (.int (x3))]) (st' := [.int (x1), .ref (44)]) rfl rfl ?_
  by_cases hb3 : inb x1 4 = true
  · rw [if_pos hb3] at h
    refine Rc.aald tb_123 rfl rfl (by decide) (Or.inr (by decide +kernel)) (by rw [ln_44]; exact hb3) (sa_44 hb3) (ShH.lt0 (shEl hb3)) ?_
    refine Rc.run tb_123 2 (pc' := 73) (ls' := [some (.ref (0)), some (.int (x1)), some (.int (x2)), some (.int (x3))]) (st' := [.int (x2), .int (x2), .ref ((69 + 2 * x1.toNatClampNeg))]) rfl rfl ?_
    refine Rc.if_ne (pc1 := 80) tb_123 rfl rfl (by decide) (by decide) (fun hb5 => ?_) (fun hb5 => ?_)
    · rw [if_pos hb5] at h
      refine Rc.run tb_123 2 (pc' := 81) (ls' := [some (.ref (0)), some (.int (x1)), some (.int (x2)), some (.int (x3))]) (st' := [.int (0), .int (x2), .ref ((69 + 2 * x1.toNatClampNeg))]) rfl rfl ?_
      refine Rc.mask (b := 0) ((tb_123.2 81).trans rfl) (ls' := [none, none, none, none]) rfl ?_
      exact TJ_123_81 (X := X) (d := d + 1) (by omega) (shEl hb3) h hC
    · rw [if_neg hb5] at h
      refine Rc.run tb_123 1 (pc' := 81) (ls' := [some (.ref (0)), some (.int (x1)), some (.int (x2)), some (.int (x3))]) (st' := [.int (x3), .int (x2), .ref ((69 + 2 * x1.toNatClampNeg))]) rfl rfl ?_
      refine Rc.mask (b := 0) ((tb_123.2 81).trans rfl) (ls' := [none, none, none, none]) rfl ?_
      exact TJ_123_81 (X := X) (d := d + 1) (by omega) (shEl hb3) h hC
  · rw [if_neg hb3] at h
    cases h
theorem TJ_123_49 {X : AX} {d : Nat} (hd : 2 ≤ d) {x1 : Int32} {x2 : Int32} {x3 : Int32} {M : IM} {v : Option Value} {M' : IM} {o : Int32 × IM} (h : J_123_49 x1 x2 x3 M = some o) (hC : v = some (.int o.1) ∧ M' = o.2) : Rc X d 123 49 [some (.ref (0)), some (.int (x1)), some (.int (x2)), some (.int (x3))] [] M v M' := by
  obtain ⟨d, rfl⟩ : ∃ e, d = e + 1 := ⟨d - 1, by omega⟩
  unfold J_123_49 at h
  refine Rc.run tb_123 1 (pc' := 50) (ls' := [some (.ref (0)), some (.int (x1)), some (.int (x2)), some (.int (x3))]) (st' := [.int (x2)]) rfl rfl ?_
  refine Rc.if_eq (pc1 := 65) tb_123 rfl rfl (by decide) (by decide) (fun hb8 => ?_) (fun hb8 => ?_)
  · rw [if_pos hb8] at h
    refine Rc.mask (b := 15) ((tb_123.2 65).trans rfl) (ls' := [some (.ref (0)), some (.int (x1)), some (.int (x2)), some (.int (x3))]) rfl ?_
    exact TJ_123_65 (X := X) (d := d + 1) (by omega) h hC
  · rw [if_neg hb8] at h
    refine Rc.run tb_123 2 (pc' := 56) (ls' := [some (.ref (0)), some (.int (x1)), some (.int (x2)), some (.int (x3))]) (st' := [.int (40), .int (x3)]) rfl rfl ?_
    refine Rc.icmp_le (pc1 := 65) tb_123 rfl rfl (by decide) (by decide) (fun hb7 => ?_) (fun hb7 => ?_)
    · rw [if_pos hb7] at h
      refine Rc.mask (b := 15) ((tb_123.2 65).trans rfl) (ls' := [some (.ref (0)), some (.int (x1)), some (.int (x2)), some (.int (x3))]) rfl ?_
      exact TJ_123_65 (X := X) (d := d + 1) (by omega) h hC
    · rw [if_neg hb7] at h
      refine Rc.run tb_123 2 (pc' := 61) (ls' := [some (.ref (0)), some (.int (x1)), some (.int (x2)), some (.int (x3))]) (st' := [.int (1), .ref (0)]) rfl rfl ?_
      cases hc6 : F_132 (1 : Int32) M with
      | none => rw [hc6] at h; cases h
      | some r6 =>
        obtain ⟨c6, M6⟩ := r6
        rw [hc6] at h
        dsimp only at h
        have hq6 := T_132 (X := X) (d := d) (by omega) (M := M) hc6
        refine Rc.callV tb_123 rfl rfl rfl mS_132 mP_132 mL_132 mO_132 rfl rfl ob_0 rfl rfl hq6 ?_
        obtain rfl := Option.some.inj h
        obtain ⟨rfl, rfl⟩ := hC
        exact Rc.iret (ins := .ireturn) tb_123 rfl mR_123
theorem TJ_123_35 {X : AX} {d : Nat} (hd : 2 ≤ d) {x1 : Int32} {x2 : Int32} {x3 : Int32} {M : IM} {v : Option Value} {M' : IM} {o : Int32 × IM} (h : J_123_35 x1 x2 x3 M = some o) (hC : v = some (.int o.1) ∧ M' = o.2) : Rc X d 123 35 [some (.ref (0)), some (.int (x1)), some (.int (x2)), some (.int (x3))] [] M v M' := by
  obtain ⟨d, rfl⟩ : ∃ e, d = e + 1 := ⟨d - 1, by omega⟩
  unfold J_123_35 at h
  refine Rc.run tb_123 1 (pc' := 36) (ls' := [some (.ref (0)), some (.int (x1)), some (.int (x2)), some (.int (x3))]) (st' := [.int (x2)]) rfl rfl ?_
  refine Rc.if_eq (pc1 := 49) tb_123 rfl rfl (by decide) (by decide) (fun hb11 => ?_) (fun hb11 => ?_)
  · rw [if_pos hb11] at h
    refine Rc.mask (b := 15) ((tb_123.2 49).trans rfl) (ls' := [some (.ref (0)), some (.int (x1)), some (.int (x2)), some (.int (x3))]) rfl ?_
    exact TJ_123_49 (X := X) (d := d + 1) (by omega) h hC
  · rw [if_neg hb11] at h
    refine Rc.run tb_123 1 (pc' := 40) (ls' := [some (.ref (0)), some (.int (x1)), some (.int (x2)), some (.int (x3))]) (st' := [.int (x3)]) rfl rfl ?_
    refine Rc.if_ge (pc1 := 49) tb_123 rfl rfl (by decide) (by decide) (fun hb10 => ?_) (fun hb10 => ?_)
    · rw [if_pos hb10] at h
      refine Rc.mask (b := 15) ((tb_123.2 49).trans rfl) (ls' := [some (.ref (0)), some (.int (x1)), some (.int (x2)), some (.int (x3))]) rfl ?_
      exact TJ_123_49 (X := X) (d := d + 1) (by omega) h hC
    · rw [if_neg hb10] at h
      refine Rc.run tb_123 2 (pc' := 45) (ls' := [some (.ref (0)), some (.int (x1)), some (.int (x2)), some (.int (x3))]) (st' := [.int (3), .ref (0)]) rfl rfl ?_
      cases hc9 : F_132 (3 : Int32) M with
      | none => rw [hc9] at h; cases h
      | some r9 =>
        obtain ⟨c9, M9⟩ := r9
        rw [hc9] at h
        dsimp only at h
        have hq9 := T_132 (X := X) (d := d) (by omega) (M := M) hc9
        refine Rc.callV tb_123 rfl rfl rfl mS_132 mP_132 mL_132 mO_132 rfl rfl ob_0 rfl rfl hq9 ?_
        obtain rfl := Option.some.inj h
        obtain ⟨rfl, rfl⟩ := hC
        exact Rc.iret (ins := .ireturn) tb_123 rfl mR_123
theorem TF_123 {X : AX} {d : Nat} (hd : 2 ≤ d) {a1 : Int32} {a2 : Int32} {a3 : Int32} {M : IM} {v : Option Value} {M' : IM} {o : Int32 × IM} (h : F_123 a1 a2 a3 M = some o) (hC : v = some (.int o.1) ∧ M' = o.2) : Rc X d 123 0 [some (.ref (0)), some (.int (a1)), some (.int (a2)), some (.int (a3))] [] M v M' := by
  obtain ⟨d, rfl⟩ : ∃ e, d = e + 1 := ⟨d - 1, by omega⟩
  unfold F_123 at h
  refine Rc.run tb_123 1 (pc' := 1) (ls' := [some (.ref (0)), some (.int (a1)), some (.int (a2)), some (.int (a3))]) (st' := [.int (a1)]) rfl rfl ?_
  have hq1 := T_136 (X := X) (d := d) (by omega) a1 M
  have hz1 := Rc.bool mR_136 hq1
  refine Rc.callS tb_123 rfl rfl rfl mS_136 mP_136 mL_136 rfl rfl rfl hq1 ?_
  refine Rc.if_eq (pc1 := 29) tb_123 rfl rfl (by decide) (by decide) (fun hb16 => ?_) (fun hb16 => ?_)
  · rw [if_pos hb16] at h
    refine Rc.mask (b := 1) ((tb_123.2 29).trans rfl) (ls' := [some (.ref (0)), none, none, none]) rfl ?_
    exact TJ_123_29 (X := X) (d := d + 1) (by omega) h hC
  · rw [if_neg hb16] at h
    refine Rc.run tb_123 1 (pc' := 8) (ls' := [some (.ref (0)), some (.int (a1)), some (.int (a2)), some (.int (a3))]) (st' := [.int (a2)]) rfl rfl ?_
    refine Rc.if_eq (pc1 := 35) tb_123 rfl rfl (by decide) (by decide) (fun hb15 => ?_) (fun hb15 => ?_)
    · rw [if_pos hb15] at h
      refine Rc.mask (b := 15) ((tb_123.2 35).trans rfl) (ls' := [some (.ref (0)), some (.int (a1)), some (.int (a2)), some (.int (a3))]) rfl ?_
      exact TJ_123_35 (X := X) (d := d + 1) (by omega) h hC
    · rw [if_neg hb15] at h
      refine Rc.run tb_123 2 (pc' := 14) (ls' := [some (.ref (0)), some (.int (a1)), some (.int (a2)), some (.int (a3))]) (st' := [.int (8), .int (a2)]) rfl rfl ?_
      refine Rc.icmp_eq (pc1 := 35) tb_123 rfl rfl (by decide) (by decide) (fun hb14 => ?_) (fun hb14 => ?_)
      · rw [if_pos hb14] at h
        refine Rc.mask (b := 15) ((tb_123.2 35).trans rfl) (ls' := [some (.ref (0)), some (.int (a1)), some (.int (a2)), some (.int (a3))]) rfl ?_
        exact TJ_123_35 (X := X) (d := d + 1) (by omega) h hC
      · rw [if_neg hb14] at h
        refine Rc.run tb_123 2 (pc' := 20) (ls' := [some (.ref (0)), some (.int (a1)), some (.int (a2)), some (.int (a3))]) (st' := [.int (16), .int (a2)]) rfl rfl ?_
        refine Rc.icmp_eq (pc1 := 35) tb_123 rfl rfl (by decide) (by decide) (fun hb13 => ?_) (fun hb13 => ?_)
        · rw [if_pos hb13] at h
          refine Rc.mask (b := 15) ((tb_123.2 35).trans rfl) (ls' := [some (.ref (0)), some (.int (a1)), some (.int (a2)), some (.int (a3))]) rfl ?_
          exact TJ_123_35 (X := X) (d := d + 1) (by omega) h hC
        · rw [if_neg hb13] at h
          refine Rc.run tb_123 2 (pc' := 26) (ls' := [some (.ref (0)), some (.int (a1)), some (.int (a2)), some (.int (a3))]) (st' := [.int (32), .int (a2)]) rfl rfl ?_
          refine Rc.icmp_eq (pc1 := 35) tb_123 rfl rfl (by decide) (by decide) (fun hb12 => ?_) (fun hb12 => ?_)
          · rw [if_pos hb12] at h
            refine Rc.mask (b := 15) ((tb_123.2 35).trans rfl) (ls' := [some (.ref (0)), some (.int (a1)), some (.int (a2)), some (.int (a3))]) rfl ?_
            exact TJ_123_35 (X := X) (d := d + 1) (by omega) h hC
          · rw [if_neg hb12] at h
            refine Rc.mask (b := 1) ((tb_123.2 29).trans rfl) (ls' := [some (.ref (0)), none, none, none]) rfl ?_
            exact TJ_123_29 (X := X) (d := d + 1) (by omega) h hC
theorem T_123 {X : AX} {d : Nat} (hd : 2 ≤ d) {a1 : Int32} {a2 : Int32} {a3 : Int32} {M : IM} {x : Int32} {M1 : IM} (h : F_123 a1 a2 a3 M = some (x, M1)) : Rc X d 123 0 [some (.ref (0)), some (.int (a1)), some (.int (a2)), some (.int (a3))] [] M (some (.int x)) M1 := TF_123 hd h ⟨rfl, rfl⟩
/-! 129: NineDemands.learn -/
def B_129_46 (x2 : Int32) (M : IM) : (Int32) → Option ((Int32) ⊕ ((Int32) ⊕ (Int32 × IM))) := fun x3 => if x2 ≤ x3 then (some (Sum.inr (Sum.inl x3))) else (if (12 : Int32) ≤ x3 then (some (Sum.inr (Sum.inr (x3 + 1, M)))) else (if inb x3 20 = true then (if inb x3 12 = true then (if M 5 x3.toNatClampNeg = M 54 x3.toNatClampNeg then (some (Sum.inl (x3 + 1))) else (some (Sum.inr (Sum.inr (x3 + 1, M))))) else none) else none))
def L_129_46 (x2 : Int32) (M : IM) (x3 : Int32) : Option ((Int32) ⊕ (Int32 × IM)) := loopN (B_129_46 x2 M) FU x3
def F_129 (a1 : Int32) (M : IM) : Option (Int32 × IM) := if F_135 a1 (iset M 1 6 0) = 0 then (match F_132 (1 : Int32) (iset M 1 6 0) with | none => none | some (c2, M2) => (some ((c2, M2)))) else (match F_148 a1 (iset M 1 6 0) with | none => none | some (c3, M3) => (if c3 = 0 then (match F_132 (2 : Int32) M3 with | none => none | some (c4, M4) => (some ((c4, M4)))) else (match L_129_46 (M 1 6) M3 0 with | none => none | some (.inl x3_10) => (some ((0, M3))) | some (.inr q) => some (q))))
theorem TB_129_46 {X : AX} {d : Nat} (hd : 68 ≤ d) {x2 : Int32} {M : IM} {v : Option Value} {M' : IM} : ∀ (s : Int32) (o : (Int32) ⊕ ((Int32) ⊕ (Int32 × IM))), B_129_46 x2 M s = some o → (∀ s', o = .inl s' → (fun x3 => Rc X d 129 46 [some (.ref (0)), none, some (.int (x2)), some (.int (x3))] [] M v M') s') → (∀ r, o = .inr r → (fun r => match r with | .inl x3 => Rc X d 129 88 [none, none, none, none] [] M v M' | .inr q => v = some (.int q.1) ∧ M' = q.2) r) → (fun x3 => Rc X d 129 46 [some (.ref (0)), none, some (.int (x2)), some (.int (x3))] [] M v M') s := by
  intro x3 o h hP hE
  show Rc X d 129 46 [some (.ref (0)), none, some (.int (x2)), some (.int (x3))] [] M v M'
  obtain ⟨d, rfl⟩ : ∃ e, d = e + 1 := ⟨d - 1, by omega⟩
  unfold B_129_46 at h
  dsimp only at h hP hE
  refine Rc.run tb_129 2 (pc' := 48) (ls' := [some (.ref (0)), none, some (.int (x2)), some (.int (x3))]) (st' := [.int (x2), .int (x3)]) rfl rfl ?_
  refine Rc.icmp_ge (pc1 := 88) tb_129 rfl rfl (by decide) (by decide) (fun hb9 => ?_) (fun hb9 => ?_)
  · rw [if_pos hb9] at h
    refine Rc.mask (b := 0) ((tb_129.2 88).trans rfl) (ls' := [none, none, none, none]) rfl ?_
    obtain rfl := Option.some.inj h
    exact hE _ rfl
  · rw [if_neg hb9] at h
    refine Rc.run tb_129 2 (pc' := 54) (ls' := [some (.ref (0)), none, some (.int (x2)), some (.int (x3))]) (st' := [.int (12), .int (x3)]) rfl rfl ?_
    refine Rc.icmp_ge (pc1 := 78) tb_129 rfl rfl (by decide) (by decide) (fun hb8 => ?_) (fun hb8 => ?_)
    · rw [if_pos hb8] at h
      refine Rc.run tb_129 3 (pc' := 81) (ls' := [none, none, none, some (.int (x3))]) (st' := [.int (x3 + 1)]) rfl rfl ?_
      obtain rfl := Option.some.inj h
      obtain ⟨rfl, rfl⟩ := hE _ rfl
      exact Rc.iret (ins := .ireturn) tb_129 rfl mR_129
    · rw [if_neg hb8] at h
      refine Rc.run tb_129 1 (pc' := 58) (ls' := [some (.ref (0)), none, some (.int (x2)), some (.int (x3))]) (st' := [.ref (0)]) rfl rfl ?_
      refine Rc.getR tb_129 rfl rfl ob_0 (by decide +kernel) tg_0_0 (by decide) ?_
      refine Rc.getR tb_129 rfl rfl (VilH.ob vh_1) (by decide +kernel) (VilH.f5 vh_1) (by decide) ?_
      refine Rc.run tb_129 1 (pc' := 65) (ls' := [some (.ref (0)), none, some (.int (x2)), some (.int (x3))]) (st' := [.int (x3), .ref (5)]) rfl rfl ?_
      by_cases hb7 : inb x3 20 = true
      · rw [if_pos hb7] at h
        refine Rc.iald tb_129 rfl rfl ia_5 hb7 ?_
        refine Rc.run tb_129 1 (pc' := 67) (ls' := [some (.ref (0)), none, some (.int (x2)), some (.int (x3))]) (st' := [.ref (0), .int (M 5 x3.toNatClampNeg)]) rfl rfl ?_
        refine Rc.getR tb_129 rfl rfl ob_0 (by decide +kernel) tg_0_7 (by decide) ?_
        refine Rc.getR tb_129 rfl rfl ob_51 (by decide +kernel) tg_51_2 (by decide) ?_
        refine Rc.run tb_129 1 (pc' := 74) (ls' := [some (.ref (0)), none, some (.int (x2)), some (.int (x3))]) (st' := [.int (x3), .ref (54), .int (M 5 x3.toNatClampNeg)]) rfl rfl ?_
        by_cases hb6 : inb x3 12 = true
        · rw [if_pos hb6] at h
          refine Rc.iald tb_129 rfl rfl ia_54 hb6 ?_
          refine Rc.icmp_eq (pc1 := 82) tb_129 rfl rfl (by decide) (by decide) (fun hb5 => ?_) (fun hb5 => ?_)
          · rw [if_pos hb5] at h
            refine Rc.run tb_129 2 (pc' := 46) (ls' := [some (.ref (0)), none, some (.int (x2)), some (.int (x3 + 1))]) (st' := []) rfl rfl ?_
            refine Rc.mask (b := 13) ((tb_129.2 46).trans rfl) (ls' := [some (.ref (0)), none, some (.int (x2)), some (.int (x3 + 1))]) rfl ?_
            obtain rfl := Option.some.inj h
            exact hP _ rfl
          · rw [if_neg hb5] at h
            refine Rc.run tb_129 3 (pc' := 81) (ls' := [none, none, none, some (.int (x3))]) (st' := [.int (x3 + 1)]) rfl rfl ?_
            obtain rfl := Option.some.inj h
            obtain ⟨rfl, rfl⟩ := hE _ rfl
            exact Rc.iret (ins := .ireturn) tb_129 rfl mR_129
        · rw [if_neg hb6] at h
          cases h
      · rw [if_neg hb7] at h
        cases h
theorem TL_129_46 {X : AX} {d : Nat} (hd : 68 ≤ d) {x2 : Int32} {M : IM} {x3 : Int32} {v : Option Value} {M' : IM} {r : (Int32) ⊕ (Int32 × IM)} (h : L_129_46 x2 M x3 = some r) (hE : (fun r => match r with | .inl x3 => Rc X d 129 88 [none, none, none, none] [] M v M' | .inr q => v = some (.int q.1) ∧ M' = q.2) r) : Rc X d 129 46 [some (.ref (0)), none, some (.int (x2)), some (.int (x3))] [] M v M' := by
  exact loopN_rc (P := fun x3 => Rc X d 129 46 [some (.ref (0)), none, some (.int (x2)), some (.int (x3))] [] M v M') (E := fun r => match r with | .inl x3 => Rc X d 129 88 [none, none, none, none] [] M v M' | .inr q => v = some (.int q.1) ∧ M' = q.2) (TB_129_46 (X := X) hd) FU _ r h hE
theorem TF_129 {X : AX} {d : Nat} (hd : 68 ≤ d) {a1 : Int32} {M : IM} {v : Option Value} {M' : IM} {o : Int32 × IM} (h : F_129 a1 M = some o) (hC : v = some (.int o.1) ∧ M' = o.2) : Rc X d 129 0 [some (.ref (0)), some (.int (a1)), none, none] [] M v M' := by
  obtain ⟨d, rfl⟩ : ∃ e, d = e + 1 := ⟨d - 1, by omega⟩
  unfold F_129 at h
  refine Rc.run tb_129 1 (pc' := 1) (ls' := [some (.ref (0)), some (.int (a1)), none, none]) (st' := [.ref (0)]) rfl rfl ?_
  refine Rc.getR tb_129 rfl rfl ob_0 (by decide +kernel) tg_0_0 (by decide) ?_
  refine Rc.getI tb_129 rfl rfl (VilH.ob vh_1) (by decide +kernel) (VilH.f6 vh_1) ?_
  refine Rc.run tb_129 2 (pc' := 9) (ls' := [some (.ref (0)), some (.int (a1)), some (.int (M 1 6)), none]) (st' := [.ref (0)]) rfl rfl ?_
  refine Rc.getR tb_129 rfl rfl ob_0 (by decide +kernel) tg_0_0 (by decide) ?_
  refine Rc.run tb_129 1 (pc' := 13) (ls' := [some (.ref (0)), some (.int (a1)), some (.int (M 1 6)), none]) (st' := [.int (0), .ref (1)]) rfl rfl ?_
  refine Rc.putI tb_129 rfl rfl (VilH.ob vh_1) (by decide +kernel) (VilH.f6 vh_1) rfl ?_
  refine Rc.run tb_129 2 (pc' := 18) (ls' := [some (.ref (0)), some (.int (a1)), some (.int (M 1 6)), none]) (st' := [.int (a1), .ref (0)]) rfl rfl ?_
  have hq1 := T_135 (X := X) (d := d) (by omega) a1 (iset M 1 6 0)
  have hz1 := Rc.bool mR_135 hq1
  refine Rc.callV tb_129 rfl rfl rfl mS_135 mP_135 mL_135 mO_135 rfl rfl ob_0 rfl rfl hq1 ?_
  refine Rc.if_ne (pc1 := 30) tb_129 rfl rfl (by decide) (by decide) (fun hb12 => ?_) (fun hb12 => ?_)
  · rw [if_pos hb12] at h
    refine Rc.run tb_129 2 (pc' := 26) (ls' := [some (.ref (0)), some (.int (a1)), some (.int (M 1 6)), none]) (st' := [.int (1), .ref (0)]) rfl rfl ?_
    cases hc2 : F_132 (1 : Int32) (iset M 1 6 0) with
    | none => rw [hc2] at h; cases h
    | some r2 =>
      obtain ⟨c2, M2⟩ := r2
      rw [hc2] at h
      dsimp only at h
      have hq2 := T_132 (X := X) (d := d) (by omega) (M := iset M 1 6 0) hc2
      refine Rc.callV tb_129 rfl rfl rfl mS_132 mP_132 mL_132 mO_132 rfl rfl ob_0 rfl rfl hq2 ?_
      obtain rfl := Option.some.inj h
      obtain ⟨rfl, rfl⟩ := hC
      exact Rc.iret (ins := .ireturn) tb_129 rfl mR_129
  · rw [if_neg hb12] at h
    refine Rc.run tb_129 2 (pc' := 32) (ls' := [some (.ref (0)), some (.int (a1)), some (.int (M 1 6)), none]) (st' := [.int (a1), .ref (0)]) rfl rfl ?_
    cases hc3 : F_148 a1 (iset M 1 6 0) with
    | none => rw [hc3] at h; cases h
    | some r3 =>
      obtain ⟨c3, M3⟩ := r3
      rw [hc3] at h
      dsimp only at h
      have hq3 := T_148 (X := X) (d := d) (by omega) (M := iset M 1 6 0) hc3
      have hz3 := Rc.bool mR_148 hq3
      refine Rc.callV tb_129 rfl rfl rfl mS_148 mP_148 mL_148 mO_148 rfl rfl ob_0 rfl rfl hq3 ?_
      refine Rc.if_ne (pc1 := 44) tb_129 rfl rfl (by decide) (by decide) (fun hb11 => ?_) (fun hb11 => ?_)
      · rw [if_pos hb11] at h
        refine Rc.run tb_129 2 (pc' := 40) (ls' := [some (.ref (0)), some (.int (a1)), some (.int (M 1 6)), none]) (st' := [.int (2), .ref (0)]) rfl rfl ?_
        cases hc4 : F_132 (2 : Int32) M3 with
        | none => rw [hc4] at h; cases h
        | some r4 =>
          obtain ⟨c4, M4⟩ := r4
          rw [hc4] at h
          dsimp only at h
          have hq4 := T_132 (X := X) (d := d) (by omega) (M := M3) hc4
          refine Rc.callV tb_129 rfl rfl rfl mS_132 mP_132 mL_132 mO_132 rfl rfl ob_0 rfl rfl hq4 ?_
          obtain rfl := Option.some.inj h
          obtain ⟨rfl, rfl⟩ := hC
          exact Rc.iret (ins := .ireturn) tb_129 rfl mR_129
      · rw [if_neg hb11] at h
        refine Rc.run tb_129 2 (pc' := 46) (ls' := [some (.ref (0)), some (.int (a1)), some (.int (M 1 6)), some (.int (0))]) (st' := []) rfl rfl ?_
        refine Rc.mask (b := 13) ((tb_129.2 46).trans rfl) (ls' := [some (.ref (0)), none, some (.int (M 1 6)), some (.int (0))]) rfl ?_
        cases hl10 : L_129_46 (M 1 6) M3 0 with
        | none => rw [hl10] at h; cases h
        | some rr10 =>
          rw [hl10] at h
          cases rr10 with
          | inl x3_10 =>
            dsimp only at h
            refine TL_129_46 (X := X) (d := d + 1) (by omega) hl10 ?_
            refine Rc.run tb_129 1 (pc' := 89) (ls' := [none, none, none, none]) (st' := [.int (0)]) rfl rfl ?_
            obtain rfl := Option.some.inj h
            obtain ⟨rfl, rfl⟩ := hC
            exact Rc.iret (ins := .ireturn) tb_129 rfl mR_129
          | inr q =>
            dsimp only at h
            refine TL_129_46 (X := X) (d := d + 1) (by omega) hl10 ?_
            obtain rfl := Option.some.inj h
            obtain ⟨rfl, rfl⟩ := hC
            exact ⟨rfl, rfl⟩
theorem T_129 {X : AX} {d : Nat} (hd : 68 ≤ d) {a1 : Int32} {M : IM} {x : Int32} {M1 : IM} (h : F_129 a1 M = some (x, M1)) : Rc X d 129 0 [some (.ref (0)), some (.int (a1)), none, none] [] M (some (.int x)) M1 := TF_129 hd h ⟨rfl, rfl⟩
/-! 182: NineDemandsModel.product -/
def J_182_110_51 (rk : IM → Option (IM)) (s0 : Int32) (M : IM) : Option ((Int32 × IM) ⊕ (Int32 × IM)) := some (Sum.inl (s0, M))
def B_182_51 (rk : IM → Option (IM)) : (Int32 × IM) → Option ((Int32 × IM) ⊕ (Int32 × IM)) := fun (x1, M) => if x1 ≤ 0 then (some (Sum.inr (x1, M))) else (match rk M with | none => none | some M5 => (match F_177 x1 M5 with | none => none | some M6 => (match F_176 (42 : Int32) M6 with | none => none | some (c7, M7) => (if c7 = 0 then (match F_176 (47 : Int32) M7 with | none => none | some (c8, M8) => (if c8 = 0 then (match F_176 (37 : Int32) M8 with | none => none | some (c9, M9) => (if c9 = 0 then (J_182_110_51 rk (0 : Int32) M9) else (J_182_110_51 rk (20009 : Int32) M9))) else (J_182_110_51 rk (20008 : Int32) M8))) else (J_182_110_51 rk (20007 : Int32) M7)))))
def L_182_51 (rk : IM → Option (IM)) (x1 : Int32) (M : IM) : Option (Int32 × IM) := loopN (B_182_51 rk) FU (x1, M)
def J_182_50 (rk : IM → Option (IM)) (s0 : Int32) (M : IM) : Option (IM) := (match L_182_51 rk s0 M with | none => none | some (x1_14, M14) => (some (M14)))
def F_182 (rk : IM → Option (IM)) (M : IM) : Option (IM) := (match rk M with | none => none | some M1 => (match F_176 (42 : Int32) M1 with | none => none | some (c2, M2) => (if c2 = 0 then (match F_176 (47 : Int32) M2 with | none => none | some (c3, M3) => (if c3 = 0 then (match F_176 (37 : Int32) M3 with | none => none | some (c4, M4) => (if c4 = 0 then (J_182_50 rk (0 : Int32) M4) else (J_182_50 rk (20009 : Int32) M4))) else (J_182_50 rk (20008 : Int32) M3))) else (J_182_50 rk (20007 : Int32) M2))))
theorem TJ_182_110_51 (Dk : Nat) (rk : IM → Option (IM)) (Hk : ∀ {X : AX} {d : Nat}, Dk ≤ d → ∀ {M : IM} {M1 : IM}, rk M = some M1 → Rc X d 184 0 [some (.ref (77)), none, none, none] [] M none M1) {X : AX} {d : Nat} (hd : Dk + 2 ≤ d) {s0 : Int32} {M : IM} {v : Option Value} {M' : IM} {o : (Int32 × IM) ⊕ (Int32 × IM)} (h : J_182_110_51 rk s0 M = some o) (hP : ∀ s', o = .inl s' → (fun (x1, M) => Rc X d 182 51 [some (.ref (77)), some (.int (x1))] [] M v M') s') (hE : ∀ r, o = .inr r → (fun (x1, M) => Rc X d 182 114 [none, none] [] M v M') r) : Rc X d 182 110 [some (.ref (77)), none] [.int (s0)] M v M' := by
  obtain ⟨d, rfl⟩ : ∃ e, d = e + 1 := ⟨d - 1, by omega⟩
  unfold J_182_110_51 at h
  dsimp only at hP hE
  refine Rc.run tb_182 2 (pc' := 51) (ls' := [some (.ref (77)), some (.int (s0))]) (st' := []) rfl rfl ?_
  refine Rc.mask (b := 3) ((tb_182.2 51).trans rfl) (ls' := [some (.ref (77)), some (.int (s0))]) rfl ?_
  obtain rfl := Option.some.inj h
  exact hP _ rfl
theorem TB_182_51 (Dk : Nat) (rk : IM → Option (IM)) (Hk : ∀ {X : AX} {d : Nat}, Dk ≤ d → ∀ {M : IM} {M1 : IM}, rk M = some M1 → Rc X d 184 0 [some (.ref (77)), none, none, none] [] M none M1) {X : AX} {d : Nat} (hd : Dk + 2 ≤ d) {v : Option Value} {M' : IM} : ∀ (s : Int32 × IM) (o : (Int32 × IM) ⊕ (Int32 × IM)), B_182_51 rk s = some o → (∀ s', o = .inl s' → (fun (x1, M) => Rc X d 182 51 [some (.ref (77)), some (.int (x1))] [] M v M') s') → (∀ r, o = .inr r → (fun (x1, M) => Rc X d 182 114 [none, none] [] M v M') r) → (fun (x1, M) => Rc X d 182 51 [some (.ref (77)), some (.int (x1))] [] M v M') s := by
  rintro ⟨x1, M⟩ o h hP hE
  show Rc X d 182 51 [some (.ref (77)), some (.int (x1))] [] M v M'
  obtain ⟨d, rfl⟩ : ∃ e, d = e + 1 := ⟨d - 1, by omega⟩
  unfold B_182_51 at h
  dsimp only at h hP hE
  refine Rc.run tb_182 1 (pc' := 52) (ls' := [some (.ref (77)), some (.int (x1))]) (st' := [.int (x1)]) rfl rfl ?_
  refine Rc.if_le (pc1 := 114) tb_182 rfl rfl (by decide) (by decide) (fun hb13 => ?_) (fun hb13 => ?_)
  · rw [if_pos hb13] at h
    refine Rc.mask (b := 0) ((tb_182.2 114).trans rfl) (ls' := [none, none]) rfl ?_
    obtain rfl := Option.some.inj h
    exact hE _ rfl
  · rw [if_neg hb13] at h
    refine Rc.run tb_182 1 (pc' := 56) (ls' := [some (.ref (77)), some (.int (x1))]) (st' := [.ref (77)]) rfl rfl ?_
    cases hc5 : rk M with
    | none => rw [hc5] at h; cases h
    | some M5 =>
      rw [hc5] at h
      dsimp only at h
      have hq5 := Hk (X := X) (d := d) (by omega) (M := M) hc5
      refine Rc.callV tb_182 rfl rfl rfl mS_184 mP_184 mL_184 mO_184 rfl rfl ob_77 rfl rfl hq5 ?_
      refine Rc.run tb_182 2 (pc' := 61) (ls' := [some (.ref (77)), some (.int (x1))]) (st' := [.int (x1), .ref (77)]) rfl rfl ?_
      cases hc6 : F_177 x1 M5 with
      | none => rw [hc6] at h; cases h
      | some M6 =>
        rw [hc6] at h
        dsimp only at h
        have hq6 := T_177 (X := X) (d := d) (by omega) (M := M5) hc6
        refine Rc.callV tb_182 rfl rfl rfl mS_177 mP_177 mL_177 mO_177 rfl rfl ob_77 rfl rfl hq6 ?_
        refine Rc.run tb_182 2 (pc' := 67) (ls' := [some (.ref (77)), some (.int (x1))]) (st' := [.int (42), .ref (77)]) rfl rfl ?_
        cases hc7 : F_176 (42 : Int32) M6 with
        | none => rw [hc7] at h; cases h
        | some r7 =>
          obtain ⟨c7, M7⟩ := r7
          rw [hc7] at h
          dsimp only at h
          have hq7 := T_176 (X := X) (d := d) (by omega) (M := M6) hc7
          have hz7 := Rc.bool mR_176 hq7
          refine Rc.callV tb_182 rfl rfl rfl mS_176 mP_176 mL_176 mO_176 rfl rfl ob_77 rfl rfl hq7 ?_
          refine Rc.if_eq (pc1 := 79) tb_182 rfl rfl (by decide) (by decide) (fun hb12 => ?_) (fun hb12 => ?_)
          · rw [if_pos hb12] at h
            refine Rc.run tb_182 2 (pc' := 82) (ls' := [some (.ref (77)), some (.int (x1))]) (st' := [.int (47), .ref (77)]) rfl rfl ?_
            cases hc8 : F_176 (47 : Int32) M7 with
            | none => rw [hc8] at h; cases h
            | some r8 =>
              obtain ⟨c8, M8⟩ := r8
              rw [hc8] at h
              dsimp only at h
              have hq8 := T_176 (X := X) (d := d) (by omega) (M := M7) hc8
              have hz8 := Rc.bool mR_176 hq8
              refine Rc.callV tb_182 rfl rfl rfl mS_176 mP_176 mL_176 mO_176 rfl rfl ob_77 rfl rfl hq8 ?_
              refine Rc.if_eq (pc1 := 94) tb_182 rfl rfl (by decide) (by decide) (fun hb11 => ?_) (fun hb11 => ?_)
              · rw [if_pos hb11] at h
                refine Rc.run tb_182 2 (pc' := 97) (ls' := [some (.ref (77)), some (.int (x1))]) (st' := [.int (37), .ref (77)]) rfl rfl ?_
                cases hc9 : F_176 (37 : Int32) M8 with
                | none => rw [hc9] at h; cases h
                | some r9 =>
                  obtain ⟨c9, M9⟩ := r9
                  rw [hc9] at h
                  dsimp only at h
                  have hq9 := T_176 (X := X) (d := d) (by omega) (M := M8) hc9
                  have hz9 := Rc.bool mR_176 hq9
                  refine Rc.callV tb_182 rfl rfl rfl mS_176 mP_176 mL_176 mO_176 rfl rfl ob_77 rfl rfl hq9 ?_
                  refine Rc.if_eq (pc1 := 109) tb_182 rfl rfl (by decide) (by decide) (fun hb10 => ?_) (fun hb10 => ?_)
                  · rw [if_pos hb10] at h
                    refine Rc.run tb_182 1 (pc' := 110) (ls' := [some (.ref (77)), some (.int (x1))]) (st' := [.int (0)]) rfl rfl ?_
                    refine Rc.mask (b := 1) ((tb_182.2 110).trans rfl) (ls' := [some (.ref (77)), none]) rfl ?_
                    exact TJ_182_110_51 Dk rk Hk (X := X) (d := d + 1) (by omega) h hP hE
                  · rw [if_neg hb10] at h
                    refine Rc.run tb_182 2 (pc' := 110) (ls' := [some (.ref (77)), some (.int (x1))]) (st' := [.int (20009)]) rfl rfl ?_
                    refine Rc.mask (b := 1) ((tb_182.2 110).trans rfl) (ls' := [some (.ref (77)), none]) rfl ?_
                    exact TJ_182_110_51 Dk rk Hk (X := X) (d := d + 1) (by omega) h hP hE
              · rw [if_neg hb11] at h
                refine Rc.run tb_182 2 (pc' := 110) (ls' := [some (.ref (77)), some (.int (x1))]) (st' := [.int (20008)]) rfl rfl ?_
                refine Rc.mask (b := 1) ((tb_182.2 110).trans rfl) (ls' := [some (.ref (77)), none]) rfl ?_
                exact TJ_182_110_51 Dk rk Hk (X := X) (d := d + 1) (by omega) h hP hE
          · rw [if_neg hb12] at h
            refine Rc.run tb_182 2 (pc' := 110) (ls' := [some (.ref (77)), some (.int (x1))]) (st' := [.int (20007)]) rfl rfl ?_
            refine Rc.mask (b := 1) ((tb_182.2 110).trans rfl) (ls' := [some (.ref (77)), none]) rfl ?_
            exact TJ_182_110_51 Dk rk Hk (X := X) (d := d + 1) (by omega) h hP hE
theorem TL_182_51 (Dk : Nat) (rk : IM → Option (IM)) (Hk : ∀ {X : AX} {d : Nat}, Dk ≤ d → ∀ {M : IM} {M1 : IM}, rk M = some M1 → Rc X d 184 0 [some (.ref (77)), none, none, none] [] M none M1) {X : AX} {d : Nat} (hd : Dk + 2 ≤ d) {x1 : Int32} {M : IM} {v : Option Value} {M' : IM} {r : Int32 × IM} (h : L_182_51 rk x1 M = some r) (hE : (fun (x1, M) => Rc X d 182 114 [none, none] [] M v M') r) : Rc X d 182 51 [some (.ref (77)), some (.int (x1))] [] M v M' := by
  exact loopN_rc (P := fun (x1, M) => Rc X d 182 51 [some (.ref (77)), some (.int (x1))] [] M v M') (E := fun (x1, M) => Rc X d 182 114 [none, none] [] M v M') (TB_182_51 Dk rk Hk (X := X) hd) FU _ r h hE
theorem TJ_182_50 (Dk : Nat) (rk : IM → Option (IM)) (Hk : ∀ {X : AX} {d : Nat}, Dk ≤ d → ∀ {M : IM} {M1 : IM}, rk M = some M1 → Rc X d 184 0 [some (.ref (77)), none, none, none] [] M none M1) {X : AX} {d : Nat} (hd : Dk + 2 ≤ d) {s0 : Int32} {M : IM} {v : Option Value} {M' : IM} {o : IM} (h : J_182_50 rk s0 M = some o) (hC : v = none ∧ M' = o) : Rc X d 182 50 [some (.ref (77)), none] [.int (s0)] M v M' := by
  obtain ⟨d, rfl⟩ : ∃ e, d = e + 1 := ⟨d - 1, by omega⟩
  unfold J_182_50 at h
  refine Rc.run tb_182 1 (pc' := 51) (ls' := [some (.ref (77)), some (.int (s0))]) (st' := []) rfl rfl ?_
  refine Rc.mask (b := 3) ((tb_182.2 51).trans rfl) (ls' := [some (.ref (77)), some (.int (s0))]) rfl ?_
  cases hl14 : L_182_51 rk s0 M with
  | none => rw [hl14] at h; cases h
  | some r14 =>
    obtain ⟨x1_14, M14⟩ := r14
    rw [hl14] at h
    dsimp only at h
    refine TL_182_51 Dk rk Hk (X := X) (d := d + 1) (by omega) hl14 ?_
    obtain rfl := Option.some.inj h
    obtain ⟨rfl, rfl⟩ := hC
    exact Rc.vret tb_182 rfl mR_182
theorem TF_182 (Dk : Nat) (rk : IM → Option (IM)) (Hk : ∀ {X : AX} {d : Nat}, Dk ≤ d → ∀ {M : IM} {M1 : IM}, rk M = some M1 → Rc X d 184 0 [some (.ref (77)), none, none, none] [] M none M1) {X : AX} {d : Nat} (hd : Dk + 2 ≤ d) {M : IM} {v : Option Value} {M' : IM} {o : IM} (h : F_182 rk M = some o) (hC : v = none ∧ M' = o) : Rc X d 182 0 [some (.ref (77)), none] [] M v M' := by
  obtain ⟨d, rfl⟩ : ∃ e, d = e + 1 := ⟨d - 1, by omega⟩
  unfold F_182 at h
  refine Rc.run tb_182 1 (pc' := 1) (ls' := [some (.ref (77)), none]) (st' := [.ref (77)]) rfl rfl ?_
  cases hc1 : rk M with
  | none => rw [hc1] at h; cases h
  | some M1 =>
    rw [hc1] at h
    dsimp only at h
    have hq1 := Hk (X := X) (d := d) (by omega) (M := M) hc1
    refine Rc.callV tb_182 rfl rfl rfl mS_184 mP_184 mL_184 mO_184 rfl rfl ob_77 rfl rfl hq1 ?_
    refine Rc.run tb_182 2 (pc' := 7) (ls' := [some (.ref (77)), none]) (st' := [.int (42), .ref (77)]) rfl rfl ?_
    cases hc2 : F_176 (42 : Int32) M1 with
    | none => rw [hc2] at h; cases h
    | some r2 =>
      obtain ⟨c2, M2⟩ := r2
      rw [hc2] at h
      dsimp only at h
      have hq2 := T_176 (X := X) (d := d) (by omega) (M := M1) hc2
      have hz2 := Rc.bool mR_176 hq2
      refine Rc.callV tb_182 rfl rfl rfl mS_176 mP_176 mL_176 mO_176 rfl rfl ob_77 rfl rfl hq2 ?_
      refine Rc.if_eq (pc1 := 19) tb_182 rfl rfl (by decide) (by decide) (fun hb17 => ?_) (fun hb17 => ?_)
      · rw [if_pos hb17] at h
        refine Rc.run tb_182 2 (pc' := 22) (ls' := [some (.ref (77)), none]) (st' := [.int (47), .ref (77)]) rfl rfl ?_
        cases hc3 : F_176 (47 : Int32) M2 with
        | none => rw [hc3] at h; cases h
        | some r3 =>
          obtain ⟨c3, M3⟩ := r3
          rw [hc3] at h
          dsimp only at h
          have hq3 := T_176 (X := X) (d := d) (by omega) (M := M2) hc3
          have hz3 := Rc.bool mR_176 hq3
          refine Rc.callV tb_182 rfl rfl rfl mS_176 mP_176 mL_176 mO_176 rfl rfl ob_77 rfl rfl hq3 ?_
          refine Rc.if_eq (pc1 := 34) tb_182 rfl rfl (by decide) (by decide) (fun hb16 => ?_) (fun hb16 => ?_)
          · rw [if_pos hb16] at h
            refine Rc.run tb_182 2 (pc' := 37) (ls' := [some (.ref (77)), none]) (st' := [.int (37), .ref (77)]) rfl rfl ?_
            cases hc4 : F_176 (37 : Int32) M3 with
            | none => rw [hc4] at h; cases h
            | some r4 =>
              obtain ⟨c4, M4⟩ := r4
              rw [hc4] at h
              dsimp only at h
              have hq4 := T_176 (X := X) (d := d) (by omega) (M := M3) hc4
              have hz4 := Rc.bool mR_176 hq4
              refine Rc.callV tb_182 rfl rfl rfl mS_176 mP_176 mL_176 mO_176 rfl rfl ob_77 rfl rfl hq4 ?_
              refine Rc.if_eq (pc1 := 49) tb_182 rfl rfl (by decide) (by decide) (fun hb15 => ?_) (fun hb15 => ?_)
              · rw [if_pos hb15] at h
                refine Rc.run tb_182 1 (pc' := 50) (ls' := [some (.ref (77)), none]) (st' := [.int (0)]) rfl rfl ?_
                refine Rc.mask (b := 1) ((tb_182.2 50).trans rfl) (ls' := [some (.ref (77)), none]) rfl ?_
                exact TJ_182_50 Dk rk Hk (X := X) (d := d + 1) (by omega) h hC
              · rw [if_neg hb15] at h
                refine Rc.run tb_182 2 (pc' := 50) (ls' := [some (.ref (77)), none]) (st' := [.int (20009)]) rfl rfl ?_
                refine Rc.mask (b := 1) ((tb_182.2 50).trans rfl) (ls' := [some (.ref (77)), none]) rfl ?_
                exact TJ_182_50 Dk rk Hk (X := X) (d := d + 1) (by omega) h hC
          · rw [if_neg hb16] at h
            refine Rc.run tb_182 2 (pc' := 50) (ls' := [some (.ref (77)), none]) (st' := [.int (20008)]) rfl rfl ?_
            refine Rc.mask (b := 1) ((tb_182.2 50).trans rfl) (ls' := [some (.ref (77)), none]) rfl ?_
            exact TJ_182_50 Dk rk Hk (X := X) (d := d + 1) (by omega) h hC
      · rw [if_neg hb17] at h
        refine Rc.run tb_182 2 (pc' := 50) (ls' := [some (.ref (77)), none]) (st' := [.int (20007)]) rfl rfl ?_
        refine Rc.mask (b := 1) ((tb_182.2 50).trans rfl) (ls' := [some (.ref (77)), none]) rfl ?_
        exact TJ_182_50 Dk rk Hk (X := X) (d := d + 1) (by omega) h hC
theorem T_182 (Dk : Nat) (rk : IM → Option (IM)) (Hk : ∀ {X : AX} {d : Nat}, Dk ≤ d → ∀ {M : IM} {M1 : IM}, rk M = some M1 → Rc X d 184 0 [some (.ref (77)), none, none, none] [] M none M1) {X : AX} {d : Nat} (hd : Dk + 2 ≤ d) {M : IM} {M1 : IM} (h : F_182 rk M = some M1) : Rc X d 182 0 [some (.ref (77)), none] [] M none M1 := TF_182 Dk rk Hk hd h ⟨rfl, rfl⟩
/-! 181: NineDemandsModel.sum -/
def J_181_80_36 (rk : IM → Option (IM)) (s0 : Int32) (M : IM) : Option ((Int32 × IM) ⊕ (Int32 × IM)) := some (Sum.inl (s0, M))
def B_181_36 (rk : IM → Option (IM)) : (Int32 × IM) → Option ((Int32 × IM) ⊕ (Int32 × IM)) := fun (x1, M) => if x1 ≤ 0 then (some (Sum.inr (x1, M))) else (match F_182 rk M with | none => none | some M4 => (match F_177 x1 M4 with | none => none | some M5 => (match F_176 (43 : Int32) M5 with | none => none | some (c6, M6) => (if c6 = 0 then (match F_176 (45 : Int32) M6 with | none => none | some (c7, M7) => (if c7 = 0 then (J_181_80_36 rk (0 : Int32) M7) else (J_181_80_36 rk (20006 : Int32) M7))) else (J_181_80_36 rk (20005 : Int32) M6)))))
def L_181_36 (rk : IM → Option (IM)) (x1 : Int32) (M : IM) : Option (Int32 × IM) := loopN (B_181_36 rk) FU (x1, M)
def J_181_35 (rk : IM → Option (IM)) (s0 : Int32) (M : IM) : Option (IM) := (match L_181_36 rk s0 M with | none => none | some (x1_11, M11) => (some (M11)))
def F_181 (rk : IM → Option (IM)) (M : IM) : Option (IM) := (match F_182 rk M with | none => none | some M1 => (match F_176 (43 : Int32) M1 with | none => none | some (c2, M2) => (if c2 = 0 then (match F_176 (45 : Int32) M2 with | none => none | some (c3, M3) => (if c3 = 0 then (J_181_35 rk (0 : Int32) M3) else (J_181_35 rk (20006 : Int32) M3))) else (J_181_35 rk (20005 : Int32) M2))))
theorem TJ_181_80_36 (Dk : Nat) (rk : IM → Option (IM)) (Hk : ∀ {X : AX} {d : Nat}, Dk ≤ d → ∀ {M : IM} {M1 : IM}, rk M = some M1 → Rc X d 184 0 [some (.ref (77)), none, none, none] [] M none M1) {X : AX} {d : Nat} (hd : Dk + 3 ≤ d) {s0 : Int32} {M : IM} {v : Option Value} {M' : IM} {o : (Int32 × IM) ⊕ (Int32 × IM)} (h : J_181_80_36 rk s0 M = some o) (hP : ∀ s', o = .inl s' → (fun (x1, M) => Rc X d 181 36 [some (.ref (77)), some (.int (x1))] [] M v M') s') (hE : ∀ r, o = .inr r → (fun (x1, M) => Rc X d 181 84 [none, none] [] M v M') r) : Rc X d 181 80 [some (.ref (77)), none] [.int (s0)] M v M' := by
  obtain ⟨d, rfl⟩ : ∃ e, d = e + 1 := ⟨d - 1, by omega⟩
  unfold J_181_80_36 at h
  dsimp only at hP hE
  refine Rc.run tb_181 2 (pc' := 36) (ls' := [some (.ref (77)), some (.int (s0))]) (st' := []) rfl rfl ?_
  refine Rc.mask (b := 3) ((tb_181.2 36).trans rfl) (ls' := [some (.ref (77)), some (.int (s0))]) rfl ?_
  obtain rfl := Option.some.inj h
  exact hP _ rfl
theorem TB_181_36 (Dk : Nat) (rk : IM → Option (IM)) (Hk : ∀ {X : AX} {d : Nat}, Dk ≤ d → ∀ {M : IM} {M1 : IM}, rk M = some M1 → Rc X d 184 0 [some (.ref (77)), none, none, none] [] M none M1) {X : AX} {d : Nat} (hd : Dk + 3 ≤ d) {v : Option Value} {M' : IM} : ∀ (s : Int32 × IM) (o : (Int32 × IM) ⊕ (Int32 × IM)), B_181_36 rk s = some o → (∀ s', o = .inl s' → (fun (x1, M) => Rc X d 181 36 [some (.ref (77)), some (.int (x1))] [] M v M') s') → (∀ r, o = .inr r → (fun (x1, M) => Rc X d 181 84 [none, none] [] M v M') r) → (fun (x1, M) => Rc X d 181 36 [some (.ref (77)), some (.int (x1))] [] M v M') s := by
  rintro ⟨x1, M⟩ o h hP hE
  show Rc X d 181 36 [some (.ref (77)), some (.int (x1))] [] M v M'
  obtain ⟨d, rfl⟩ : ∃ e, d = e + 1 := ⟨d - 1, by omega⟩
  unfold B_181_36 at h
  dsimp only at h hP hE
  refine Rc.run tb_181 1 (pc' := 37) (ls' := [some (.ref (77)), some (.int (x1))]) (st' := [.int (x1)]) rfl rfl ?_
  refine Rc.if_le (pc1 := 84) tb_181 rfl rfl (by decide) (by decide) (fun hb10 => ?_) (fun hb10 => ?_)
  · rw [if_pos hb10] at h
    refine Rc.mask (b := 0) ((tb_181.2 84).trans rfl) (ls' := [none, none]) rfl ?_
    obtain rfl := Option.some.inj h
    exact hE _ rfl
  · rw [if_neg hb10] at h
    refine Rc.run tb_181 1 (pc' := 41) (ls' := [some (.ref (77)), some (.int (x1))]) (st' := [.ref (77)]) rfl rfl ?_
    cases hc4 : F_182 rk M with
    | none => rw [hc4] at h; cases h
    | some M4 =>
      rw [hc4] at h
      dsimp only at h
      have hq4 := T_182 Dk rk Hk (X := X) (d := d) (by omega) (M := M) hc4
      refine Rc.callV tb_181 rfl rfl rfl mS_182 mP_182 mL_182 mO_182 rfl rfl ob_77 rfl rfl hq4 ?_
      refine Rc.run tb_181 2 (pc' := 46) (ls' := [some (.ref (77)), some (.int (x1))]) (st' := [.int (x1), .ref (77)]) rfl rfl ?_
      cases hc5 : F_177 x1 M4 with
      | none => rw [hc5] at h; cases h
      | some M5 =>
        rw [hc5] at h
        dsimp only at h
        have hq5 := T_177 (X := X) (d := d) (by omega) (M := M4) hc5
        refine Rc.callV tb_181 rfl rfl rfl mS_177 mP_177 mL_177 mO_177 rfl rfl ob_77 rfl rfl hq5 ?_
        refine Rc.run tb_181 2 (pc' := 52) (ls' := [some (.ref (77)), some (.int (x1))]) (st' := [.int (43), .ref (77)]) rfl rfl ?_
        cases hc6 : F_176 (43 : Int32) M5 with
        | none => rw [hc6] at h; cases h
        | some r6 =>
          obtain ⟨c6, M6⟩ := r6
          rw [hc6] at h
          dsimp only at h
          have hq6 := T_176 (X := X) (d := d) (by omega) (M := M5) hc6
          have hz6 := Rc.bool mR_176 hq6
          refine Rc.callV tb_181 rfl rfl rfl mS_176 mP_176 mL_176 mO_176 rfl rfl ob_77 rfl rfl hq6 ?_
          refine Rc.if_eq (pc1 := 64) tb_181 rfl rfl (by decide) (by decide) (fun hb9 => ?_) (fun hb9 => ?_)
          · rw [if_pos hb9] at h
            refine Rc.run tb_181 2 (pc' := 67) (ls' := [some (.ref (77)), some (.int (x1))]) (st' := [.int (45), .ref (77)]) rfl rfl ?_
            cases hc7 : F_176 (45 : Int32) M6 with
            | none => rw [hc7] at h; cases h
            | some r7 =>
              obtain ⟨c7, M7⟩ := r7
              rw [hc7] at h
              dsimp only at h
              have hq7 := T_176 (X := X) (d := d) (by omega) (M := M6) hc7
              have hz7 := Rc.bool mR_176 hq7
              refine Rc.callV tb_181 rfl rfl rfl mS_176 mP_176 mL_176 mO_176 rfl rfl ob_77 rfl rfl hq7 ?_
              refine Rc.if_eq (pc1 := 79) tb_181 rfl rfl (by decide) (by decide) (fun hb8 => ?_) (fun hb8 => ?_)
              · rw [if_pos hb8] at h
                refine Rc.run tb_181 1 (pc' := 80) (ls' := [some (.ref (77)), some (.int (x1))]) (st' := [.int (0)]) rfl rfl ?_
                refine Rc.mask (b := 1) ((tb_181.2 80).trans rfl) (ls' := [some (.ref (77)), none]) rfl ?_
                exact TJ_181_80_36 Dk rk Hk (X := X) (d := d + 1) (by omega) h hP hE
              · rw [if_neg hb8] at h
                refine Rc.run tb_181 2 (pc' := 80) (ls' := [some (.ref (77)), some (.int (x1))]) (st' := [.int (20006)]) rfl rfl ?_
                refine Rc.mask (b := 1) ((tb_181.2 80).trans rfl) (ls' := [some (.ref (77)), none]) rfl ?_
                exact TJ_181_80_36 Dk rk Hk (X := X) (d := d + 1) (by omega) h hP hE
          · rw [if_neg hb9] at h
            refine Rc.run tb_181 2 (pc' := 80) (ls' := [some (.ref (77)), some (.int (x1))]) (st' := [.int (20005)]) rfl rfl ?_
            refine Rc.mask (b := 1) ((tb_181.2 80).trans rfl) (ls' := [some (.ref (77)), none]) rfl ?_
            exact TJ_181_80_36 Dk rk Hk (X := X) (d := d + 1) (by omega) h hP hE
theorem TL_181_36 (Dk : Nat) (rk : IM → Option (IM)) (Hk : ∀ {X : AX} {d : Nat}, Dk ≤ d → ∀ {M : IM} {M1 : IM}, rk M = some M1 → Rc X d 184 0 [some (.ref (77)), none, none, none] [] M none M1) {X : AX} {d : Nat} (hd : Dk + 3 ≤ d) {x1 : Int32} {M : IM} {v : Option Value} {M' : IM} {r : Int32 × IM} (h : L_181_36 rk x1 M = some r) (hE : (fun (x1, M) => Rc X d 181 84 [none, none] [] M v M') r) : Rc X d 181 36 [some (.ref (77)), some (.int (x1))] [] M v M' := by
  exact loopN_rc (P := fun (x1, M) => Rc X d 181 36 [some (.ref (77)), some (.int (x1))] [] M v M') (E := fun (x1, M) => Rc X d 181 84 [none, none] [] M v M') (TB_181_36 Dk rk Hk (X := X) hd) FU _ r h hE
theorem TJ_181_35 (Dk : Nat) (rk : IM → Option (IM)) (Hk : ∀ {X : AX} {d : Nat}, Dk ≤ d → ∀ {M : IM} {M1 : IM}, rk M = some M1 → Rc X d 184 0 [some (.ref (77)), none, none, none] [] M none M1) {X : AX} {d : Nat} (hd : Dk + 3 ≤ d) {s0 : Int32} {M : IM} {v : Option Value} {M' : IM} {o : IM} (h : J_181_35 rk s0 M = some o) (hC : v = none ∧ M' = o) : Rc X d 181 35 [some (.ref (77)), none] [.int (s0)] M v M' := by
  obtain ⟨d, rfl⟩ : ∃ e, d = e + 1 := ⟨d - 1, by omega⟩
  unfold J_181_35 at h
  refine Rc.run tb_181 1 (pc' := 36) (ls' := [some (.ref (77)), some (.int (s0))]) (st' := []) rfl rfl ?_
  refine Rc.mask (b := 3) ((tb_181.2 36).trans rfl) (ls' := [some (.ref (77)), some (.int (s0))]) rfl ?_
  cases hl11 : L_181_36 rk s0 M with
  | none => rw [hl11] at h; cases h
  | some r11 =>
    obtain ⟨x1_11, M11⟩ := r11
    rw [hl11] at h
    dsimp only at h
    refine TL_181_36 Dk rk Hk (X := X) (d := d + 1) (by omega) hl11 ?_
    obtain rfl := Option.some.inj h
    obtain ⟨rfl, rfl⟩ := hC
    exact Rc.vret tb_181 rfl mR_181
theorem TF_181 (Dk : Nat) (rk : IM → Option (IM)) (Hk : ∀ {X : AX} {d : Nat}, Dk ≤ d → ∀ {M : IM} {M1 : IM}, rk M = some M1 → Rc X d 184 0 [some (.ref (77)), none, none, none] [] M none M1) {X : AX} {d : Nat} (hd : Dk + 3 ≤ d) {M : IM} {v : Option Value} {M' : IM} {o : IM} (h : F_181 rk M = some o) (hC : v = none ∧ M' = o) : Rc X d 181 0 [some (.ref (77)), none] [] M v M' := by
  obtain ⟨d, rfl⟩ : ∃ e, d = e + 1 := ⟨d - 1, by omega⟩
  unfold F_181 at h
  refine Rc.run tb_181 1 (pc' := 1) (ls' := [some (.ref (77)), none]) (st' := [.ref (77)]) rfl rfl ?_
  cases hc1 : F_182 rk M with
  | none => rw [hc1] at h; cases h
  | some M1 =>
    rw [hc1] at h
    dsimp only at h
    have hq1 := T_182 Dk rk Hk (X := X) (d := d) (by omega) (M := M) hc1
    refine Rc.callV tb_181 rfl rfl rfl mS_182 mP_182 mL_182 mO_182 rfl rfl ob_77 rfl rfl hq1 ?_
    refine Rc.run tb_181 2 (pc' := 7) (ls' := [some (.ref (77)), none]) (st' := [.int (43), .ref (77)]) rfl rfl ?_
    cases hc2 : F_176 (43 : Int32) M1 with
    | none => rw [hc2] at h; cases h
    | some r2 =>
      obtain ⟨c2, M2⟩ := r2
      rw [hc2] at h
      dsimp only at h
      have hq2 := T_176 (X := X) (d := d) (by omega) (M := M1) hc2
      have hz2 := Rc.bool mR_176 hq2
      refine Rc.callV tb_181 rfl rfl rfl mS_176 mP_176 mL_176 mO_176 rfl rfl ob_77 rfl rfl hq2 ?_
      refine Rc.if_eq (pc1 := 19) tb_181 rfl rfl (by decide) (by decide) (fun hb13 => ?_) (fun hb13 => ?_)
      · rw [if_pos hb13] at h
        refine Rc.run tb_181 2 (pc' := 22) (ls' := [some (.ref (77)), none]) (st' := [.int (45), .ref (77)]) rfl rfl ?_
        cases hc3 : F_176 (45 : Int32) M2 with
        | none => rw [hc3] at h; cases h
        | some r3 =>
          obtain ⟨c3, M3⟩ := r3
          rw [hc3] at h
          dsimp only at h
          have hq3 := T_176 (X := X) (d := d) (by omega) (M := M2) hc3
          have hz3 := Rc.bool mR_176 hq3
          refine Rc.callV tb_181 rfl rfl rfl mS_176 mP_176 mL_176 mO_176 rfl rfl ob_77 rfl rfl hq3 ?_
          refine Rc.if_eq (pc1 := 34) tb_181 rfl rfl (by decide) (by decide) (fun hb12 => ?_) (fun hb12 => ?_)
          · rw [if_pos hb12] at h
            refine Rc.run tb_181 1 (pc' := 35) (ls' := [some (.ref (77)), none]) (st' := [.int (0)]) rfl rfl ?_
            refine Rc.mask (b := 1) ((tb_181.2 35).trans rfl) (ls' := [some (.ref (77)), none]) rfl ?_
            exact TJ_181_35 Dk rk Hk (X := X) (d := d + 1) (by omega) h hC
          · rw [if_neg hb12] at h
            refine Rc.run tb_181 2 (pc' := 35) (ls' := [some (.ref (77)), none]) (st' := [.int (20006)]) rfl rfl ?_
            refine Rc.mask (b := 1) ((tb_181.2 35).trans rfl) (ls' := [some (.ref (77)), none]) rfl ?_
            exact TJ_181_35 Dk rk Hk (X := X) (d := d + 1) (by omega) h hC
      · rw [if_neg hb13] at h
        refine Rc.run tb_181 2 (pc' := 35) (ls' := [some (.ref (77)), none]) (st' := [.int (20005)]) rfl rfl ?_
        refine Rc.mask (b := 1) ((tb_181.2 35).trans rfl) (ls' := [some (.ref (77)), none]) rfl ?_
        exact TJ_181_35 Dk rk Hk (X := X) (d := d + 1) (by omega) h hC
theorem T_181 (Dk : Nat) (rk : IM → Option (IM)) (Hk : ∀ {X : AX} {d : Nat}, Dk ≤ d → ∀ {M : IM} {M1 : IM}, rk M = some M1 → Rc X d 184 0 [some (.ref (77)), none, none, none] [] M none M1) {X : AX} {d : Nat} (hd : Dk + 3 ≤ d) {M : IM} {M1 : IM} (h : F_181 rk M = some M1) : Rc X d 181 0 [some (.ref (77)), none] [] M none M1 := TF_181 Dk rk Hk hd h ⟨rfl, rfl⟩
