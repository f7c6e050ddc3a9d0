/-! calls of the JDK; the walk by induction -/
theorem w_oi : Cond.instanceMethod objectInit ∈ lwU := tw_in (k := 23) (by decide +kernel)
theorem w_oc : Cond.code objectInit ⟨#[0xb1]⟩ 1 none ∈ lwU := tw_in (k := 24) (by decide +kernel)
theorem w_an : Cond.native arraycopyName ∈ lwU := tw_in (k := 371) (by decide +kernel)
theorem w_as : Cond.static arraycopyName ∈ lwU := tw_in (k := 370) (by decide +kernel)
theorem w_ai : Cond.initialized "java/lang/System" ∈ lwU := tw_in (k := 15) (by decide +kernel)
theorem w_mi : Cond.initialized "java/lang/Math" ∈ lwU := tw_in (k := 14) (by decide +kernel)
theorem w_xs : Cond.static Lib.Math.max.name ∈ lwU := tw_in (k := 1347) (by decide +kernel)
theorem w_xc : Cond.code Lib.Math.max.name Lib.Math.max.code 2 (some .int) ∈ lwU := tw_in (k := 1348) (by decide +kernel)
theorem w_ns : Cond.static Lib.Math.min.name ∈ lwU := tw_in (k := 367) (by decide +kernel)
theorem w_nc : Cond.code Lib.Math.min.name Lib.Math.min.code 2 (some .int) ∈ lwU := tw_in (k := 368) (by decide +kernel)
theorem bif_if {α : Type} {q : Prop} [Decidable q] (a b : α) : (bif decide q then a else b) = if q then a else b := by
  by_cases h : q <;> simp [h]
section WALK2
variable {p : Program} {l : Launch} {e : Env} {R : Room} {s : State} {m : MethodId} {args : Array Value} {below : List Frame} {meth : Method} {c : Code} {Q : State → Prop} {K : WK} {X : AX} {i n0 : Nat}
variable {pc pc' n n' : Nat} {ls ls' : AL} {st st' : List Value} {μ μ' : AM}
theorem so_objinit (C : Cx p s m args meth c i) {ix k : Nat} (hfr : 1 ≤ R.frames) (hlo : 40 ≤ R.locals) (har : arest st = true) (hl : Cond.methodLink (cN (mO i)) ix objectInit ∈ lwU) (hd : decode (mB i) pc = .ok (.invokespecial ix, 3)) (h : AW K X p l e R s m args below meth c i n0 Q (pc + 3) ls st n μ) : AW K X p l e R s m args below meth c i n0 Q pc ls (.ref k :: st) n μ := fun h0 LS H locs hL hW hS => by
  have hr := arest_room (ad := kad K) har
  exact W.objInit C.1 C.2.1 C.2.2.2.2.1 (C.2.2.2.2.2.1 _ hl) (C.2.2.2.2.2.1 _ w_oi) (C.2.2.2.2.2.1 _ w_oc) rfl (hL.size.trans C.2.2.2.1.symm) rfl hd hfr (by show 2 * 0 + _ + 12 ≤ _; omega) (h h0 LS H locs hL hW hS)
theorem so_max (C : Cx p s m args meth c i) {ix N1 : Nat} {x y : Int32} (hN : n ≤ N1) (hR : N1 - n0 ≤ R.cells ∧ tot N1 - tot n0 ≤ R.slots) (hfr : 1 ≤ R.frames) (hlo : 40 ≤ R.locals) (har : arest st = true) (hl : Cond.methodLink (cN (mO i)) ix Lib.Math.max.name ∈ lwU) (hd : decode (mB i) pc = .ok (.invokestatic ix, 3)) (h : AW K X p l e R s m args below meth c i n0 Q (pc + 3) ls (.int (bif decide (x < y) then y else x) :: st) n μ) : AW K X p l e R s m args below meth c i n0 Q pc ls (.int y :: .int x :: st) n μ := fun h0 LS H locs hL hW hS => by
  have hr := arest_room (ad := kad K) har
  have ht := tot_mono hN
  have hw := h h0 LS H locs hL hW hS
  rw [bif_if] at hw
  exact va_mmax C.1 C.2.1 (C.2.2.2.1.trans hL.size.symm) C.2.2.2.2.1 (C.2.2.2.2.2.1 _ hl) (C.2.2.2.2.2.1 _ w_xs) (C.2.2.2.2.2.1 _ w_mi) (C.2.2.2.2.2.1 _ w_xc) hfr (by omega) (by omega) (by omega) hd hw
theorem so_min (C : Cx p s m args meth c i) {ix N1 : Nat} {x y : Int32} (hN : n ≤ N1) (hR : N1 - n0 ≤ R.cells ∧ tot N1 - tot n0 ≤ R.slots) (hfr : 1 ≤ R.frames) (hlo : 40 ≤ R.locals) (har : arest st = true) (hl : Cond.methodLink (cN (mO i)) ix Lib.Math.min.name ∈ lwU) (hd : decode (mB i) pc = .ok (.invokestatic ix, 3)) (h : AW K X p l e R s m args below meth c i n0 Q (pc + 3) ls (.int (bif decide (y < x) then y else x) :: st) n μ) : AW K X p l e R s m args below meth c i n0 Q pc ls (.int y :: .int x :: st) n μ := fun h0 LS H locs hL hW hS => by
  have hr := arest_room (ad := kad K) har
  have ht := tot_mono hN
  have hw := h h0 LS H locs hL hW hS
  rw [bif_if] at hw
  exact va_mmin C.1 C.2.1 (C.2.2.2.1.trans hL.size.symm) C.2.2.2.2.1 (C.2.2.2.2.2.1 _ hl) (C.2.2.2.2.2.1 _ w_ns) (C.2.2.2.2.2.1 _ w_mi) (C.2.2.2.2.2.1 _ w_nc) hfr (by omega) (by omega) (by omega) hd hw
theorem so_copy (C : Cx p s m args meth c i) {ix sk dk L : Nat} {m' dp sp : Int32} (hfr : 1 ≤ R.frames) (hlo : 40 ≤ R.locals) (har : arest st = true) (hl : Cond.methodLink (cN (mO i)) ix arraycopyName ∈ lwU) (hsk : sk < 999) (hial : ial X n sk = some L) (hdk : dk < n) (hdk9 : dk < 999) (hkd : kd dk = 0) (h3 : ¬ m' < 0) (h1 : ¬ sp < 0) (h2 : ¬ dp < 0) (h4 : sp.toNatClampNeg + m'.toNatClampNeg ≤ L) (h5 : dp.toNatClampNeg + m'.toNatClampNeg ≤ ln dk) (hd : decode (mB i) pc = .ok (.invokestatic ix, 3)) (h : AW K X p l e R s m args below meth c i n0 Q (pc + 3) ls st n (acpy μ X sk sp.toNatClampNeg dk dp.toNatClampNeg m'.toNatClampNeg)) : AW K X p l e R s m args below meth c i n0 Q pc ls (.int m' :: .int dp :: .ref dk :: .int sp :: .ref sk :: st) n μ := fun h0 LS H locs hL hW hS => by
  have hr := arest_room (ad := kad K) har
  have hb9 : Nat.blt sk 999 = true := Nat.blt_eq.mpr hsk
  have hi0 := hial
  unfold ial at hi0
  rw [hb9, cond_true] at hi0
  cases hg : (Nat.blt sk n && Nat.beq (kd sk) 0) with
  | false => rw [hg] at hi0; cases hi0
  | true =>
    rw [hg, cond_true] at hi0
    have hLn := Option.some.inj hi0
    subst hLn
    obtain ⟨g1, g2⟩ := Bool.and_eq_true_iff.mp hg
    have hsn : sk < n := Nat.blt_eq.mp g1
    have hks : kd sk = 0 := Nat.eq_of_beq_eq_true g2
    have hc0 := (cellOK.ints hks).mp (hW.2.2.1 sk hsn)
    have hc1 := (cellOK.ints hkd).mp (hW.2.2.1 dk hdk)
    have nn : ∀ z : Int32, ¬ z < 0 → z.toInt = (z.toNatClampNeg : Int) := by
      intro z hz
      have hz0 : (0 : Int) ≤ z.toInt := by
        have := Int32.not_lt.mp hz
        simpa using Int32.le_iff_toInt_le.mp this
      show z.toInt = ((z.toInt.toNat : Nat) : Int)
      omega
    intro T hT X0
    have hAr := (hW.2.2.2.1.2 0 (wI K, .int) rfl).1
    obtain ⟨-, k0, hk0, cm0, hkk0⟩ := hAr (ln sk) (fun j => .int (toI (μ sk j)))
    obtain ⟨-, k1, hk1, cm1, hkk1⟩ := hAr (ln dk) (fun j => .int (toI (μ dk j)))
    obtain ⟨vm', X', step⟩ := X0.arraycopy C.1 C.2.2.2.2.1 (C.2.2.2.2.2.1 _ hl) (C.2.2.2.2.2.1 _ w_an) (C.2.2.2.2.2.1 _ w_as) (C.2.2.2.2.2.1 _ w_ai) (src := kad K sk) (dst := kad K dk) (srcPos := sp) (destPos := dp) (n := m') (by rw [hT]; exact hc0) (by rw [hT]; exact hc1)
      (fun _ h => by cases h) (fun _ h => by cases h) (fun h => by cases h) (fun h => by cases h) hk0 hk1 hkk0 hkk1 rfl h1 h2 h3
      (by rw [nn sp h1, nn m' h3, arrV_size]; omega) (by rw [nn dp h2, nn m' h3, arrV_size]; omega)
      (fun vm₁ _ q hq => by
        have e : (arrV (wI K) (ln sk) (fun j => .int (toI (μ sk j)))).slots.getD (sp.toNatClampNeg + q) .null = .int (toI (μ sk (sp.toNatClampNeg + q))) := by
          rw [Array.getD_eq_getD_getElem?, arrV_read _ _ (by omega)]
          rfl
        rw [e]
        exact ⟨rfl, trivial⟩)
      (g := F0 m pc LS (.int m' :: .int dp :: .ref (kad K dk) :: .int sp :: .ref (kad K sk) :: st.map (cv (kad K)))) rfl (hL.size.trans C.2.2.2.1.symm) (rest := st.map (cv (kad K))) rfl (by rw [C.2.1]; exact hd) hfr (by show 2 * 0 + _ + (7 + 11) ≤ _; omega)
    have e1 : copied (arrV (wI K) (ln sk) (fun j => .int (toI (μ sk j)))) (arrV (wI K) (ln dk) (fun j => .int (toI (μ dk j)))) sp dp m' = arrV (wI K) (ln dk) (fun j => .int (va_cpy (fun j => toI (μ sk j)) (fun j => toI (μ dk j)) sp.toNatClampNeg dp.toNatClampNeg m'.toNatClampNeg j)) := va_copied (fun z => .int z) (wI K) (wI K) (fun j => toI (μ sk j)) (fun j => toI (μ dk j)) h4
    rw [e1] at X' step
    have hlt : kad K dk < H.size := (Array.getElem?_eq_some_iff.mp hc1).1
    generalize hc2 : arrV (wI K) (ln dk) (fun j => Value.int (va_cpy (fun j => toI (μ sk j)) (fun j => toI (μ dk j)) sp.toNatClampNeg dp.toNatClampNeg m'.toNatClampNeg j)) = cell2 at X' step
    have hheap : ((T.setVm vm').setCell (kad K dk) cell2).heap = H.setIfInBounds (kad K dk) cell2 := by rw [← hT]; rfl
    have oq : ∀ q : Nat, q ≠ kad K dk → (H.setIfInBounds (kad K dk) cell2)[q]? = H[q]? := fun q hq => by simp [Array.getElem?_setIfInBounds, Ne.symm hq]
    have hAk : wA K (kad K dk) := by show wsz K ≤ kad K dk; rw [kad_lt hdk9]; omega
    have hfin : (H.setIfInBounds (kad K dk) cell2)[kad K dk]? = some (arrV (wI K) (ln dk) (fun j => .int (toI (acpy μ X sk sp.toNatClampNeg dk dp.toNatClampNeg m'.toNatClampNeg dk j)))) := by
      rw [show (H.setIfInBounds (kad K dk) cell2)[kad K dk]? = some cell2 by simp [Array.getElem?_setIfInBounds, hlt], ← hc2]
      congr 2
      funext j
      unfold acpy va_cpy ird
      rw [hb9]
      by_cases hj : dp.toNatClampNeg ≤ j ∧ j < dp.toNatClampNeg + m'.toNatClampNeg
      · rw [if_pos hj, Nat.ble_eq.mpr hj.1, Nat.blt_eq.mpr hj.2]
        simp [toI]
      · rw [if_neg hj]
        have : (Nat.beq dk dk && Nat.ble dp.toNatClampNeg j && Nat.blt j (dp.toNatClampNeg + m'.toNatClampNeg)) = false := by
          cases hz : (Nat.beq dk dk && Nat.ble dp.toNatClampNeg j && Nat.blt j (dp.toNatClampNeg + m'.toNatClampNeg)) with
          | false => rfl
          | true =>
            simp only [Bool.and_eq_true] at hz
            exact absurd ⟨Nat.le_of_ble_eq_true hz.1.2, Nat.blt_eq.mp hz.2⟩ hj
        rw [this]
        rfl
    obtain ⟨t, a1, b1⟩ := h h0 LS (H.setIfInBounds (kad K dk) cell2) _ hL (hW.wrote hdk (by simp) oq (fun k' j hk' => by unfold acpy; rw [beqf hk']; rfl) ((cellOK.ints hkd).mpr hfin)) ⟨by simp; exact hS.1, fun q g1 g2 => by
        rw [oq q (fun e => g2 (by rw [e]; exact hAk))]
        exact hS.2.1 q g1 g2, fun q hq => by
        rcases List.mem_append.mp hq with h | h
        · exact hS.2.2 q h
        · obtain ⟨z, -, hz⟩ := List.mem_map.mp h
          rw [← hz]
          exact hAk⟩ _ hheap X'
    exact ⟨t, step t a1, b1⟩
theorem mlk_spec {ix a b : Nat} (hq : lkh MLk (mO i) ix a b = true) : (a = 1000 → Cond.methodLink (cN (mO i)) ix objectInit ∈ lwU) ∧ (a = 1001 → Cond.methodLink (cN (mO i)) ix arraycopyName ∈ lwU) ∧ (a = 1002 → Cond.methodLink (cN (mO i)) ix Lib.Math.max.name ∈ lwU) ∧ (a = 1003 → Cond.methodLink (cN (mO i)) ix Lib.Math.min.name ∈ lwU) ∧ (a ≠ 1000 → a ≠ 1001 → a ≠ 1002 → a ≠ 1003 → a < 258) := by
  obtain ⟨w, hw⟩ := lkh_spec hq
  have h1 := MLk_ok _ hw
  dsimp only at h1
  refine ⟨fun e => ?_, fun e => ?_, fun e => ?_, fun e => ?_, fun e0 e1 e2 e3 => ?_⟩
  · subst e; exact tw_in h1
  · subst e; exact tw_in h1
  · subst e; exact tw_in h1
  · subst e; exact tw_in h1
  · rw [beqf e0, beqf e1, beqf e2, beqf e3] at h1
    simp only [cond_false, Bool.and_eq_true] at h1
    exact Nat.blt_eq.mp h1.1
theorem amask_spec : ∀ (ls : AL) (b : Nat), (amask b ls).length = ls.length ∧ ∀ (i : Nat) (v : Value), (amask b ls).getD i none = some v → ls.getD i none = some v := by
  intro ls
  induction ls with
  | nil => intro b; exact ⟨rfl, fun i v h => h⟩
  | cons x r ih =>
    intro b
    obtain ⟨h1, h2⟩ := ih (b / 2)
    refine ⟨by simp [amask, h1], fun i v h => ?_⟩
    cases i with
    | zero =>
      simp only [amask] at h
      cases hb : Nat.beq (b % 2) 1 with
      | true => rw [hb] at h; simpa using h
      | false => rw [hb] at h; simp at h
    | succ i =>
      have := h2 i v (by simpa [amask] using h)
      simpa using this
theorem LR.mask {nL : Nat} {LS : Array Slot} (h : LR K nL LS ls) : LR K nL LS (amk i pc ls) := by
  unfold amk
  split
  · exact h
  · obtain ⟨h0, lv, h1, h2⟩ := h
    obtain ⟨g1, g2⟩ := amask_spec ls _
    exact ⟨g1.trans h0, lv, h1, fun j v hv => h2 j v (g2 j v hv)⟩
set_option maxHeartbeats 4000000 in
theorem walk (K : WK) (X : AX) (l : Launch) : ∀ (f d i pc : Nat) (ls : AL) (st : List Value) (n : Nat) (μ : AM) (v : Option Value) (N1 : Nat) (μ1 : AM), ax X f d i pc ls st n μ = some (v, N1, μ1) → n ≤ N1 ∧ v.toList.map (cv (kad K)) = v.toList ∧ Wk K X l d i v N1 μ1 pc ls st n μ := by
  intro f
  induction f with
  | zero => intro d i pc ls st n μ v N1 μ1 h; cases h
  | succ f ih =>
    intro d i pc ls st n μ v N1 μ1 h
    unfold ax axB at h
    split at h
    · cases h
    · rename_i ins len a b hit
      suffices hsf : n ≤ N1 ∧ v.toList.map (cv (kad K)) = v.toList ∧ Wk K X l d i v N1 μ1 pc (amk i pc ls) st n μ from ⟨hsf.1, hsf.2.1, fun p e R s m args below meth c Q n0 C hd hl hR hret h0 LS H locs hL hW hS => hsf.2.2 p e R s m args below meth c Q n0 C hd hl hR hret h0 LS H locs hL.mask hW hS⟩
      generalize amk i pc ls = ls at h ⊢
      cases he : isend ins with
      | true =>
        rw [he, cond_true] at h
        split at h
        · rename_i v' hv'
          cases h
          exact ⟨Nat.le_refl _, aend_plain hv', fun p e R s m args below meth c Q n0 C hd hl hR hret h0 LS H locs hL hW hS => hret pc ins len a b st hit hv' LS H locs hW hS⟩
        · cases h
      | false =>
        rw [he, cond_false] at h
        cases hc : Nat.beq (acall ins) 0 with
        | true =>
          rw [hc, cond_true] at h
          split at h
          · rename_i pc' ls' st' n' μ' hs
            obtain ⟨i1, i2, i3⟩ := ih d i pc' ls' st' n' μ' v N1 μ1 h
            exact ⟨Nat.le_trans (astep_mono hs) i1, i2, fun p e R s m args below meth c Q n0 C hd hl hR hret => step_ok C i1 hR hit hs (i3 p e R s m args below meth c Q n0 C hd hl hR hret)⟩
          · cases h
        | false =>
          rw [hc, cond_false] at h
          obtain ⟨hd0, hkl⟩ := it_spec hit
          cases h1000 : Nat.beq a 1000 with
          | true =>
            rw [h1000, cond_true] at h
            have ea := Nat.eq_of_beq_eq_true h1000
            split at h
            · rename_i k r
              generalize hg : (Nat.beq (acall ins) 3 && Nat.blt 0 d && arest r) = g at h
              cases g with
              | false => cases h
              | true =>
                simp only [cond_true] at h
                simp only [Bool.and_eq_true] at hg
                obtain ⟨⟨g1, g2⟩, g3⟩ := hg
                obtain ⟨i1, i2, i3⟩ := ih d i (pc + 3) ls r n μ v N1 μ1 h
                have g2 : 0 < d := Nat.blt_eq.mp g2
                refine ⟨i1, i2, fun p e R s m args below meth c Q n0 C hd hl hR hret => ?_⟩
                cases ins <;> first | (simp [acall] at g1; done) | skip
                exact so_objinit C (by omega) (by omega) g3 ((mlk_spec hkl).1 ea) hd0 (i3 p e R s m args below meth c Q n0 C hd hl hR hret)
            · cases h
          | false =>
            rw [h1000, cond_false] at h
            cases h1001 : Nat.beq a 1001 with
            | true =>
              rw [h1001, cond_true] at h
              have ea := Nat.eq_of_beq_eq_true h1001
              split at h
              · rename_i m' dp dk sp sk r
                split at h
                · rename_i L hial
                  generalize hg : (Nat.beq (acall ins) 2 && Nat.blt 0 d && arest r && Nat.blt dk 999 && Nat.blt sk 999 && Nat.blt dk n && Nat.beq (kd dk) 0 && !(decide (m' < 0)) && !(decide (sp < 0)) && !(decide (dp < 0)) && Nat.ble (sp.toNatClampNeg + m'.toNatClampNeg) L && Nat.ble (dp.toNatClampNeg + m'.toNatClampNeg) (ln dk)) = g at h
                  cases g with
                  | false => cases h
                  | true =>
                    simp only [cond_true] at h
                    simp only [Bool.and_eq_true, Bool.not_eq_true', decide_eq_false_iff_not] at hg
                    obtain ⟨⟨⟨⟨⟨⟨⟨⟨⟨⟨⟨g1, g2⟩, g3⟩, g4⟩, g5⟩, g6⟩, g7⟩, g8⟩, g9⟩, g10⟩, g11⟩, g12⟩ := hg
                    obtain ⟨i1, i2, i3⟩ := ih d i (pc + 3) ls r n _ v N1 μ1 h
                    have g2 : 0 < d := Nat.blt_eq.mp g2
                    refine ⟨i1, i2, fun p e R s m args below meth c Q n0 C hd hl hR hret => ?_⟩
                    cases ins <;> first | (simp [acall] at g1; done) | skip
                    exact so_copy C (by omega) (by omega) g3 ((mlk_spec hkl).2.1 ea) (Nat.blt_eq.mp g5) hial (Nat.blt_eq.mp g6) (Nat.blt_eq.mp g4) (Nat.eq_of_beq_eq_true g7) g8 g9 g10 (Nat.le_of_ble_eq_true g11) (Nat.le_of_ble_eq_true g12) hd0 (i3 p e R s m args below meth c Q n0 C hd hl hR hret)
                · cases h
              · cases h
            | false =>
              rw [h1001, cond_false] at h
              cases h1002 : Nat.beq a 1002 with
              | true =>
                rw [h1002, cond_true] at h
                have ea := Nat.eq_of_beq_eq_true h1002
                split at h
                · rename_i y x r
                  generalize hg : (Nat.beq (acall ins) 2 && Nat.blt 0 d && arest r) = g at h
                  cases g with
                  | false => cases h
                  | true =>
                    simp only [cond_true] at h
                    simp only [Bool.and_eq_true] at hg
                    obtain ⟨⟨g1, g2⟩, g3⟩ := hg
                    obtain ⟨i1, i2, i3⟩ := ih d i (pc + 3) ls _ n μ v N1 μ1 h
                    have g2 : 0 < d := Nat.blt_eq.mp g2
                    refine ⟨i1, i2, fun p e R s m args below meth c Q n0 C hd hl hR hret => ?_⟩
                    cases ins <;> first | (simp [acall] at g1; done) | skip
                    exact so_max C i1 hR (by omega) (by omega) g3 ((mlk_spec hkl).2.2.1 ea) hd0 (i3 p e R s m args below meth c Q n0 C hd hl hR hret)
                · cases h
              | false =>
                rw [h1002, cond_false] at h
                cases h1003 : Nat.beq a 1003 with
                | true =>
                  rw [h1003, cond_true] at h
                  have ea := Nat.eq_of_beq_eq_true h1003
                  split at h
                  · rename_i y x r
                    generalize hg : (Nat.beq (acall ins) 2 && Nat.blt 0 d && arest r) = g at h
                    cases g with
                    | false => cases h
                    | true =>
                      simp only [cond_true] at h
                      simp only [Bool.and_eq_true] at hg
                      obtain ⟨⟨g1, g2⟩, g3⟩ := hg
                      obtain ⟨i1, i2, i3⟩ := ih d i (pc + 3) ls _ n μ v N1 μ1 h
                      have g2 : 0 < d := Nat.blt_eq.mp g2
                      refine ⟨i1, i2, fun p e R s m args below meth c Q n0 C hd hl hR hret => ?_⟩
                      cases ins <;> first | (simp [acall] at g1; done) | skip
                      exact so_min C i1 hR (by omega) (by omega) g3 ((mlk_spec hkl).2.2.2.1 ea) hd0 (i3 p e R s m args below meth c Q n0 C hd hl hR hret)
                  · cases h
                | false =>
                  rw [h1003, cond_false] at h
                  split at h
                  · cases h
                  · rename_i d'
                    split at h
                    · cases h
                    · rename_i as r hta
                      generalize hg : (arest r && arecv (acall ins) n a as && Nat.ble (aent as).length (mL a)) = g at h
                      cases g with
                      | false => cases h
                      | true =>
                        simp only [cond_true] at h
                        simp only [Bool.and_eq_true] at hg
                        obtain ⟨⟨g1, g2⟩, g3⟩ := hg
                        split at h
                        · cases h
                        · rename_i v' n' μ' hcal
                          obtain ⟨c1, c2, c3⟩ := ih d' a 0 (apad as (mL a)) [] n μ v' n' μ' hcal
                          obtain ⟨i1, i2, i3⟩ := ih (d' + 1) i (pc + 3) ls (v'.toList ++ r) n' μ' v N1 μ1 h
                          have hac : acall ins = 1 ∨ acall ins = 2 ∨ acall ins = 3 := by
                            cases ins <;> first | exact Or.inl rfl | exact Or.inr (Or.inl rfl) | exact Or.inr (Or.inr rfl) | (simp [acall] at hc)
                          have haj : a < 258 := by
                            have q0 : a ≠ 1000 := fun z => by subst z; cases h1000
                            have q1 : a ≠ 1001 := fun z => by subst z; cases h1001
                            have q2 : a ≠ 1002 := fun z => by subst z; cases h1002
                            have q3 : a ≠ 1003 := fun z => by subst z; cases h1003
                            cases ins <;> first | exact (mlk_spec hkl).2.2.2.2 q0 q1 q2 q3 | (simp [acall] at hc)
                          refine ⟨Nat.le_trans c1 i1, i2, fun p e R s m args below meth c Q n0 C hd hl hR hret => ?_⟩
                          exact so_call C hit haj hac hd hl i1 hR c1 hta g1 g2 (Nat.le_of_ble_eq_true g3) c2 c3 (i3 p e R s m args below meth c Q n0 C hd hl hR hret)
end WALK2
