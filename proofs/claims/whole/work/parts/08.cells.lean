/-! the instructions that touch cells -/
theorem kcl_at {a : Nat} (h : a < 10) : kcl[a]? = some (cN a, kT a, kN a) := by simp [kcl, h]
set_option maxRecDepth 100000 in
theorem kin_0 : ∀ w ∈ u_ws (cN 0) (kT 0) (kN 0), w ∈ lw_tbl := by decide +kernel
set_option maxRecDepth 100000 in
theorem kin_1 : ∀ w ∈ u_ws (cN 1) (kT 1) (kN 1), w ∈ lw_tbl := by decide +kernel
set_option maxRecDepth 100000 in
theorem kin_2 : ∀ w ∈ u_ws (cN 2) (kT 2) (kN 2), w ∈ lw_tbl := by decide +kernel
set_option maxRecDepth 100000 in
theorem kin_3 : ∀ w ∈ u_ws (cN 3) (kT 3) (kN 3), w ∈ lw_tbl := by decide +kernel
set_option maxRecDepth 100000 in
theorem kin_4 : ∀ w ∈ u_ws (cN 4) (kT 4) (kN 4), w ∈ lw_tbl := by decide +kernel
set_option maxRecDepth 100000 in
theorem kin_5 : ∀ w ∈ u_ws (cN 5) (kT 5) (kN 5), w ∈ lw_tbl := by decide +kernel
set_option maxRecDepth 100000 in
theorem kin_6 : ∀ w ∈ u_ws (cN 6) (kT 6) (kN 6), w ∈ lw_tbl := by decide +kernel
set_option maxRecDepth 100000 in
theorem kin_7 : ∀ w ∈ u_ws (cN 7) (kT 7) (kN 7), w ∈ lw_tbl := by decide +kernel
set_option maxRecDepth 100000 in
theorem kin_8 : ∀ w ∈ u_ws (cN 8) (kT 8) (kN 8), w ∈ lw_tbl := by decide +kernel
set_option maxRecDepth 100000 in
theorem kin_9 : ∀ w ∈ u_ws (cN 9) (kT 9) (kN 9), w ∈ lw_tbl := by decide +kernel
theorem kin0 {a : Nat} (h : a < 10) : ∀ w ∈ u_ws (cN a) (kT a) (kN a), w ∈ lw_tbl := by
  match a, h with
  | 0, _ => exact kin_0
  | 1, _ => exact kin_1
  | 2, _ => exact kin_2
  | 3, _ => exact kin_3
  | 4, _ => exact kin_4
  | 5, _ => exact kin_5
  | 6, _ => exact kin_6
  | 7, _ => exact kin_7
  | 8, _ => exact kin_8
  | 9, _ => exact kin_9
theorem kin {a : Nat} (h : a < 10) : ∀ w ∈ u_ws (cN a) (kT a) (kN a), w ∈ lwU := by
  intro w hw
  refine List.mem_filter.mpr ⟨kin0 h w hw, ?_⟩
  obtain ⟨k, -, rfl⟩ := List.mem_map.mp hw
  unfold u_lay
  split <;> rfl
set_option maxRecDepth 100000 in
theorem kty0 : ∀ a, a < 10 → ∀ k, k < kN a → parseFieldDescriptor (kT a k).2.2.1 = some (kY a k) := by decide +kernel
set_option maxRecDepth 100000 in
theorem knm0 : ∀ a, a < 10 → ∀ x, x < kN a → ∀ y, y < kN a → x ≠ y → (kT a x).2.1 ≠ (kT a y).2.1 := by decide +kernel
theorem fok_ok {ad : Nat → Nat} {ty : FieldType} {v : Value} (h : fok ty v = true) : narrow ty (cv ad v) = cv ad v ∧ fits ty (cv ad v) = true := by
  unfold fok at h
  split at h
  · exact ⟨rfl, rfl⟩
  · rename_i x
    simp only [Bool.or_eq_true, decide_eq_true_eq] at h
    rcases h with rfl | rfl
    · exact ⟨(by decide : (Value.int ((0 : Int32) &&& 1)) = .int 0), rfl⟩
    · exact ⟨(by decide : (Value.int ((1 : Int32) &&& 1)) = .int 1), rfl⟩
  · exact ⟨rfl, rfl⟩
  · exact ⟨rfl, rfl⟩
  · cases h
theorem beqf {a b : Nat} (h : ¬ a = b) : Nat.beq a b = false := by
  cases e : Nat.beq a b with
  | false => rfl
  | true => exact absurd (Nat.eq_of_beq_eq_true e) h
theorem aset_eq (μ : AM) (k j : Nat) (v : Value) (k' j' : Nat) : aset μ k j v k' j' = if k' = k ∧ j' = j then v else μ k' j' := by
  unfold aset
  by_cases h1 : k' = k
  · by_cases h2 : j' = j
    · subst h1; subst h2; simp
    · have : Nat.beq j' j = false := beqf h2
      simp [h2, this]
  · have : Nat.beq k' k = false := beqf h1
    simp [h1, this]
theorem arow_eq (μ : AM) (k : Nat) (r : Nat → Value) (k' j' : Nat) : arow μ k r k' j' = if k' = k then r j' else μ k' j' := by
  unfold arow
  by_cases h1 : k' = k
  · subst h1; simp
  · have : Nat.beq k' k = false := beqf h1
    simp [h1, this]
theorem inb_in {i : Int32} {n : Nat} (h : inb i n = true) : vp_in i n ∧ ¬ i < 0 ∧ i.toNatClampNeg < n := by
  unfold inb at h
  obtain ⟨h1, h2⟩ := Bool.and_eq_true_iff.mp h
  have h1 : ¬ i < 0 := by simpa using h1
  have h2 : i.toNatClampNeg < n := Nat.blt_eq.mp h2
  exact ⟨fun q => q.elim h1 (fun z => by omega), h1, h2⟩
theorem cellOK.congr {K : WK} {μ μ' : AM} {k : Nat} {H H1 : Heap} (h : cellOK K μ k H) (hH : H1[kad K k]? = H[kad K k]?) (hμ : ∀ j, μ' k j = μ k j) : cellOK K μ' k H1 := by
  unfold cellOK at h ⊢
  rw [show μ' k = μ k from funext hμ]
  by_cases h0 : kd k = 0
  · rw [if_pos h0] at h ⊢; rw [hH]; exact h
  · rw [if_neg h0] at h ⊢
    by_cases h1 : kd k = 1
    · rw [if_pos h1] at h ⊢; rw [hH]; exact h
    · rw [if_neg h1] at h ⊢
      by_cases h2 : kd k = 2
      · rw [if_pos h2] at h ⊢; rw [hH]; exact h
      · rw [if_neg h2] at h ⊢
        exact h.kept hH
theorem cellOK.obj {K : WK} {μ : AM} {k a : Nat} {H : Heap} (hkd : kd k = a + 3) : cellOK K μ k H ↔ t_OB (kad K k) ((wD K).1 a) (kN a) ((wD K).2 a) H (fun j => cv (kad K) (μ k j)) := by
  unfold cellOK
  rw [hkd, if_neg (by omega), if_neg (by omega), if_neg (by omega), Nat.add_sub_cancel]
theorem cellOK.ints {K : WK} {μ : AM} {k : Nat} {H : Heap} (hkd : kd k = 0) : cellOK K μ k H ↔ H[kad K k]? = some (arrV (wI K) (ln k) (fun j => .int (toI (μ k j)))) := by
  unfold cellOK
  rw [if_pos hkd]
theorem cellOK.laws {K : WK} {μ : AM} {k : Nat} {H : Heap} (hkd : kd k = 1) : cellOK K μ k H ↔ H[kad K k]? = some (arrV (wL K) (ln k) (fun j => cv (kad K) (μ k j))) := by
  unfold cellOK
  rw [hkd, if_neg (by omega), if_pos rfl]
theorem cellOK.sheets {K : WK} {μ : AM} {k : Nat} {H : Heap} (hkd : kd k = 2) : cellOK K μ k H ↔ H[kad K k]? = some (arrV (wS K) (ln k) (fun j => cv (kad K) (μ k j))) := by
  unfold cellOK
  rw [hkd, if_neg (by omega), if_neg (by omega), if_pos rfl]
/-- one cell is written: the others stay -/
theorem Wd.wrote {K : WK} {X : AX} {n k : Nat} {μ μ' : AM} {U : State} {H H1 : Heap} (h : Wd K X n μ U H) (hk : k < n) (hz : H1.size = H.size) (oq : ∀ q : Nat, q ≠ kad K k → H1[q]? = H[q]?) (hμ : ∀ k' j, k' ≠ k → μ' k' j = μ k' j) (hc : cellOK K μ' k H1) : Wd K X n μ' U H1 := by
  have hn := h.2.1
  refine h.upd (hz.trans h.1) hn (fun q hq => oq q ?_) (fun k' hk' => ?_)
  · rw [kad_lt (by omega)]; omega
  · by_cases e : k' = k
    · subst e; exact hc
    · refine (h.2.2.1 k' hk').congr (oq _ ?_) (fun j => hμ k' j e)
      rw [kad_lt (by omega), kad_lt (by omega)]
      omega
/-- a cell is made -/
theorem Wd.made {K : WK} {X : AX} {n : Nat} {μ μ' : AM} {U : State} {H H1 : Heap} (h : Wd K X n μ U H) (hn : n < 999) (hz : H1.size = H.size + 1) (oq : ∀ q : Nat, q < H.size → H1[q]? = H[q]?) (hμ : ∀ k' j, k' ≠ n → μ' k' j = μ k' j) (hc : cellOK K μ' n H1) : Wd K X (n + 1) μ' U H1 := by
  have h1 := h.1
  refine h.upd (by omega) (by omega) (fun q hq => oq q (by omega)) (fun k' hk' => ?_)
  by_cases e : k' = n
  · subst e; exact hc
  · refine (h.2.2.1 k' (by omega)).congr (oq _ ?_) (fun j => hμ k' j e)
    rw [kad_lt (by omega)]
    omega
section SO
variable {p : Program} {l : Launch} {e : Env} {R : Room} {s : State} {m : MethodId} {args : Array Value} {below : List Frame} {meth : Method} {c : Code} {Q : State → Prop} {K : WK} {X : AX} {i n0 : Nat}
variable {pc pc' n n' : Nat} {ls ls' : AL} {st st' : List Value} {μ μ' : AM}
theorem so_getfield (C : Cx p s m args meth c i) {a b ix k : Nat} (ha : a < 10) (hb' : b < kN a) (hk : k < n) (hkd : kd k = a + 3) (hl : Cond.fieldLink (cN (mO i)) ix (kT a b).1 (kT a b).2.1 (kT a b).2.2.1 ∈ lwU) (hd : decode (mB i) pc = .ok (.getfield ix, 3)) (h : AW K X p l e R s m args below meth c i n0 Q (pc + 3) ls (μ k b :: st) n μ) : AW K X p l e R s m args below meth c i n0 Q pc ls (.ref k :: st) n μ := fun h0 LS H locs hL hW hS => by
  obtain ⟨cell, q1, q2, q3, q4⟩ := (cellOK.obj hkd).mp (hW.2.2.1 k hk)
  obtain ⟨hSl, hfc, kC, hkC, hkind⟩ := hW.2.2.2.1.1 a _ (kcl_at ha)
  obtain ⟨cf, kf, fi, f, hi, hsl⟩ := hSl b hb'
  exact W.getf C.1 C.2.1 C.2.2.2.2.1 (C.2.2.2.2.2.1 _ hl) hi (u_facts hfc hkC (u_lays C.2.2.2.2.2.1 (kin ha) hb') hi).1 q1 (by rw [q3]; exact fun h => by cases h) (v := cv (kad K) (μ k b)) (by rw [hsl]; exact q4 b hb') rfl rfl hd (h h0 LS H locs hL hW hS)
theorem so_putfield (C : Cx p s m args meth c i) {a b ix k : Nat} {v : Value} (ha : a < 10) (hb' : b < kN a) (hk : k < n) (hk9 : k < 999) (hkd : kd k = a + 3) (hv : fok (kY a b) v = true) (hfin : (kT a b).2.2.2 = false ∨ ((mY i).name = "<init>" ∧ (kT a b).1 = cN (mO i))) (hl : Cond.fieldLink (cN (mO i)) ix (kT a b).1 (kT a b).2.1 (kT a b).2.2.1 ∈ lwU) (hd : decode (mB i) pc = .ok (.putfield ix, 3)) (h : AW K X p l e R s m args below meth c i n0 Q (pc + 3) ls st n (aset μ k b v)) : AW K X p l e R s m args below meth c i n0 Q pc ls (v :: .ref k :: st) n μ := fun h0 LS H locs hL hW hS => by
  have hap := va_apart (own := cN a) C.2.2.2.2.2.1 (kin ha) (kY a) (kty0 a ha) (fun x hx y hy => knm0 a ha x hx y hy) hW.2.2.2.1 (kcl_at ha)
  obtain ⟨cell, q1, q2, q3, q4⟩ := (cellOK.obj hkd).mp (hW.2.2.1 k hk)
  obtain ⟨hSl, hfc, kC, hkC, hkind⟩ := hW.2.2.2.1.1 a _ (kcl_at ha)
  obtain ⟨cf, kf, fi, f, hi, hsl⟩ := hSl b hb'
  have hlay := C.2.2.2.2.2.1 _ (kin ha _ (u_in_lay hb'))
  have hst := (u_facts hfc hkC (u_lays C.2.2.2.2.2.1 (kin ha) hb') hi).1
  obtain ⟨hn, hfit⟩ := fok_ok (ad := kad K) hv
  have done : ∀ H' : Heap, H'[kad K k]? = some (cell.setSlot f.slot (cv (kad K) v)) → H'.size = H.size → (∀ q, q ≠ kad K k → H'[q]? = H[q]?) → W p l e R s m args below meth c H' (locs ++ [⟨kad K k, f.slot⟩]) (n - n0) (tot n - tot n0) Q (F0 m (pc + 3) LS (st.map (cv (kad K)))) := by
    intro H' e1 e2 e3
    rw [hsl] at e1
    refine h h0 LS H' _ hL (hW.wrote hk e2 e3 (fun k' j hk' => by rw [aset_eq, if_neg (fun z => hk' z.1)]) ((cellOK.obj hkd).mpr ?_)) (hS.put e2 e3 (by show wsz K ≤ kad K k; rw [kad_lt hk9]; omega))
    refine t_OB.to (V := updV (fun j => cv (kad K) (μ k j)) b (cv (kad K) v)) ⟨_, e1, q2, q3, t_set q4 hap hb' _⟩ (fun j _ => ?_)
    show (if j = b then _ else _) = _
    rw [aset_eq]
    by_cases hj : j = b
    · rw [if_pos hj, if_pos ⟨rfl, hj⟩]
    · rw [if_neg hj, if_neg (fun z => hj z.2)]
  unfold u_lay at hlay
  by_cases hf : (kT a b).2.2.2 = true
  · rw [if_pos hf] at hlay
    obtain ⟨hini, hdecl⟩ := hfin.resolve_left (fun z => by rw [hf] at z; cases z)
    have hcf : m.cls = cf := by
      obtain ⟨_, _, c', _, _, _, -, -, hf', -, -, -, hown2, -⟩ := Cond.laysFinal_spec hlay
      have e1 : c' = cf := by have := hi.symm.trans hf'; simp at this; exact this.1.symm
      rw [hdecl] at hown2
      rw [← e1]; exact Option.some.inj (C.2.2.2.2.1.symm.trans hown2)
    have h6 := u_fits hfc hkC hkind (Or.inr hlay) hi (kty0 a ha b hb') hn hfit
    exact W.putFinK C.1 C.2.1 C.2.2.2.2.1 (C.2.2.2.2.2.1 _ hl) hi hst hcf (C.2.2.2.2.2.2.2 hini) (by rw [q2]; exact h6) q1 q3 (by rw [hsl]; exact k2_hasslot (q4 b hb')) rfl rfl hd done
  · rw [if_neg hf] at hlay
    have h6 := u_store hfc hkC hkind hlay hi (kty0 a ha b hb') hn hfit
    exact W.putK C.1 C.2.1 (f := f) ⟨C.2.2.2.2.1, C.2.2.2.2.2.1 _ hl, ⟨_, _, _, hi⟩, hst⟩ (by rw [q2]; exact h6) q1 q3 (by rw [hsl]; exact k2_hasslot (q4 b hb')) rfl rfl hd done
theorem so_getstatic (C : Cx p s m args meth c i) {q ix : Nat} (hq : q < 7) (hl : Cond.fieldLink (cN (mO i)) ix (sC q) (sM q) "[I" ∈ lwU ∨ Cond.fieldLinkNest (cN (mO i)) ix (sC q) (sM q) "[I" "NineDemands" ∈ lwU) (hd : decode (mB i) pc = .ok (.getstatic ix, 3)) (h : AW K X p l e R s m args below meth c i n0 Q (pc + 3) ls (.ref (1000 + q) :: st) n μ) : AW K X p l e R s m args below meth c i n0 Q pc ls st n μ := fun h0 LS H locs hL hW hS => by
  have hk := h h0 LS H locs hL hW hS
  have ea : cv (kad K) (.ref (1000 + q)) = .ref (wsa K q) := by
    show Value.ref (adr (wsz K) (wb K) (wsa K) (1000 + q)) = _
    unfold adr
    rw [if_neg (by omega), if_neg (by omega), Nat.add_sub_cancel_left]
  rw [List.map_cons, ea] at hk
  obtain ⟨cf, kf, fi, f, a, cell, h1, h2, h3, h4, h5, h6, h7, h8⟩ := (hW.2.2.2.2.2.2 q hq).1
  rcases hl with hl | hl
  · exact W.gets C.1 C.2.1 C.2.2.2.2.1 (C.2.2.2.2.2.1 _ hl) h1 h2 h3 h4 h5 (fun e => by rw [e] at h6; cases h6) h7 rfl hd hk
  · exact va_WgetsN C.1 C.2.1 C.2.2.2.2.1 (C.2.2.2.2.2.1 _ hl) h1 h2 h3 h4 h5 (fun e => by rw [e] at h6; cases h6) h7 rfl hd hk
/-- a row of ints that can be read: in the world, the script, or a static row -/
theorem ial_cell {H : Heap} (hW : Wd K X n μ s H) {k L : Nat} (h : ial X n k = some L) : ∃ cell : Cell, H[kad K k]? = some cell ∧ s.isArrayOf cell .int ∧ cell.vm ≠ .unknown ∧ cell.slots.size.toInt32 = Int32.ofNat L ∧ L ≤ cell.slots.size ∧ ∀ j : Nat, j < L → cell.slots[j]? = some (.int (ird X μ k j)) := by
  unfold ial at h
  cases h9 : Nat.blt k 999 with
  | true =>
    rw [h9] at h
    simp only [cond_true] at h
    cases hg : (Nat.blt k n && Nat.beq (kd k) 0) with
    | false => rw [hg] at h; cases h
    | true =>
      rw [hg] at h
      cases h
      obtain ⟨g1, g2⟩ := Bool.and_eq_true_iff.mp hg
      have g1 : k < n := Nat.blt_eq.mp g1
      have g2 : kd k = 0 := Nat.eq_of_beq_eq_true g2
      have hc := (cellOK.ints g2).mp (hW.2.2.1 k g1)
      refine ⟨arrV (wI K) (ln k) (fun j => .int (toI (μ k j))), hc, (hW.2.2.2.1.2 0 (wI K, .int) rfl).1 _ _, (fun q => by cases q), (by rw [arrV_size]), by rw [arrV_size]; exact Nat.le_refl _, fun j hj => ?_⟩
      rw [arrV_read _ _ hj]
      unfold ird
      rw [h9, cond_true]
  | false =>
    rw [h9] at h
    simp only [cond_false] at h
    have g9 : ¬ k < 999 := fun z => by rw [Nat.blt_eq.mpr z] at h9; cases h9
    cases h8 : Nat.beq k 999 with
    | true =>
      rw [h8] at h
      cases h
      have e := Nat.eq_of_beq_eq_true h8
      subst e
      obtain ⟨scr, x1, x2, x3, x4, x5⟩ := hW.2.2.2.2.2.1
      refine ⟨scr, x1, x2, x3, by rw [x4], Nat.le_of_eq x4.symm, fun j hj => ?_⟩
      exact x5 j hj
    | false =>
      rw [h8] at h
      simp only [cond_false] at h
      have g8 : ¬ k = 999 := fun z => by subst z; cases h8
      cases h7 : Nat.blt k 1007 with
      | false => rw [h7] at h; cases h
      | true =>
        rw [h7, cond_true] at h
        have hL := Option.some.inj h
        subst hL
        have g7 : k < 1007 := Nat.blt_eq.mp h7
        obtain ⟨cell, x1, x2, x3, x4, x5, x6, x7⟩ := (hW.2.2.2.2.2.2 (k - 1000) (by omega)).2
        have ea : kad K k = wsa K (k - 1000) := by
          show adr (wsz K) (wb K) (wsa K) k = _
          unfold adr
          rw [if_neg g9, if_neg g8]
        refine ⟨cell, by rw [ea]; exact x1, x2, x3, x5, x4, fun j hj => ?_⟩
        rw [x6 j hj]
        unfold ird
        rw [h9, h8, cond_false, cond_false]
theorem so_alen (C : Cx p s m args meth c i) {k L : Nat} (hl : ial X n k = some L) (hd : decode (mB i) pc = .ok (.arraylength, 1)) (h : AW K X p l e R s m args below meth c i n0 Q (pc + 1) ls (.int (Int32.ofNat L) :: st) n μ) : AW K X p l e R s m args below meth c i n0 Q pc ls (.ref k :: st) n μ := fun h0 LS H locs hL hW hS => by
  obtain ⟨cell, x1, x2, x3, x4, x5, x6⟩ := ial_cell hW hl
  exact W.alen C.1 C.2.1 x1 x2 x4 rfl rfl hd (h h0 LS H locs hL hW hS)
theorem so_iaload (C : Cx p s m args meth c i) {k L : Nat} {x : Int32} (hl : ial X n k = some L) (hi : inb x L = true) (hd : decode (mB i) pc = .ok (.iaload, 1)) (h : AW K X p l e R s m args below meth c i n0 Q (pc + 1) ls (.int (ird X μ k x.toNatClampNeg) :: st) n μ) : AW K X p l e R s m args below meth c i n0 Q pc ls (.int x :: .ref k :: st) n μ := fun h0 LS H locs hL hW hS => by
  obtain ⟨cell, x1, x2, x3, x4, x5, x6⟩ := ial_cell hW hl
  obtain ⟨-, i1, i2⟩ := inb_in hi
  exact W.iald C.1 C.2.1 x1 x2 x3 (fun z => z.elim i1 (fun y => by omega)) (x6 _ i2) rfl rfl hd (h h0 LS H locs hL hW hS)
theorem so_iastore (C : Cx p s m args meth c i) {k : Nat} {x y : Int32} (hk : k < n) (hk9 : k < 999) (hkd : kd k = 0) (hi : inb x (ln k) = true) (hd : decode (mB i) pc = .ok (.iastore, 1)) (h : AW K X p l e R s m args below meth c i n0 Q (pc + 1) ls st n (aset μ k x.toNatClampNeg (.int y))) : AW K X p l e R s m args below meth c i n0 Q pc ls (.int y :: .int x :: .ref k :: st) n μ := fun h0 LS H locs hL hW hS => by
  have hc := (cellOK.ints hkd).mp (hW.2.2.1 k hk)
  obtain ⟨i0, i1, i2⟩ := inb_in hi
  refine W.iast C.1 C.2.1 hc ((hW.2.2.2.1.2 0 (wI K, .int) rfl).1 _ _) (fun q => by cases q) (by rw [arrV_size]; exact i0) rfl rfl hd fun H1 e1 z oq => ?_
  refine h h0 LS H1 _ hL (hW.wrote hk z oq (fun k' j hk' => by rw [aset_eq, if_neg (fun z => hk' z.1)]) ((cellOK.ints hkd).mpr ?_)) (hS.put z oq (by show wsz K ≤ kad K k; rw [kad_lt hk9]; omega))
  rw [e1, arrV_store]
  congr 2
  funext q
  rw [aset_eq]
  by_cases hq : q = x.toNatClampNeg
  · simp [updV, hq, toI]
  · simp [updV, hq]
theorem so_aaload (C : Cx p s m args meth c i) {k : Nat} {x : Int32} (hk : k < n) (hkd : kd k = 1 ∨ kd k = 2) (hi : inb x (ln k) = true) (hd : decode (mB i) pc = .ok (.aaload, 1)) (h : AW K X p l e R s m args below meth c i n0 Q (pc + 1) ls (μ k x.toNatClampNeg :: st) n μ) : AW K X p l e R s m args below meth c i n0 Q pc ls (.int x :: .ref k :: st) n μ := fun h0 LS H locs hL hW hS => by
  obtain ⟨i0, i1, i2⟩ := inb_in hi
  rcases hkd with hkd | hkd
  · have hc := (cellOK.laws hkd).mp (hW.2.2.1 k hk)
    exact W.aald (v := cv (kad K) (μ k x.toNatClampNeg)) C.1 C.2.1 hc ((hW.2.2.2.1.2 1 (wL K, .object "NineDemands$Law") rfl).1 _ _) rfl (fun q => by cases q) (by rw [arrV_size]; exact i0) (by rw [arrV_read _ _ i2]) rfl rfl hd (h h0 LS H locs hL hW hS)
  · have hc := (cellOK.sheets hkd).mp (hW.2.2.1 k hk)
    exact W.aald (v := cv (kad K) (μ k x.toNatClampNeg)) C.1 C.2.1 hc ((hW.2.2.2.1.2 2 (wS K, .object "NineDemands$Sheet") rfl).1 _ _) rfl (fun q => by cases q) (by rw [arrV_size]; exact i0) (by rw [arrV_read _ _ i2]) rfl rfl hd (h h0 LS H locs hL hW hS)
theorem so_aastoreL (C : Cx p s m args meth c i) {k kh : Nat} {x : Int32} (hk : k < n) (hk9 : k < 999) (hkd : kd k = 1) (hh : kh < n) (hkh : kd kh = 0 + 3) (hi : inb x (ln k) = true) (hd : decode (mB i) pc = .ok (.aastore, 1)) (h : AW K X p l e R s m args below meth c i n0 Q (pc + 1) ls st n (aset μ k x.toNatClampNeg (.ref kh))) : AW K X p l e R s m args below meth c i n0 Q pc ls (.ref kh :: .int x :: .ref k :: st) n μ := fun h0 LS H locs hL hW hS => by
  obtain ⟨i0, i1, i2⟩ := inb_in hi
  have hc := (cellOK.laws hkd).mp (hW.2.2.1 k hk)
  obtain ⟨cellV, g1, g2, g3, -⟩ := (cellOK.obj hkh).mp (hW.2.2.1 _ hh)
  have hcls := (hW.2.2.2.1.1 0 _ (kcl_at (by omega))).2
  obtain ⟨kA, comp, k1, k2, k3, -⟩ := (hW.2.2.2.1.2 1 (wL K, .object "NineDemands$Law") rfl).2
  have hcomp : comp = (wD K).1 0 := Option.some.inj (k3.symm.trans hcls.1)
  subst hcomp
  obtain ⟨kC, hkC, -⟩ := hcls.2
  refine W.aast C.1 C.2.1 hc (fun q h => by cases h) (fun h => by cases h) k1 k2 rfl hkC ⟨i1, by rw [arrV_size]; exact i2⟩ g1 (fun q h => by rw [g3] at h; cases h) (by rw [g2]; exact hkC) (by rw [g2]; exact va_assign hcls) rfl rfl hd fun H1 e1 z oq => ?_
  refine h h0 LS H1 _ hL (hW.wrote hk z oq (fun k' j hk' => by rw [aset_eq, if_neg (fun z => hk' z.1)]) ((cellOK.laws hkd).mpr ?_)) (hS.put z oq (by show wsz K ≤ kad K k; rw [kad_lt hk9]; omega))
  rw [e1, arrV_store]
  congr 2
  funext q
  rw [aset_eq]
  by_cases hq : q = x.toNatClampNeg
  · simp [updV, hq, cv]
  · simp [updV, hq]
theorem so_aastoreS (C : Cx p s m args meth c i) {k kh : Nat} {x : Int32} (hk : k < n) (hk9 : k < 999) (hkd : kd k = 2) (hh : kh < n) (hkh : kd kh = 2 + 3) (hi : inb x (ln k) = true) (hd : decode (mB i) pc = .ok (.aastore, 1)) (h : AW K X p l e R s m args below meth c i n0 Q (pc + 1) ls st n (aset μ k x.toNatClampNeg (.ref kh))) : AW K X p l e R s m args below meth c i n0 Q pc ls (.ref kh :: .int x :: .ref k :: st) n μ := fun h0 LS H locs hL hW hS => by
  obtain ⟨i0, i1, i2⟩ := inb_in hi
  have hc := (cellOK.sheets hkd).mp (hW.2.2.1 k hk)
  obtain ⟨cellV, g1, g2, g3, -⟩ := (cellOK.obj hkh).mp (hW.2.2.1 _ hh)
  have hcls := (hW.2.2.2.1.1 2 _ (kcl_at (by omega))).2
  obtain ⟨kA, comp, k1, k2, k3, -⟩ := (hW.2.2.2.1.2 2 (wS K, .object "NineDemands$Sheet") rfl).2
  have hcomp : comp = (wD K).1 2 := Option.some.inj (k3.symm.trans hcls.1)
  subst hcomp
  obtain ⟨kC, hkC, -⟩ := hcls.2
  refine W.aast C.1 C.2.1 hc (fun q h => by cases h) (fun h => by cases h) k1 k2 rfl hkC ⟨i1, by rw [arrV_size]; exact i2⟩ g1 (fun q h => by rw [g3] at h; cases h) (by rw [g2]; exact hkC) (by rw [g2]; exact va_assign hcls) rfl rfl hd fun H1 e1 z oq => ?_
  refine h h0 LS H1 _ hL (hW.wrote hk z oq (fun k' j hk' => by rw [aset_eq, if_neg (fun z => hk' z.1)]) ((cellOK.sheets hkd).mpr ?_)) (hS.put z oq (by show wsz K ≤ kad K k; rw [kad_lt hk9]; omega))
  rw [e1, arrV_store]
  congr 2
  funext q
  rw [aset_eq]
  by_cases hq : q = x.toNatClampNeg
  · simp [updV, hq, cv]
  · simp [updV, hq]
theorem va_S.grow {A0 : Nat → Prop} {H0 H H1 : Heap} {locs : List Loc} (h : va_S A0 H0 H locs) (hz : H1.size = H.size + 1) (oq : ∀ q : Nat, q < H.size → H1[q]? = H[q]?) : va_S A0 H0 H1 locs :=
  ⟨Nat.le_trans h.1 (by omega), fun x h1 h2 => (oq x (Nat.lt_of_lt_of_le h1 h.1)).trans (h.2.1 x h1 h2), h.2.2⟩
theorem tot_mono {a b : Nat} (h : a ≤ b) : tot a ≤ tot b := by
  induction h with
  | refl => exact Nat.le_refl _
  | step _ ih => exact Nat.le_trans ih (Nat.le_add_right _ _)
theorem tot_s (n : Nat) : tot (n + 1) = tot n + ln n := rfl
set_option maxRecDepth 100000 in
theorem kinst0 : ∀ a, a < 10 → (Cond.instantiable (cN a) (kN a) ∈ lw_tbl ∧ Cond.initialized (cN a) ∈ lw_tbl) := by decide +kernel
theorem kinst : ∀ a, a < 10 → (Cond.instantiable (cN a) (kN a) ∈ lwU ∧ Cond.initialized (cN a) ∈ lwU) := fun a h => ⟨List.mem_filter.mpr ⟨(kinst0 a h).1, rfl⟩, List.mem_filter.mpr ⟨(kinst0 a h).2, rfl⟩⟩
theorem kdef (ad : Nat → Nat) : ∀ t : FieldType, cv ad (defaultValue t) = defaultValue t := by intro t; cases t <;> rfl
theorem so_new (C : Cx p s m args meth c i) {N1 a ix : Nat} (hN : n + 1 ≤ N1) (hR : N1 - n0 ≤ R.cells ∧ tot N1 - tot n0 ≤ R.slots) (ha : a < 10) (hn9 : n < 999) (hkd : kd n = a + 3) (hln : ln n = kN a) (hl : Cond.classLink (cN (mO i)) ix (cN a) ∈ lwU) (hd : decode (mB i) pc = .ok (.new ix, 3)) (h : AW K X p l e R s m args below meth c i n0 Q (pc + 3) ls (.ref n :: st) (n + 1) (arow μ n (fun j => defaultValue (kY a j)))) : AW K X p l e R s m args below meth c i n0 Q pc ls st n μ := fun h0 LS H locs hL hW hS => by
  have hKn := hW.2.2.2.1.1 a _ (kcl_at ha)
  have ht1 := tot_mono h0
  have ht2 := tot_mono hN
  rw [tot_s, hln] at ht2
  refine W.newcK C.1 C.2.1 C.2.2.2.2.1 (C.2.2.2.2.2.1 _ hl) (C.2.2.2.2.2.1 _ (kinst a ha).1) (C.2.2.2.2.2.1 _ (kinst a ha).2) rfl hd (by omega) (by omega) hKn.2.1 rfl fun H1 kC hkC e1 z1 o1 => ?_
  have hz := hW.1
  have ead : kad K n = H.size := by rw [kad_lt hn9]; omega
  have hw := h (by omega) LS H1 locs hL (hW.made hn9 z1 o1 (fun k' j hk' => by rw [arow_eq, if_neg hk']) ((cellOK.obj hkd).mpr ?_)) (hS.grow z1 o1)
  · rw [List.map_cons, show cv (kad K) (.ref n) = .ref H.size from congrArg Value.ref ead] at hw
    rw [show n + 1 - n0 = n - n0 + 1 by omega, show tot (n + 1) - tot n0 = tot n - tot n0 + kN a by rw [tot_s, hln]; omega] at hw
    exact hw
  · rw [ead]
    exact (u_born (kY a) C.2.2.2.2.2.1 (kin ha) hKn hkC e1 (kty0 a ha)).to (fun j _ => by rw [arow_eq, if_pos rfl, kdef])
theorem tyint : Cond.arrayClass .int ∈ lwU := tw_in (k := 59) (by decide +kernel)
theorem so_newarray (C : Cx p s m args meth c i) {N1 : Nat} {x : Int32} (hN : n + 1 ≤ N1) (hR : N1 - n0 ≤ R.cells ∧ tot N1 - tot n0 ≤ R.slots) (hb9 : ln n ≤ 100000) (hn9 : n < 999) (hkd : kd n = 0) (hx : ¬ x < 0) (hln : x.toNatClampNeg = ln n) (hd : decode (mB i) pc = .ok (.newarray .int, 2)) (h : AW K X p l e R s m args below meth c i n0 Q (pc + 2) ls (.ref n :: st) (n + 1) (arow μ n (fun _ => .int 0))) : AW K X p l e R s m args below meth c i n0 Q pc ls (.int x :: st) n μ := fun h0 LS H locs hL hW hS => by
  have ht1 := tot_mono h0
  have ht2 := tot_mono hN
  rw [tot_s] at ht2
  refine va_newaK C.1 C.2.1 (atype := .int) (C.2.2.2.2.2.1 _ tyint) rfl hd rfl hx hln (by show ln n * 4 ≤ _; omega) (by omega) (by omega) rfl fun H1 cA e1 z1 o1 hAr hNm => ?_
  have hz := hW.1
  have ead : kad K n = H.size := by rw [kad_lt hn9]; omega
  have hcA : cA = wI K := Option.some.inj (hNm.symm.trans (hW.2.2.2.1.2 0 (wI K, .int) rfl).2)
  have hw := h (by omega) LS H1 locs hL (hW.made hn9 z1 o1 (fun k' j hk' => by rw [arow_eq, if_neg hk']) ((cellOK.ints hkd).mpr ?_)) (hS.grow z1 o1)
  · rw [List.map_cons, show cv (kad K) (.ref n) = .ref H.size from congrArg Value.ref ead] at hw
    rw [show n + 1 - n0 = n - n0 + 1 by omega, show tot (n + 1) - tot n0 = tot n - tot n0 + ln n by rw [tot_s]; omega] at hw
    exact hw
  · rw [ead, e1, hcA]
    congr 2
    funext q
    rw [arow_eq, if_pos rfl]
    rfl
theorem tyovL : Cond.arrayOver (.object "NineDemands$Law") ∈ lwU := tw_in (k := 32) (by decide +kernel)
theorem so_anewarrayL (C : Cx p s m args meth c i) {N1 ix : Nat} {x : Int32} (hN : n + 1 ≤ N1) (hR : N1 - n0 ≤ R.cells ∧ tot N1 - tot n0 ≤ R.slots) (hb9 : ln n ≤ 100000) (hn9 : n < 999) (hkd : kd n = 1) (hx : ¬ x < 0) (hln : x.toNatClampNeg = ln n) (hl : Cond.classLink (cN (mO i)) ix "NineDemands$Law" ∈ lwU) (hd : decode (mB i) pc = .ok (.anewarray ix, 3)) (h : AW K X p l e R s m args below meth c i n0 Q (pc + 3) ls (.ref n :: st) (n + 1) (arow μ n (fun _ => .null))) : AW K X p l e R s m args below meth c i n0 Q pc ls (.int x :: st) n μ := fun h0 LS H locs hL hW hS => by
  have ht1 := tot_mono h0
  have ht2 := tot_mono hN
  rw [tot_s] at ht2
  refine W.anew C.1 C.2.1 C.2.2.2.2.1 (C.2.2.2.2.2.1 _ hl) (C.2.2.2.2.2.1 _ tyovL) rfl hd rfl hx (by rw [hln]; omega) (by omega) (by rw [hln]; omega) fun cA kA comp f1 f2 f3 f4 => ?_
  have hz := hW.1
  have ead : kad K n = H.size := by rw [kad_lt hn9]; omega
  obtain ⟨kA', comp', g1, g2, g3, g4⟩ := (hW.2.2.2.1.2 1 (wL K, .object "NineDemands$Law") rfl).2
  have hcA : cA = wL K := Option.some.inj (f1.symm.trans g4)
  generalize hH1 : H.push ({ cls := cA, slots := Array.replicate x.toNatClampNeg .null, vm := .none } : Cell) = H1
  have z1 : H1.size = H.size + 1 := by rw [← hH1, Array.size_push]
  have e1 : H1[H.size]? = some (arrV cA x.toNatClampNeg (fun _ => .null)) := by rw [← hH1, Array.getElem?_push_size, ← arrV_new]
  have o1 : ∀ q : Nat, q < H.size → H1[q]? = H[q]? := fun q hq => by rw [← hH1, Array.getElem?_push, if_neg (Nat.ne_of_lt hq)]
  have hw := h (by omega) LS H1 locs hL (hW.made hn9 z1 o1 (fun k' j hk' => by rw [arow_eq, if_neg hk']) ((cellOK.laws hkd).mpr ?_)) (hS.grow z1 o1)
  · rw [List.map_cons, show cv (kad K) (.ref n) = .ref H.size from congrArg Value.ref ead] at hw
    rw [show n + 1 - n0 = n - n0 + 1 by omega, show tot (n + 1) - tot n0 = tot n - tot n0 + x.toNatClampNeg by rw [tot_s, hln]; omega] at hw
    exact hw
  · rw [ead, e1, hcA, hln]
    congr 2
    funext q
    rw [arow_eq, if_pos rfl]
    rfl
theorem tyovS : Cond.arrayOver (.object "NineDemands$Sheet") ∈ lwU := tw_in (k := 94) (by decide +kernel)
theorem so_anewarrayS (C : Cx p s m args meth c i) {N1 ix : Nat} {x : Int32} (hN : n + 1 ≤ N1) (hR : N1 - n0 ≤ R.cells ∧ tot N1 - tot n0 ≤ R.slots) (hb9 : ln n ≤ 100000) (hn9 : n < 999) (hkd : kd n = 2) (hx : ¬ x < 0) (hln : x.toNatClampNeg = ln n) (hl : Cond.classLink (cN (mO i)) ix "NineDemands$Sheet" ∈ lwU) (hd : decode (mB i) pc = .ok (.anewarray ix, 3)) (h : AW K X p l e R s m args below meth c i n0 Q (pc + 3) ls (.ref n :: st) (n + 1) (arow μ n (fun _ => .null))) : AW K X p l e R s m args below meth c i n0 Q pc ls (.int x :: st) n μ := fun h0 LS H locs hL hW hS => by
  have ht1 := tot_mono h0
  have ht2 := tot_mono hN
  rw [tot_s] at ht2
  refine W.anew C.1 C.2.1 C.2.2.2.2.1 (C.2.2.2.2.2.1 _ hl) (C.2.2.2.2.2.1 _ tyovS) rfl hd rfl hx (by rw [hln]; omega) (by omega) (by rw [hln]; omega) fun cA kA comp f1 f2 f3 f4 => ?_
  have hz := hW.1
  have ead : kad K n = H.size := by rw [kad_lt hn9]; omega
  obtain ⟨kA', comp', g1, g2, g3, g4⟩ := (hW.2.2.2.1.2 2 (wS K, .object "NineDemands$Sheet") rfl).2
  have hcA : cA = wS K := Option.some.inj (f1.symm.trans g4)
  generalize hH1 : H.push ({ cls := cA, slots := Array.replicate x.toNatClampNeg .null, vm := .none } : Cell) = H1
  have z1 : H1.size = H.size + 1 := by rw [← hH1, Array.size_push]
  have e1 : H1[H.size]? = some (arrV cA x.toNatClampNeg (fun _ => .null)) := by rw [← hH1, Array.getElem?_push_size, ← arrV_new]
  have o1 : ∀ q : Nat, q < H.size → H1[q]? = H[q]? := fun q hq => by rw [← hH1, Array.getElem?_push, if_neg (Nat.ne_of_lt hq)]
  have hw := h (by omega) LS H1 locs hL (hW.made hn9 z1 o1 (fun k' j hk' => by rw [arow_eq, if_neg hk']) ((cellOK.sheets hkd).mpr ?_)) (hS.grow z1 o1)
  · rw [List.map_cons, show cv (kad K) (.ref n) = .ref H.size from congrArg Value.ref ead] at hw
    rw [show n + 1 - n0 = n - n0 + 1 by omega, show tot (n + 1) - tot n0 = tot n - tot n0 + x.toNatClampNeg by rw [tot_s, hln]; omega] at hw
    exact hw
  · rw [ead, e1, hcA, hln]
    congr 2
    funext q
    rw [arow_eq, if_pos rfl]
    rfl
end SO
