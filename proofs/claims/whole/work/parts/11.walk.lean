/-! the walk -/
set_option maxRecDepth 1000000 in
theorem mR_init0 : (List.range 258).all (fun j => !(decide ((mY j).name = "<init>")) || decide (mR j = none)) = true := by decide +kernel
theorem mR_init (j : Nat) (hj : j < 258) (hn : (mY j).name = "<init>") : mR j = none := by
  have h := List.all_eq_true.mp mR_init0 j (List.mem_range.mpr hj)
  simp only [Bool.or_eq_true, Bool.not_eq_true', decide_eq_true_eq, decide_eq_false_iff_not] at h
  exact h.resolve_left (fun q => q hn)
theorem aent_len (ad : Nat → Nat) : ∀ as : List Value, (lg_sl (as.map (cv ad))).length = (aent as).length := by
  intro as
  induction as with
  | nil => rfl
  | cons v r ih =>
    cases v <;> simp [lg_sl, aent, cv, Value.category] at ih ⊢ <;> exact ih
theorem aent_mem (ad : Nat → Nat) : ∀ (as : List Value) (k i : Nat) (v : Value), (aent as).getD i none = some v → (k + i, cv ad v) ∈ lv_args k (as.map (cv ad)) := by
  intro as
  induction as with
  | nil => intro k i v h; simp [aent] at h
  | cons w r ih =>
    intro k i v h
    have one : ∀ (x : Value), (some x :: aent r).getD i none = some v → x.category = 1 → (k + i, cv ad v) ∈ lv_args k ((x :: r).map (cv ad)) := by
      intro x h hx
      have hc : ¬ (cv ad x).category = 2 := by rw [cv_cat, hx]; omega
      simp only [List.map_cons, lv_args, hc, if_false]
      cases i with
      | zero =>
        simp at h
        subst h
        exact List.mem_cons_self
      | succ i =>
        have := ih (k + 1) i v (by simpa using h)
        rw [show k + (i + 1) = k + 1 + i by omega]
        exact List.mem_cons_of_mem _ this
    have two : ∀ (x : Value), (some x :: none :: aent r).getD i none = some v → x.category = 2 → (k + i, cv ad v) ∈ lv_args k ((x :: r).map (cv ad)) := by
      intro x h hx
      have hc : (cv ad x).category = 2 := by rw [cv_cat, hx]
      simp only [List.map_cons, lv_args, hc, if_true]
      match i, h with
      | 0, h =>
        simp at h
        subst h
        exact List.mem_cons_self
      | 1, h => simp at h
      | i + 2, h =>
        have := ih (k + 2) i v (by simpa using h)
        rw [show k + (i + 2) = k + 2 + i by omega]
        exact List.mem_cons_of_mem _ this
    cases w with
    | long x => exact two _ h rfl
    | double x => exact two _ h rfl
    | int x => exact one _ h rfl
    | float x => exact one _ h rfl
    | null => exact one _ h rfl
    | ref x => exact one _ h rfl
    | retAddr x => exact one _ h rfl
theorem LR.entry {K : WK} {as : List Value} {nL : Nat} (h : (aent as).length ≤ nL) : LR K nL ((lg_sl (as.map (cv (kad K))) ++ List.replicate (nL - (lg_sl (as.map (cv (kad K)))).length) Slot.unset).toArray) (apad as nL) := by
  refine ⟨by simp [apad]; omega, _, lv_entry (as.map (cv (kad K))) (by rw [aent_len]; exact h), fun i v hv => ?_⟩
  have hv' : (aent as).getD i none = some v := by
    simp only [apad, List.getD_eq_getElem?_getD] at hv ⊢
    by_cases hi : i < (aent as).length
    · rw [List.getElem?_append_left hi] at hv; exact hv
    · rw [List.getElem?_append_right (by omega), List.getElem?_replicate] at hv
      split at hv <;> cases hv
  have := aent_mem (kad K) as 0 i v hv'
  rwa [Nat.zero_add] at this
theorem atake_spec : ∀ (k : Nat) (st acc as r : List Value), atake k st acc = some (as, r) → ∃ pre, pre.length = k ∧ st = pre ++ r ∧ as = pre.reverse ++ acc := by
  intro k
  induction k with
  | zero => intro st acc as r h; cases h; exact ⟨[], rfl, rfl, rfl⟩
  | succ k ih =>
    intro st acc as r h
    cases st with
    | nil => cases h
    | cons v st =>
      obtain ⟨pre, h1, h2, h3⟩ := ih st (v :: acc) as r h
      exact ⟨v :: pre, by simp [h1], by simp [h2], by simp [h3]⟩
theorem atake_rev {k : Nat} {st as r : List Value} (h : atake k st [] = some (as, r)) : as.length = k ∧ st = as.reverse ++ r := by
  obtain ⟨pre, h1, h2, h3⟩ := atake_spec k st [] as r h
  subst h3
  simp [h1, h2]
theorem aend_spec {ins : Instr} {r : Option FieldType} {st : List Value} {v : Option Value} (h : aend ins r st = some v) : (ins = .return_ ∧ st = [] ∧ r = none ∧ v = none) ∨ (∃ x, ins = .ireturn ∧ st = [.int x] ∧ r = some .int ∧ v = some (.int x)) ∨ (∃ x, ins = .ireturn ∧ st = [.int x] ∧ r = some .boolean ∧ v = some (.int x) ∧ (x = 0 ∨ x = 1)) ∨ (∃ x, ins = .lreturn ∧ st = [.long x] ∧ r = some .long ∧ v = some (.long x)) := by
  unfold aend at h
  split at h
  · split at h
    · cases h; exact Or.inl ⟨rfl, rfl, rfl, rfl⟩
    · cases h
  · split at h
    · cases h; exact Or.inr (Or.inl ⟨_, rfl, rfl, rfl, rfl⟩)
    · rename_i x
      cases hg : (decide (x = 0) || decide (x = 1)) with
      | false => rw [hg] at h; cases h
      | true =>
        rw [hg] at h
        cases h
        exact Or.inr (Or.inr (Or.inl ⟨_, rfl, rfl, rfl, rfl, by simpa using hg⟩))
    · cases h
  · split at h
    · cases h; exact Or.inr (Or.inr (Or.inr ⟨_, rfl, rfl, rfl, rfl⟩))
    · cases h
  · cases h
theorem aend_plain {ad : Nat → Nat} {ins : Instr} {r : Option FieldType} {st : List Value} {v : Option Value} (h : aend ins r st = some v) : v.toList.map (cv ad) = v.toList := by
  rcases aend_spec h with ⟨-, -, -, rfl⟩ | ⟨x, -, -, -, rfl⟩ | ⟨x, -, -, -, rfl, -⟩ | ⟨x, -, -, -, rfl⟩ <;> rfl
section WALK
variable {p : Program} {l : Launch} {e : Env} {R : Room} {s : State} {m : MethodId} {args : Array Value} {below : List Frame} {meth : Method} {c : Code} {Q : State → Prop} {K : WK} {X : AX} {i n0 : Nat}
variable {pc pc' n n' : Nat} {ls ls' : AL} {st st' : List Value} {μ μ' : AM}
def RetOK (K : WK) (X : AX) (p : Program) (l : Launch) (e : Env) (R : Room) (s : State) (m : MethodId) (args : Array Value) (below : List Frame) (meth : Method) (c : Code) (i n0 : Nat) (Q : State → Prop) (v : Option Value) (N1 : Nat) (μ1 : AM) : Prop :=
  ∀ (pc' : Nat) (ins : Instr) (len a b : Nat) (stf : List Value), it i pc' = some (ins, len, a, b) → aend ins (mR i) stf = some v → ∀ (LS : Array Slot) (H : Heap) (locs : List Loc), Wd K X N1 μ1 s H → va_S (wA K) s.heap H locs → W p l e R s m args below meth c H locs (N1 - n0) (tot N1 - tot n0) Q (F0 m pc' LS (stf.map (cv (kad K))))
def cPc (K : WK) (X : AX) (n : Nat) (μ : AM) (as : List Value) : Array Value → State → Prop := va_Pc (as.map (cv (kad K))) (fun U => Wd K X n μ U U.heap ∧ NW U)
def cQc (K : WK) (X : AX) (v : Option Value) (N1 : Nat) (μ1 : AM) : Array Value → State → Outcome → State → Prop := fun _ st o t => o = .returned v ∧ Wd K X N1 μ1 t t.heap ∧ va_F (wA K) st t
theorem cPc_blind {as : List Value} : FrameBlind (cPc K X n μ as) := fun a U g mk q => by
  obtain ⟨q0, q1, q2⟩ := q
  exact ⟨q0, q1.moved (u := U) (U := U.calling g mk a) (Vm.Alike.refl U.vm), q2.same (u := U) (U := U.calling g mk a) rfl⟩
/-- what a method does if its walk does -/
def Wk (K : WK) (X : AX) (l : Launch) (d j : Nat) (v : Option Value) (N1 : Nat) (μ1 : AM) (pc : Nat) (ls : AL) (st : List Value) (n : Nat) (μ : AM) : Prop :=
  ∀ (p : Program) (e : Env) (R : Room) (s : State) (m : MethodId) (args : Array Value) (below : List Frame) (meth : Method) (c : Code) (Q : State → Prop) (n0 : Nat), Cx p s m args meth c j → d ≤ R.frames → 40 * d ≤ R.locals → N1 - n0 ≤ R.cells ∧ tot N1 - tot n0 ≤ R.slots → RetOK K X p l e R s m args below meth c j n0 Q v N1 μ1 → AW K X p l e R s m args below meth c j n0 Q pc ls st n μ
theorem met_of {j d' : Nat} {as : List Value} {v' : Option Value} (hj : j < 258) (hpl : plainName (mY j).cls = true) (hlen : (aent as).length ≤ mL j) (hw : Wk K X l d' j v' n' μ' 0 (apad as (mL j)) [] n μ) : Met l (mY j) (wsM j) ({ frames := d', cells := n' - n, slots := tot n' - tot n, locals := 40 * d' }) (cPc K X n μ as) (cQc K X v' n' μ') (n' - n) (tot n' - tot n) (wA K) := by
  obtain ⟨-, -, -, -, -, hcls, -⟩ := mok_spec hj
  refine Met.ofW (cc := mB j) (maxL := mL j) (ret := mR j) hpl rfl ?_
  intro p e s m args below meth c s₁ B hml hv
  obtain ⟨rfl, hW, hNW⟩ := hv
  have hts0 := atoms_spec (ws := wsM j) B.pre
  have hts := hts_of (fun w hw => hts0 w (List.mem_cons_of_mem _ hw)) hNW
  have hown : s.vm.findClass (cN (mO j)) = some m.cls := by rw [← hcls]; exact findClass_of_methodNamed B.named
  have C : Cx p s m (as.map (cv (kad K))).toArray meth c j := ⟨B.exec, B.bytes, B.returns, hml, hown, hts, B.notSynchronized, fun hq => (name_of_methodNamed B.named B.method).1.trans hq⟩
  have hA := hw p e (headSpec (wsM j) ({ frames := d', cells := n' - n, slots := tot n' - tot n, locals := 40 * d' })).room s m _ below meth c (MQ below (cQc K X v' n' μ') (as.map (cv (kad K))).toArray s (n' - n) (tot n' - tot n) (wA K)) n C (Nat.le_refl d') (Nat.le_refl (40 * d')) ⟨Nat.le_refl (n' - n), Nat.le_refl (tot n' - tot n)⟩ ?_
  · rw [lg_entry_eq]
    have h9 := hA (Nat.le_refl n) _ s.heap [] (LR.entry hlen) hW va_S.rf
    rw [Nat.sub_self, Nat.sub_self] at h9
    exact h9
  · intro pc' ins len a b stf hit hae LS H locs hW' hS'
    obtain ⟨hd, -⟩ := it_spec hit
    have hq : ∀ t : State, t.heap = H → s.WarmedH t.vm → cQc K X v' n' μ' (as.map (cv (kad K))).toArray s (.returned v') t := fun t ht hWm => ⟨rfl, by rw [ht]; exact hW'.moved hWm.alike, hS'.F ht⟩
    have hlocks := C.2.2.2.2.2.2.1
    rcases aend_spec hae with ⟨rfl, rfl, hr, rfl⟩ | ⟨x, rfl, rfl, hr, rfl⟩ | ⟨x, rfl, rfl, hr, rfl, hx⟩ | ⟨x, rfl, rfl, hr, rfl⟩
    · exact W.vret C.1 C.2.1 (C.2.2.1.trans hr) hq hS'.2.2 hd
    · exact W.iret C.1 C.2.1 (C.2.2.1.trans hr) hq hS'.2.2 hd
    · refine W.zret C.1 C.2.1 (C.2.2.1.trans hr) ?_ hq hS'.2.2 hd
      rcases hx with rfl | rfl
      · exact (by decide : (Value.int ((0 : Int32) &&& 1)) = .int 0)
      · exact (by decide : (Value.int ((1 : Int32) &&& 1)) = .int 1)
    · exact W.lret C.1 C.2.1 (C.2.2.1.trans hr) hq hS'.2.2 hd
theorem run_W {H : Heap} {locs : List Loc} {cells slots mc ms : Nat} {LS : Array Slot} {st0 rest : List Value} {Qa : State → Outcome → State → Prop} {free : Addr → Prop} (hr : va_Run p l e R s m args below meth c H locs cells slots mc ms (F0 m pc LS st0) rest Qa free)
    (kk : ∀ (v : Option Value) (st₀ t : State) (L : List Loc), st₀.heap = H → (∀ q ∈ L, free q.base) → Qa st₀ (.returned v) t → s.vm.Alike t.vm → W p l e R s m args below meth c t.heap (locs ++ L) (cells + mc) (slots + ms) Q (F0 m (pc + 3) LS (v.toList ++ rest))) : W p l e R s m args below meth c H locs cells slots Q (F0 m pc LS st0) := by
  intro T hT X
  obtain ⟨v, st₀, t, T', L, h0, X', hL, e1, e2, hq, st⟩ := hr T hT X
  obtain ⟨t2, a1, b1⟩ := kk v st₀ t L h0 hL hq (by rw [← e2]; exact X'.warmed.alike) T' e1 X'
  exact ⟨t2, st t2 a1, b1⟩
theorem arest_room {ad : Nat → Nat} {r : List Value} (h : arest r = true) : ((r.map (cv ad)).map fun v => v.category).sum ≤ 8 := by
  have e : ((r.map (cv ad)).map fun v => v.category) = r.map fun v => v.category := by
    rw [List.map_map]
    exact List.map_congr_left (fun v _ => cv_cat ad v)
  rw [e]
  exact Nat.le_of_ble_eq_true h
/-- behind a call -/
theorem after_call {H : Heap} {locs : List Loc} {LS : Array Slot} {r : List Value} {v' : Option Value} {st0 : List Value} {aa : Array Value} (hnn : n ≤ n') (h0 : n0 ≤ n) (hpv : v'.toList.map (cv (kad K)) = v'.toList) (hL : LR K (mL i) LS ls) (hS : va_S (wA K) s.heap H locs)
    (hr : va_Run p l e R s m args below meth c H locs (n - n0) (tot n - tot n0) (n' - n) (tot n' - tot n) (F0 m pc LS st0) (r.map (cv (kad K))) (cQc K X v' n' μ' aa) (wA K))
    (h : AW K X p l e R s m args below meth c i n0 Q (pc + 3) ls (v'.toList ++ r) n' μ') : W p l e R s m args below meth c H locs (n - n0) (tot n - tot n0) Q (F0 m pc LS st0) := by
  refine run_W hr fun v st₀ t L hst hLf hq hvm => ?_
  obtain ⟨hv, hWd, hF⟩ := hq
  have hv : v = v' := by cases hv; rfl
  subst hv
  have ht1 := tot_mono h0
  have ht2 := tot_mono hnn
  have hw := h (Nat.le_trans h0 hnn) LS t.heap (locs ++ L) hL (hWd.moved hvm.symm) ⟨Nat.le_trans hS.1 (by rw [← hst]; exact hF.1), fun q h1 h2 => by
      rw [hF.2 q (by rw [hst]; exact Nat.lt_of_lt_of_le h1 hS.1) h2, hst]
      exact hS.2.1 q h1 h2, fun q hq => by
      rcases List.mem_append.mp hq with h | h
      · exact hS.2.2 q h
      · exact hLf q h⟩
  rw [List.map_append, hpv] at hw
  rw [show n - n0 + (n' - n) = n' - n0 by omega, show tot n - tot n0 + (tot n' - tot n) = tot n' - tot n0 by omega]
  exact hw
set_option maxHeartbeats 1000000 in
theorem so_call (C : Cx p s m args meth c i) {ins : Instr} {len j b d' N1 : Nat} {as r : List Value} {v' : Option Value} (hit : it i pc = some (ins, len, j, b)) (hj : j < 258) (hk : acall ins = 1 ∨ acall ins = 2 ∨ acall ins = 3)
    (hfr : d' + 1 ≤ R.frames) (hlo : 40 * (d' + 1) ≤ R.locals) (hN : n' ≤ N1) (hR : N1 - n0 ≤ R.cells ∧ tot N1 - tot n0 ≤ R.slots) (hnn : n ≤ n') (hta : atake (bif Nat.beq (acall ins) 2 then mP j else mP j + 1) st [] = some (as, r)) (har : arest r = true) (hrc : arecv (acall ins) n j as = true) (hlen : (aent as).length ≤ mL j) (hpv : v'.toList.map (cv (kad K)) = v'.toList)
    (hw : Wk K X l d' j v' n' μ' 0 (apad as (mL j)) [] n μ) (h : AW K X p l e R s m args below meth c i n0 Q (pc + 3) ls (v'.toList ++ r) n' μ') : AW K X p l e R s m args below meth c i n0 Q pc ls st n μ := fun h0 LS H locs hL hW hS => by
  obtain ⟨hd, hkl⟩ := it_spec hit
  obtain ⟨m1, m2, m3, m4, m5, m6, m7, m8, m9, m10⟩ := mok_spec hj
  obtain ⟨hasl, hst⟩ := atake_rev hta
  have ht1 := tot_mono h0
  have ht2 := tot_mono hnn
  have ht3 := tot_mono hN
  have hcell : n - n0 + (n' - n) ≤ R.cells ∧ tot n - tot n0 + (tot n' - tot n) ≤ R.slots := ⟨by omega, by omega⟩
  have hroom : d' + 1 ≤ R.frames ∧ 8 + (mL j + 11) + 40 * d' ≤ R.locals := ⟨hfr, by omega⟩
  have hS0 : CallFix p m c (mB i) (mL i) s args lwU (cN (mO i)) := ⟨C.1, C.2.1, C.2.2.2.1, C.2.2.2.2.1, C.2.2.2.2.2.1⟩
  have hts := C.2.2.2.2.2.1
  have hpre : ∀ U : State, U.heap = H → s.WarmedH U.vm → cPc K X n μ as (as.map (cv (kad K))).toArray U := fun U hU hWm => ⟨rfl, by rw [hU]; exact hW.moved hWm.alike, NW.warm hts hWm⟩
  have hini : (Cond.initialized (mY j).cls).before args s = true := by rw [m6]; exact hts _ m5
  have hdd : (mY j).cls ≠ "java/lang/invoke/MethodHandle" ∧ (mY j).cls ≠ "java/lang/invoke/VarHandle" ∧ (parseMethodDescriptor (mY j).desc).map (fun d => d.parameters.length) = some (mP j) := ⟨m7, m8, m9⟩
  have hGw := good_ws m1
  have hlink : ∀ ix : Nat, lkh MLk (mO i) ix j b = true → ((b = 0 ∧ Cond.methodLink (cN (mO i)) ix (mY j) ∈ lwU) ∨ Cond.methodLinkNest (cN (mO i)) ix (mY j) "NineDemands" ∈ lwU) ∧ plainName (mY j).cls = true := by
    intro ix hq
    obtain ⟨w, hw⟩ := lkh_spec hq
    have h1 := MLk_ok _ hw
    have h2 := List.all_eq_true.mp MLk_plain0 _ hw
    dsimp only at h1 h2
    have e0 : Nat.beq j 1000 = false := beqf (by omega)
    have e1 : Nat.beq j 1001 = false := beqf (by omega)
    have e2 : Nat.beq j 1002 = false := beqf (by omega)
    have e3 : Nat.beq j 1003 = false := beqf (by omega)
    have e4 : Nat.blt 999 j = false := by
      cases e : Nat.blt 999 j with
      | false => rfl
      | true => exact absurd (Nat.blt_eq.mp e) (by omega)
    rw [e0, e1, e2, e3] at h1
    simp only [cond_false, Bool.and_eq_true] at h1
    rw [e4, Bool.false_or] at h2
    refine ⟨?_, h2⟩
    cases hb : Nat.beq b 0 with
    | true => rw [hb] at h1; exact Or.inl ⟨Nat.eq_of_beq_eq_true hb, tw_in h1.2⟩
    | false => rw [hb] at h1; exact Or.inr (tw_in h1.2)
  have hpl : plainName (mY j).cls = true := by
    cases ins <;> first | exact (hlink _ hkl).2 | (simp [acall] at hk)
  have hM := met_of (l := l) hj hpl hlen hw
  obtain ⟨cv1, cv2⟩ := ckv_all hit (by omega)
  rw [hst, List.map_append, List.map_reverse]
  cases ins with
  | invokestatic ix =>
    have hs : mS j = true := hrc
    have hl2 : as.length = mP j := hasl
    refine after_call (aa := (as.map (cv (kad K))).toArray) (st0 := (as.map (cv (kad K))).reverse ++ r.map (cv (kad K))) hnn h0 hpv hL hS ?_ h
    rcases (hlink ix hkl).1 with ⟨-, hl⟩ | hl
    · refine va_runS (y := mY j) hS0 hM ⟨callB_of (mP j) hts hGw rfl rfl rfl hini (hts _ hl) hdd hroom, hts _ (m2 hs)⟩ ⟨cPc_blind, hpre⟩ rfl (by simpa using hl2) hL.size rfl (lv_room (arest_room har)) hd hcell
    · refine va_runSN (y := mY j) (host := "NineDemands") hS0 hM ⟨va_cnB (mP j) hts hGw rfl rfl rfl (va_Nw.of rfl (hts _ hl)) hini hdd hroom, hts _ (m2 hs), trivial⟩ ⟨cPc_blind, hpre⟩ rfl (by simpa using hl2) hL.size rfl (lv_room (arest_room har)) hd hcell
  | invokevirtual ix =>
    have hl2 : as.length = mP j + 1 := hasl
    match as, hl2, hrc, hpre, hM with
    | .ref k :: As, hl2, hrc, hpre, hM =>
      have hrc' : (!(mS j) && Nat.blt k 999 && Nat.blt k n && Nat.beq (kd k) (mO j + 3) && Nat.blt (mO j) 10) = true := hrc
      simp only [Bool.and_eq_true, Bool.not_eq_true'] at hrc'
      obtain ⟨⟨⟨⟨g1, g2⟩, g3⟩, g4⟩, g5⟩ := hrc'
      obtain ⟨cell, q1, q2, q3, q4⟩ := (cellOK.obj (Nat.eq_of_beq_eq_true g4)).mp (hW.2.2.1 k (Nat.blt_eq.mp g3))
      have hfc := (hW.2.2.2.1.1 (mO j) _ (kcl_at (Nat.blt_eq.mp g5))).2.1
      have hrv : ∃ cellB : Cell, H[kad K k]? = some cellB ∧ cellB.vm.isStatics = false ∧ s.vm.findClass (cN (mO j)) = some cellB.cls := ⟨cell, q1, by rw [q3]; rfl, by rw [q2]; exact hfc⟩
      have hni := cv1 rfl
      refine after_call (aa := (Value.ref (kad K k) :: As.map (cv (kad K))).toArray) (st0 := (((Value.ref k :: As).map (cv (kad K))).reverse ++ r.map (cv (kad K)))) hnn h0 hpv hL hS ?_ h
      have hstk : ((Value.ref k :: As).map (cv (kad K))).reverse ++ r.map (cv (kad K)) = (As.map (cv (kad K))).reverse ++ Value.ref (kad K k) :: r.map (cv (kad K)) := by simp [cv]
      rcases (hlink ix hkl).1 with ⟨-, hl⟩ | hl
      · refine va_runV (y := mY j) (C := cN (mO j)) (b := kad K k) (As := As.map (cv (kad K))) hS0 hM ⟨callB_of (mP j) hts hGw rfl rfl rfl hini (hts _ hl) hdd hroom, hts _ (m3 g1), hts _ (m4 g1 hni)⟩ ⟨cPc_blind, hrv, hpre⟩ rfl (by simpa using hl2) hL.size hstk (lv_room (arest_room har)) hd hcell
      · refine va_runVN (y := mY j) (C := cN (mO j)) (host := "NineDemands") (b := kad K k) (As := As.map (cv (kad K))) hS0 hM ⟨va_cnB (mP j) hts hGw rfl rfl rfl (va_Nw.of rfl (hts _ hl)) hini hdd hroom, hts _ (m3 g1), hts _ (m4 g1 hni)⟩ ⟨cPc_blind, hrv, hpre⟩ rfl (by simpa using hl2) hL.size hstk (lv_room (arest_room har)) hd hcell
  | invokespecial ix =>
    have hl2 : as.length = mP j + 1 := hasl
    match as, hl2, hrc, hpre, hM with
    | .ref k :: As, hl2, hrc, hpre, hM =>
      have hrc' : (!(mS j) && Nat.blt k 999 && Nat.blt k n && Nat.beq (kd k) (mO j + 3) && Nat.blt (mO j) 10) = true := hrc
      simp only [Bool.and_eq_true, Bool.not_eq_true'] at hrc'
      obtain ⟨⟨⟨⟨g1, g2⟩, g3⟩, g4⟩, g5⟩ := hrc'
      have hni := cv2 rfl
      refine after_call (aa := (Value.ref (kad K k) :: As.map (cv (kad K))).toArray) (st0 := (((Value.ref k :: As).map (cv (kad K))).reverse ++ r.map (cv (kad K)))) hnn h0 hpv hL hS ?_ h
      have hstk : ((Value.ref k :: As).map (cv (kad K))).reverse ++ r.map (cv (kad K)) = (As.map (cv (kad K))).reverse ++ Value.ref (kad K k) :: r.map (cv (kad K)) := by simp [cv]
      have hret : mR j = none := mR_init j hj hni
      have hGw' := hGw
      rcases (hlink ix hkl).1 with ⟨-, hl⟩ | hl
      · refine va_runI (y := mY j) (bytes := mB j) (maxL := mL j) (b := kad K k) (As := As.map (cv (kad K))) hS0 hM ⟨?_, hni, hts _ (m3 g1)⟩ ⟨cPc_blind, hpre⟩ rfl (by simpa using hl2) hL.size hstk (lv_room (arest_room har)) hd hcell
        have := callB_of (R := R) (rm := { frames := d', cells := n' - n, slots := tot n' - tot n, locals := 40 * d' }) (mP j) hts hGw (rfl : wsM j = Cond.code (mY j) (mB j) (mL j) (mR j) :: gW) rfl rfl hini (hts _ hl) hdd hroom
        rwa [hret] at this
      · refine va_runIN (y := mY j) (bytes := mB j) (maxL := mL j) (host := "NineDemands") (b := kad K k) (As := As.map (cv (kad K))) hS0 hM ⟨?_, hni, hts _ (m3 g1)⟩ ⟨cPc_blind, hpre⟩ rfl (by simpa using hl2) hL.size hstk (lv_room (arest_room har)) hd hcell
        have := va_cnB (R := R) (rm := { frames := d', cells := n' - n, slots := tot n' - tot n, locals := 40 * d' }) (mP j) hts hGw (rfl : wsM j = Cond.code (mY j) (mB j) (mL j) (mR j) :: gW) rfl rfl (va_Nw.of rfl (hts _ hl)) hini hdd hroom
        rwa [hret] at this
  | _ => simp [acall] at hk
end WALK
