/-! what a picture says of the machine's state; the instructions that touch no cell -/
def adr (sz b : Nat) (sa : Nat → Nat) (k : Nat) : Nat := if k < 999 then sz + k else if k = 999 then b else sa (k - 1000)
def cv (ad : Nat → Nat) (v : Value) : Value := match v with | .ref k => .ref (ad k) | v => v
theorem cv_cat (ad : Nat → Nat) (v : Value) : (cv ad v).category = v.category := by cases v <;> rfl
/-- the world's constants: the first cell's place, the script's, the static rows'; classes; the rows' classes -/
abbrev WK : Type := Nat × Nat × (Nat → Nat) × va_G × ClassId × ClassId × ClassId
abbrev wsz (K : WK) : Nat := K.1
abbrev wb (K : WK) : Nat := K.2.1
abbrev wsa (K : WK) : Nat → Nat := K.2.2.1
abbrev wD (K : WK) : va_G := K.2.2.2.1
abbrev wI (K : WK) : ClassId := K.2.2.2.2.1
abbrev wL (K : WK) : ClassId := K.2.2.2.2.2.1
abbrev wS (K : WK) : ClassId := K.2.2.2.2.2.2
def kad (K : WK) : Nat → Nat := adr (wsz K) (wb K) (wsa K)
def cellOK (K : WK) (μ : AM) (k : Nat) (H : Heap) : Prop :=
  if kd k = 0 then H[kad K k]? = some (arrV (wI K) (ln k) (fun j => .int (toI (μ k j))))
  else if kd k = 1 then H[kad K k]? = some (arrV (wL K) (ln k) (fun j => cv (kad K) (μ k j)))
  else if kd k = 2 then H[kad K k]? = some (arrV (wS K) (ln k) (fun j => cv (kad K) (μ k j)))
  else t_OB (kad K k) ((wD K).1 (kd k - 3)) (kN (kd k - 3)) ((wD K).2 (kd k - 3)) H (fun j => cv (kad K) (μ k j))
def wA (K : WK) : Nat → Prop := fun q => wsz K ≤ q
def wTy (K : WK) : List (ClassId × FieldType) := [(wI K, .int), (wL K, .object "NineDemands$Law"), (wS K, .object "NineDemands$Sheet")]
def Wd (K : WK) (X : AX) (n : Nat) (μ : AM) (U : State) (H : Heap) : Prop :=
  H.size = wsz K + n ∧ n ≤ 999 ∧ (∀ k, k < n → cellOK K μ k H) ∧ va_K (wD K) kcl (wTy K) U ∧ wb K < wsz K ∧ va_X (wb K) X.1 X.2 U H ∧ ∀ q, q < 7 → va_Z (sC q) (sM q) "[I" (.ref (wsa K q)) (wA K) U H ∧ va_T .int (wsa K q) (sN q) (fun j => .int (sT q j)) (wA K) U H
theorem Wd.upd {K : WK} {X : AX} {n n' : Nat} {μ μ' : AM} {U : State} {H H1 : Heap} (h : Wd K X n μ U H) (hz : H1.size = wsz K + n') (hn : n' ≤ 999) (ho : ∀ q : Nat, q < wsz K → H1[q]? = H[q]?) (hc : ∀ k, k < n' → cellOK K μ' k H1) : Wd K X n' μ' U H1 := by
  obtain ⟨h1, h2, h3, h4, h5, ⟨scr, x1, x2⟩, h7⟩ := h
  refine ⟨hz, hn, hc, h4, h5, ⟨scr, by rw [ho _ h5]; exact x1, x2⟩, fun q hq => ⟨(h7 q hq).1.kept fun a _ ha => ho a (Nat.not_le.mp ha), (h7 q hq).2.kept fun a _ ha => ho a (Nat.not_le.mp ha)⟩⟩
theorem Wd.moved {K : WK} {X : AX} {n : Nat} {μ : AM} {u U : State} {H : Heap} (hvm : u.vm.Alike U.vm) (h : Wd K X n μ u H) : Wd K X n μ U H := by
  obtain ⟨h1, h2, h3, h4, h5, h6, h7⟩ := h
  exact ⟨h1, h2, h3, va_K.moved hvm h4, h5, h6.moved hvm, fun q hq => ⟨(h7 q hq).1.moved hvm, (h7 q hq).2.moved hvm⟩⟩
theorem kad_lt {K : WK} {k : Nat} (h : k < 999) : kad K k = wsz K + k := by simp [kad, adr, h]
def LR (K : WK) (nL : Nat) (LS : Array Slot) (ls : AL) : Prop := ls.length = nL ∧ ∃ lv : List (Nat × Value), lv_has LS nL lv ∧ ∀ (i : Nat) (v : Value), ls.getD i none = some v → (i, cv (kad K) v) ∈ lv
theorem LR.get {K : WK} {nL : Nat} {LS : Array Slot} {ls : AL} {i : Nat} {v : Value} (h : LR K nL LS ls) (hg : lget ls i = some v) : LS[i]? = some (.val (cv (kad K) v)) := by
  obtain ⟨-, lv, h1, h2⟩ := h
  exact h1.2.2 _ (h2 i v hg)
theorem LR.size {K : WK} {nL : Nat} {LS : Array Slot} {ls : AL} (h : LR K nL LS ls) : LS.size = nL := by
  obtain ⟨-, lv, h1, -⟩ := h
  exact h1.1
theorem lcl_cat {ls : AL} {i : Nat} {v : Value} (h : lcl ls i = true) (hv : ls.getD i none = some v) : v.category = 1 := by
  unfold lcl at h
  rw [hv] at h
  cases v <;> first | rfl | cases h
theorem getD_set {ls : AL} {i j : Nat} {x : Option Value} (hi : i < ls.length) : (ls.set i x).getD j none = if j = i then x else ls.getD j none := by
  simp only [List.getD_eq_getElem?_getD, List.getElem?_set]
  by_cases h : i = j
  · subst h; simp [hi]
  · simp [h, Ne.symm h]
theorem lset_spec {ls ls' : AL} {i : Nat} {v : Value} (h : lset ls i v = some ls') : i < ls.length ∧ lok ls i = true ∧ ls' = ls.set i (some v) := by
  unfold lset at h
  cases hg : (Nat.blt i ls.length && lok ls i) with
  | false => rw [hg] at h; cases h
  | true =>
    rw [hg] at h
    obtain ⟨h1, h2⟩ := Bool.and_eq_true_iff.mp hg
    exact ⟨Nat.blt_eq.mp h1, h2, (Option.some.inj h).symm⟩
theorem lset2_spec {ls ls' : AL} {i : Nat} {v : Value} (h : lset2 ls i v = some ls') : i + 1 < ls.length ∧ lok ls i = true ∧ ls' = (ls.set i (some v)).set (i + 1) none := by
  unfold lset2 at h
  cases hg : (Nat.blt (i + 1) ls.length && lok ls i) with
  | false => rw [hg] at h; cases h
  | true =>
    rw [hg] at h
    obtain ⟨h1, h2⟩ := Bool.and_eq_true_iff.mp hg
    exact ⟨Nat.blt_eq.mp h1, h2, (Option.some.inj h).symm⟩
theorem lok_spec {ls : AL} {i j : Nat} {v : Value} (h : lok ls i = true) (hj : j + 1 = i) (hv : ls.getD j none = some v) : v.category = 1 := by
  subst hj
  exact lcl_cat h hv
theorem LR.set1 {K : WK} {nL : Nat} {LS : Array Slot} {ls ls' : AL} {i : Nat} {v : Value} (h : LR K nL LS ls) (hs : lset ls i v = some ls') : i < nL ∧ ∃ lv, lv_has LS nL lv ∧ (∀ (j : Nat) (w : Value), ls.getD j none = some w → (j, cv (kad K) w) ∈ lv) ∧ ∀ LS', lv_has LS' nL ((i, cv (kad K) v) :: lv.filter (fun q => !(q.1 == i) && !(q.1 + 1 == i && q.2.category == 2))) → LR K nL LS' ls' := by
  obtain ⟨h0, lv, h1, h2⟩ := h
  obtain ⟨hi, hk, rfl⟩ := lset_spec hs
  refine ⟨by omega, lv, h1, h2, fun LS' h3 => ⟨by simpa using h0, _, h3, fun j w hw => ?_⟩⟩
  rw [getD_set hi] at hw
  by_cases hj : j = i
  · subst hj
    rw [if_pos rfl] at hw
    cases hw
    exact List.mem_cons_self
  · rw [if_neg hj] at hw
    refine List.mem_cons_of_mem _ (List.mem_filter.mpr ⟨h2 j w hw, ?_⟩)
    by_cases hq : j + 1 = i
    · have := lok_spec hk hq hw
      simp [hj, cv_cat, this]
    · simp [hj, hq]
theorem LR.set2 {K : WK} {nL : Nat} {LS : Array Slot} {ls ls' : AL} {i : Nat} {v : Value} (h : LR K nL LS ls) (hs : lset2 ls i v = some ls') : i + 1 < nL ∧ ∃ lv, lv_has LS nL lv ∧ ∀ LS', lv_has LS' nL ((i, cv (kad K) v) :: lv.filter (fun q => !(q.1 == i) && (!(q.1 == i + 1) && !(q.1 + 1 == i && q.2.category == 2)))) → LR K nL LS' ls' := by
  obtain ⟨h0, lv, h1, h2⟩ := h
  obtain ⟨hi, hk, rfl⟩ := lset2_spec hs
  refine ⟨by omega, lv, h1, fun LS' h3 => ⟨by simpa using h0, _, h3, fun j w hw => ?_⟩⟩
  rw [getD_set (by simpa using hi)] at hw
  by_cases hj1 : j = i + 1
  · rw [if_pos hj1] at hw; cases hw
  rw [if_neg hj1, getD_set (by omega)] at hw
  by_cases hj : j = i
  · subst hj
    rw [if_pos rfl] at hw
    cases hw
    exact List.mem_cons_self
  · rw [if_neg hj] at hw
    refine List.mem_cons_of_mem _ (List.mem_filter.mpr ⟨h2 j w hw, ?_⟩)
    by_cases hq : j + 1 = i
    · have := lok_spec hk hq hw
      simp [hj, hj1, cv_cat, this]
    · simp [hj, hj1, hq]
def tot : Nat → Nat
  | 0 => 0
  | n + 1 => tot n + ln n
def Cx (p : Program) (s : State) (m : MethodId) (args : Array Value) (meth : Method) (c : Code) (i : Nat) : Prop := p.tables.exec = Jvm.exec ∧ c.code = mB i ∧ meth.sig.returnType = mR i ∧ c.maxLocals = mL i ∧ s.vm.findClass (cN (mO i)) = some m.cls ∧ (∀ w ∈ lwU, w.before args s = true) ∧ meth.locks = false ∧ ((mY i).name = "<init>" → meth.name = "<init>")
section SO
variable {p : Program} {l : Launch} {e : Env} {R : Room} {s : State} {m : MethodId} {args : Array Value} {below : List Frame} {meth : Method} {c : Code} {Q : State → Prop} {K : WK} {X : AX} {i n0 : Nat}
def AW (K : WK) (X : AX) (p : Program) (l : Launch) (e : Env) (R : Room) (s : State) (m : MethodId) (args : Array Value) (below : List Frame) (meth : Method) (c : Code) (i n0 : Nat) (Q : State → Prop) (pc : Nat) (ls : AL) (st : List Value) (n : Nat) (μ : AM) : Prop :=
  n0 ≤ n → ∀ (LS : Array Slot) (H : Heap) (locs : List Loc), LR K (mL i) LS ls → Wd K X n μ s H → va_S (wA K) s.heap H locs → W p l e R s m args below meth c H locs (n - n0) (tot n - tot n0) Q (F0 m pc LS (st.map (cv (kad K))))
variable {pc pc' n n' : Nat} {ls ls' : AL} {st st' : List Value} {μ μ' : AM}
theorem so_iconst (C : Cx p s m args meth c i) {k : Int} (hd : decode (mB i) pc = .ok (.iconst k, 1)) (h : AW K X p l e R s m args below meth c i n0 Q (pc + 1) ls (.int (Int32.ofInt k) :: st) n μ) : AW K X p l e R s m args below meth c i n0 Q pc ls st n μ := fun h0 LS H locs hL hW hS => lv_iconst C.1 C.2.1 hd rfl (h h0 LS H locs hL hW hS)
theorem so_bipush (C : Cx p s m args meth c i) {k : Int} (hd : decode (mB i) pc = .ok (.bipush k, 2)) (h : AW K X p l e R s m args below meth c i n0 Q (pc + 2) ls (.int (Int8.ofInt k).toInt32 :: st) n μ) : AW K X p l e R s m args below meth c i n0 Q pc ls st n μ := fun h0 LS H locs hL hW hS => lv_bipush C.1 C.2.1 hd rfl (h h0 LS H locs hL hW hS)
theorem so_sipush (C : Cx p s m args meth c i) {k : Int} (hd : decode (mB i) pc = .ok (.sipush k, 3)) (h : AW K X p l e R s m args below meth c i n0 Q (pc + 3) ls (.int (Int16.ofInt k).toInt32 :: st) n μ) : AW K X p l e R s m args below meth c i n0 Q pc ls st n μ := fun h0 LS H locs hL hW hS => lv_sipush C.1 C.2.1 hd rfl (h h0 LS H locs hL hW hS)
theorem so_lconst (C : Cx p s m args meth c i) {k : Fin 2} (hd : decode (mB i) pc = .ok (.lconst k, 1)) (h : AW K X p l e R s m args below meth c i n0 Q (pc + 1) ls (.long (Int64.ofNat k) :: st) n μ) : AW K X p l e R s m args below meth c i n0 Q pc ls st n μ := fun h0 LS H locs hL hW hS => lv_lconst C.1 C.2.1 hd rfl (h h0 LS H locs hL hW hS)
theorem so_ldc (C : Cx p s m args meth c i) {ix : Nat} {v : Int32} (hw : Cond.constant (cN (mO i)) ix v ∈ lwU) (hd : decode (mB i) pc = .ok (.ldc ix, 2)) (h : AW K X p l e R s m args below meth c i n0 Q (pc + 2) ls (.int v :: st) n μ) : AW K X p l e R s m args below meth c i n0 Q pc ls st n μ := fun h0 LS H locs hL hW hS => lv_ldc C.1 C.2.1 C.2.2.2.2.1 (C.2.2.2.2.2.1 _ hw) hd (h h0 LS H locs hL hW hS)
theorem so_ldcw (C : Cx p s m args meth c i) {ix : Nat} {v : Int32} (hw : Cond.constant (cN (mO i)) ix v ∈ lwU) (hd : decode (mB i) pc = .ok (.ldc_w ix, 3)) (h : AW K X p l e R s m args below meth c i n0 Q (pc + 3) ls (.int v :: st) n μ) : AW K X p l e R s m args below meth c i n0 Q pc ls st n μ := fun h0 LS H locs hL hW hS => lv_ldcw C.1 C.2.1 C.2.2.2.2.1 (C.2.2.2.2.2.1 _ hw) hd (h h0 LS H locs hL hW hS)
theorem so_ldc2 (C : Cx p s m args meth c i) {ix : Nat} {v : Int64} (hw : Cond.constantLong (cN (mO i)) ix v ∈ lwU) (hd : decode (mB i) pc = .ok (.ldc2_w ix, 3)) (h : AW K X p l e R s m args below meth c i n0 Q (pc + 3) ls (.long v :: st) n μ) : AW K X p l e R s m args below meth c i n0 Q pc ls st n μ := fun h0 LS H locs hL hW hS => lv_ldc2 C.1 C.2.1 C.2.2.2.2.1 (C.2.2.2.2.2.1 _ hw) hd (h h0 LS H locs hL hW hS)
theorem so_iload_n (C : Cx p s m args meth c i) {k : Fin 4} {x : Int32} (hg : lget ls k = some (.int x)) (hd : decode (mB i) pc = .ok (.iload_n k, 1)) (h : AW K X p l e R s m args below meth c i n0 Q (pc + 1) ls (.int x :: st) n μ) : AW K X p l e R s m args below meth c i n0 Q pc ls st n μ := fun h0 LS H locs hL hW hS => lv_iload_n C.1 C.2.1 hd rfl (hL.get hg) (h h0 LS H locs hL hW hS)
theorem so_iload (C : Cx p s m args meth c i) {k : Nat} {x : Int32} (hg : lget ls k = some (.int x)) (hd : decode (mB i) pc = .ok (.iload k, 2)) (h : AW K X p l e R s m args below meth c i n0 Q (pc + 2) ls (.int x :: st) n μ) : AW K X p l e R s m args below meth c i n0 Q pc ls st n μ := fun h0 LS H locs hL hW hS => lv_iload C.1 C.2.1 hd (hL.get hg) (h h0 LS H locs hL hW hS)
theorem so_aload_n (C : Cx p s m args meth c i) {k : Fin 4} {x : Nat} (hg : lget ls k = some (.ref x)) (hd : decode (mB i) pc = .ok (.aload_n k, 1)) (h : AW K X p l e R s m args below meth c i n0 Q (pc + 1) ls (.ref x :: st) n μ) : AW K X p l e R s m args below meth c i n0 Q pc ls st n μ := fun h0 LS H locs hL hW hS => lv_aload_n C.1 C.2.1 hd rfl (hL.get hg) (h h0 LS H locs hL hW hS)
theorem so_aload (C : Cx p s m args meth c i) {k : Nat} {x : Nat} (hg : lget ls k = some (.ref x)) (hd : decode (mB i) pc = .ok (.aload k, 2)) (h : AW K X p l e R s m args below meth c i n0 Q (pc + 2) ls (.ref x :: st) n μ) : AW K X p l e R s m args below meth c i n0 Q pc ls st n μ := fun h0 LS H locs hL hW hS => lv_aload C.1 C.2.1 hd (hL.get hg) (h h0 LS H locs hL hW hS)
theorem so_lload_n (C : Cx p s m args meth c i) {k : Fin 4} {x : Int64} (hg : lget ls k = some (.long x)) (hd : decode (mB i) pc = .ok (.lload_n k, 1)) (h : AW K X p l e R s m args below meth c i n0 Q (pc + 1) ls (.long x :: st) n μ) : AW K X p l e R s m args below meth c i n0 Q pc ls st n μ := fun h0 LS H locs hL hW hS => lv_lload_n C.1 C.2.1 hd rfl (hL.get hg) (h h0 LS H locs hL hW hS)
theorem so_istore_n (C : Cx p s m args meth c i) {k : Fin 4} {x : Int32} (hs : lset ls k (.int x) = some ls') (hd : decode (mB i) pc = .ok (.istore_n k, 1)) (h : AW K X p l e R s m args below meth c i n0 Q (pc + 1) ls' st n μ) : AW K X p l e R s m args below meth c i n0 Q pc ls (.int x :: st) n μ := fun h0 LS H locs hL hW hS => by
  obtain ⟨hi, lv, h1, -, h2⟩ := hL.set1 hs
  exact lv_istore_n C.1 C.2.1 hd rfl h1 hi rfl (fun LS' hl => h h0 LS' H locs (h2 LS' hl) hW hS)
theorem so_istore (C : Cx p s m args meth c i) {k : Nat} {x : Int32} (hs : lset ls k (.int x) = some ls') (hd : decode (mB i) pc = .ok (.istore k, 2)) (h : AW K X p l e R s m args below meth c i n0 Q (pc + 2) ls' st n μ) : AW K X p l e R s m args below meth c i n0 Q pc ls (.int x :: st) n μ := fun h0 LS H locs hL hW hS => by
  obtain ⟨hi, lv, h1, -, h2⟩ := hL.set1 hs
  exact lv_istore C.1 C.2.1 hd h1 hi rfl (fun LS' hl => h h0 LS' H locs (h2 LS' hl) hW hS)
theorem so_astore_n (C : Cx p s m args meth c i) {k : Fin 4} {x : Nat} (hs : lset ls k (.ref x) = some ls') (hd : decode (mB i) pc = .ok (.astore_n k, 1)) (h : AW K X p l e R s m args below meth c i n0 Q (pc + 1) ls' st n μ) : AW K X p l e R s m args below meth c i n0 Q pc ls (.ref x :: st) n μ := fun h0 LS H locs hL hW hS => by
  obtain ⟨hi, lv, h1, -, h2⟩ := hL.set1 hs
  exact lv_astore_n C.1 C.2.1 hd rfl h1 hi rfl (fun LS' hl => h h0 LS' H locs (h2 LS' hl) hW hS)
theorem so_astore (C : Cx p s m args meth c i) {k : Nat} {x : Nat} (hs : lset ls k (.ref x) = some ls') (hd : decode (mB i) pc = .ok (.astore k, 2)) (h : AW K X p l e R s m args below meth c i n0 Q (pc + 2) ls' st n μ) : AW K X p l e R s m args below meth c i n0 Q pc ls (.ref x :: st) n μ := fun h0 LS H locs hL hW hS => by
  obtain ⟨hi, lv, h1, -, h2⟩ := hL.set1 hs
  exact lv_astore C.1 C.2.1 hd h1 hi rfl (fun LS' hl => h h0 LS' H locs (h2 LS' hl) hW hS)
theorem so_lstore_n (C : Cx p s m args meth c i) {k : Fin 4} {x : Int64} (hs : lset2 ls k (.long x) = some ls') (hd : decode (mB i) pc = .ok (.lstore_n k, 1)) (h : AW K X p l e R s m args below meth c i n0 Q (pc + 1) ls' st n μ) : AW K X p l e R s m args below meth c i n0 Q pc ls (.long x :: st) n μ := fun h0 LS H locs hL hW hS => by
  obtain ⟨hi, lv, h1, h2⟩ := hL.set2 hs
  exact lv_lstore_n C.1 C.2.1 hd rfl h1 hi rfl (fun LS' hl => h h0 LS' H locs (h2 LS' hl) hW hS)
theorem so_iinc (C : Cx p s m args meth c i) {k : Nat} {d : Int} {x : Int32} (hg : lget ls k = some (.int x)) (hs : lset ls k (.int (x + Int32.ofInt d)) = some ls') (hd : decode (mB i) pc = .ok (.iinc k d, 3)) (h : AW K X p l e R s m args below meth c i n0 Q (pc + 3) ls' st n μ) : AW K X p l e R s m args below meth c i n0 Q pc ls st n μ := fun h0 LS H locs hL hW hS => by
  obtain ⟨hi, lv, h1, hm, h2⟩ := hL.set1 hs
  obtain ⟨q, hq⟩ := List.getElem?_of_mem (hm k _ hg)
  exact lv_iinc C.1 C.2.1 hd h1 hq rfl hi rfl (fun LS' hl => h h0 LS' H locs (h2 LS' hl) hW hS)
theorem so_dupi (C : Cx p s m args meth c i) {x : Int32} (hd : decode (mB i) pc = .ok (.dup, 1)) (h : AW K X p l e R s m args below meth c i n0 Q (pc + 1) ls (.int x :: .int x :: st) n μ) : AW K X p l e R s m args below meth c i n0 Q pc ls (.int x :: st) n μ := fun h0 LS H locs hL hW hS => lv_dup C.1 C.2.1 hd rfl (h h0 LS H locs hL hW hS)
theorem so_dupr (C : Cx p s m args meth c i) {x : Nat} (hd : decode (mB i) pc = .ok (.dup, 1)) (h : AW K X p l e R s m args below meth c i n0 Q (pc + 1) ls (.ref x :: .ref x :: st) n μ) : AW K X p l e R s m args below meth c i n0 Q pc ls (.ref x :: st) n μ := fun h0 LS H locs hL hW hS => lv_dup C.1 C.2.1 hd rfl (h h0 LS H locs hL hW hS)
theorem so_dup2 (C : Cx p s m args meth c i) {x : Int32} {y : Nat} (hd : decode (mB i) pc = .ok (.dup2, 1)) (h : AW K X p l e R s m args below meth c i n0 Q (pc + 1) ls (.int x :: .ref y :: .int x :: .ref y :: st) n μ) : AW K X p l e R s m args below meth c i n0 Q pc ls (.int x :: .ref y :: st) n μ := fun h0 LS H locs hL hW hS => lv_dup2_11 C.1 C.2.1 hd rfl rfl (h h0 LS H locs hL hW hS)
theorem so_iadd (C : Cx p s m args meth c i) {x y : Int32} (hd : decode (mB i) pc = .ok (.iadd, 1)) (h : AW K X p l e R s m args below meth c i n0 Q (pc + 1) ls (.int (x + y) :: st) n μ) : AW K X p l e R s m args below meth c i n0 Q pc ls (.int y :: .int x :: st) n μ := fun h0 LS H locs hL hW hS => lv_iadd C.1 C.2.1 hd (h h0 LS H locs hL hW hS)
theorem so_isub (C : Cx p s m args meth c i) {x y : Int32} (hd : decode (mB i) pc = .ok (.isub, 1)) (h : AW K X p l e R s m args below meth c i n0 Q (pc + 1) ls (.int (x - y) :: st) n μ) : AW K X p l e R s m args below meth c i n0 Q pc ls (.int y :: .int x :: st) n μ := fun h0 LS H locs hL hW hS => lv_isub C.1 C.2.1 hd (h h0 LS H locs hL hW hS)
theorem so_imul (C : Cx p s m args meth c i) {x y : Int32} (hd : decode (mB i) pc = .ok (.imul, 1)) (h : AW K X p l e R s m args below meth c i n0 Q (pc + 1) ls (.int (x * y) :: st) n μ) : AW K X p l e R s m args below meth c i n0 Q pc ls (.int y :: .int x :: st) n μ := fun h0 LS H locs hL hW hS => lv_imul C.1 C.2.1 hd (h h0 LS H locs hL hW hS)
theorem so_iand (C : Cx p s m args meth c i) {x y : Int32} (hd : decode (mB i) pc = .ok (.iand, 1)) (h : AW K X p l e R s m args below meth c i n0 Q (pc + 1) ls (.int (x &&& y) :: st) n μ) : AW K X p l e R s m args below meth c i n0 Q pc ls (.int y :: .int x :: st) n μ := fun h0 LS H locs hL hW hS => lv_iand C.1 C.2.1 hd (h h0 LS H locs hL hW hS)
theorem so_ior (C : Cx p s m args meth c i) {x y : Int32} (hd : decode (mB i) pc = .ok (.ior, 1)) (h : AW K X p l e R s m args below meth c i n0 Q (pc + 1) ls (.int (x ||| y) :: st) n μ) : AW K X p l e R s m args below meth c i n0 Q pc ls (.int y :: .int x :: st) n μ := fun h0 LS H locs hL hW hS => lv_ior C.1 C.2.1 hd (h h0 LS H locs hL hW hS)
theorem so_ixor (C : Cx p s m args meth c i) {x y : Int32} (hd : decode (mB i) pc = .ok (.ixor, 1)) (h : AW K X p l e R s m args below meth c i n0 Q (pc + 1) ls (.int (x ^^^ y) :: st) n μ) : AW K X p l e R s m args below meth c i n0 Q pc ls (.int y :: .int x :: st) n μ := fun h0 LS H locs hL hW hS => lv_ixor C.1 C.2.1 hd (h h0 LS H locs hL hW hS)
theorem so_ishl (C : Cx p s m args meth c i) {x y : Int32} (hd : decode (mB i) pc = .ok (.ishl, 1)) (h : AW K X p l e R s m args below meth c i n0 Q (pc + 1) ls (.int (x <<< (y &&& 31)) :: st) n μ) : AW K X p l e R s m args below meth c i n0 Q pc ls (.int y :: .int x :: st) n μ := fun h0 LS H locs hL hW hS => lv_ishl C.1 C.2.1 hd (h h0 LS H locs hL hW hS)
theorem so_ishr (C : Cx p s m args meth c i) {x y : Int32} (hd : decode (mB i) pc = .ok (.ishr, 1)) (h : AW K X p l e R s m args below meth c i n0 Q (pc + 1) ls (.int (x >>> (y &&& 31)) :: st) n μ) : AW K X p l e R s m args below meth c i n0 Q pc ls (.int y :: .int x :: st) n μ := fun h0 LS H locs hL hW hS => lv_ishr C.1 C.2.1 hd (h h0 LS H locs hL hW hS)
theorem so_iushr (C : Cx p s m args meth c i) {x y : Int32} (hd : decode (mB i) pc = .ok (.iushr, 1)) (h : AW K X p l e R s m args below meth c i n0 Q (pc + 1) ls (.int ((x.toUInt32 >>> (y.toUInt32 &&& Int32.toUInt32 31)).toInt32) :: st) n μ) : AW K X p l e R s m args below meth c i n0 Q pc ls (.int y :: .int x :: st) n μ := fun h0 LS H locs hL hW hS => lv_iushr C.1 C.2.1 hd rfl (h h0 LS H locs hL hW hS)
theorem so_idiv (C : Cx p s m args meth c i) {x y : Int32} (hy : ¬ y = 0) (hd : decode (mB i) pc = .ok (.idiv, 1)) (h : AW K X p l e R s m args below meth c i n0 Q (pc + 1) ls (.int (x / y) :: st) n μ) : AW K X p l e R s m args below meth c i n0 Q pc ls (.int y :: .int x :: st) n μ := fun h0 LS H locs hL hW hS => lv_idiv C.1 C.2.1 hd hy (h h0 LS H locs hL hW hS)
theorem so_irem (C : Cx p s m args meth c i) {x y : Int32} (hy : ¬ y = 0) (hd : decode (mB i) pc = .ok (.irem, 1)) (h : AW K X p l e R s m args below meth c i n0 Q (pc + 1) ls (.int (x - x / y * y) :: st) n μ) : AW K X p l e R s m args below meth c i n0 Q pc ls (.int y :: .int x :: st) n μ := fun h0 LS H locs hL hW hS => lv_irem C.1 C.2.1 hd hy (h h0 LS H locs hL hW hS)
theorem so_ineg (C : Cx p s m args meth c i) {x : Int32} (hd : decode (mB i) pc = .ok (.ineg, 1)) (h : AW K X p l e R s m args below meth c i n0 Q (pc + 1) ls (.int (-x) :: st) n μ) : AW K X p l e R s m args below meth c i n0 Q pc ls (.int x :: st) n μ := fun h0 LS H locs hL hW hS => lv_ineg C.1 C.2.1 hd (h h0 LS H locs hL hW hS)
theorem so_i2b (C : Cx p s m args meth c i) {x : Int32} (hd : decode (mB i) pc = .ok (.i2b, 1)) (h : AW K X p l e R s m args below meth c i n0 Q (pc + 1) ls (.int (x.toInt8.toInt32) :: st) n μ) : AW K X p l e R s m args below meth c i n0 Q pc ls (.int x :: st) n μ := fun h0 LS H locs hL hW hS => lv_i2b C.1 C.2.1 hd rfl (h h0 LS H locs hL hW hS)
theorem so_i2s (C : Cx p s m args meth c i) {x : Int32} (hd : decode (mB i) pc = .ok (.i2s, 1)) (h : AW K X p l e R s m args below meth c i n0 Q (pc + 1) ls (.int (x.toInt16.toInt32) :: st) n μ) : AW K X p l e R s m args below meth c i n0 Q pc ls (.int x :: st) n μ := fun h0 LS H locs hL hW hS => lv_i2s C.1 C.2.1 hd rfl (h h0 LS H locs hL hW hS)
theorem so_i2l (C : Cx p s m args meth c i) {x : Int32} (hd : decode (mB i) pc = .ok (.i2l, 1)) (h : AW K X p l e R s m args below meth c i n0 Q (pc + 1) ls (.long x.toInt64 :: st) n μ) : AW K X p l e R s m args below meth c i n0 Q pc ls (.int x :: st) n μ := fun h0 LS H locs hL hW hS => lv_i2l C.1 C.2.1 hd rfl (h h0 LS H locs hL hW hS)
theorem so_l2i (C : Cx p s m args meth c i) {x : Int64} (hd : decode (mB i) pc = .ok (.l2i, 1)) (h : AW K X p l e R s m args below meth c i n0 Q (pc + 1) ls (.int x.toInt32 :: st) n μ) : AW K X p l e R s m args below meth c i n0 Q pc ls (.long x :: st) n μ := fun h0 LS H locs hL hW hS => lv_l2i C.1 C.2.1 hd rfl (h h0 LS H locs hL hW hS)
theorem so_ladd (C : Cx p s m args meth c i) {x y : Int64} (hd : decode (mB i) pc = .ok (.ladd, 1)) (h : AW K X p l e R s m args below meth c i n0 Q (pc + 1) ls (.long (x + y) :: st) n μ) : AW K X p l e R s m args below meth c i n0 Q pc ls (.long y :: .long x :: st) n μ := fun h0 LS H locs hL hW hS => lv_ladd C.1 C.2.1 hd (h h0 LS H locs hL hW hS)
theorem so_land (C : Cx p s m args meth c i) {x y : Int64} (hd : decode (mB i) pc = .ok (.land, 1)) (h : AW K X p l e R s m args below meth c i n0 Q (pc + 1) ls (.long (x &&& y) :: st) n μ) : AW K X p l e R s m args below meth c i n0 Q pc ls (.long y :: .long x :: st) n μ := fun h0 LS H locs hL hW hS => lv_land C.1 C.2.1 hd (h h0 LS H locs hL hW hS)
theorem so_lor (C : Cx p s m args meth c i) {x y : Int64} (hd : decode (mB i) pc = .ok (.lor, 1)) (h : AW K X p l e R s m args below meth c i n0 Q (pc + 1) ls (.long (x ||| y) :: st) n μ) : AW K X p l e R s m args below meth c i n0 Q pc ls (.long y :: .long x :: st) n μ := fun h0 LS H locs hL hW hS => lv_lor C.1 C.2.1 hd (h h0 LS H locs hL hW hS)
theorem so_lshl (C : Cx p s m args meth c i) {x : Int64} {y : Int32} (hd : decode (mB i) pc = .ok (.lshl, 1)) (h : AW K X p l e R s m args below meth c i n0 Q (pc + 1) ls (.long (x <<< (y.toInt64 &&& 63)) :: st) n μ) : AW K X p l e R s m args below meth c i n0 Q pc ls (.int y :: .long x :: st) n μ := fun h0 LS H locs hL hW hS => lv_lshl C.1 C.2.1 hd rfl (h h0 LS H locs hL hW hS)
theorem so_lshr (C : Cx p s m args meth c i) {x : Int64} {y : Int32} (hd : decode (mB i) pc = .ok (.lshr, 1)) (h : AW K X p l e R s m args below meth c i n0 Q (pc + 1) ls (.long (x >>> (y.toInt64 &&& 63)) :: st) n μ) : AW K X p l e R s m args below meth c i n0 Q pc ls (.int y :: .long x :: st) n μ := fun h0 LS H locs hL hW hS => lv_lshr C.1 C.2.1 hd rfl (h h0 LS H locs hL hW hS)
theorem so_lushr (C : Cx p s m args meth c i) {x : Int64} {y : Int32} (hd : decode (mB i) pc = .ok (.lushr, 1)) (h : AW K X p l e R s m args below meth c i n0 Q (pc + 1) ls (.long ((x.toUInt64 >>> (y.toInt64.toUInt64 &&& Int64.toUInt64 63)).toInt64) :: st) n μ) : AW K X p l e R s m args below meth c i n0 Q pc ls (.int y :: .long x :: st) n μ := fun h0 LS H locs hL hW hS => lv_lushr C.1 C.2.1 hd rfl (h h0 LS H locs hL hW hS)
theorem so_lcmp (C : Cx p s m args meth c i) {x y : Int64} (hd : decode (mB i) pc = .ok (.lcmp, 1)) (h : AW K X p l e R s m args below meth c i n0 Q (pc + 1) ls (.int (lg_cmp x y) :: st) n μ) : AW K X p l e R s m args below meth c i n0 Q pc ls (.long y :: .long x :: st) n μ := fun h0 LS H locs hL hW hS => W.lcmp C.1 C.2.1 hd (h h0 LS H locs hL hW hS)
theorem tgt_eq {pc : Nat} {off : Int} (h : tok pc off = true) : (pc : Int) + off = (tgt pc off : Int) := (Int.toNat_of_nonneg (of_decide_eq_true h)).symm
theorem so_goto (C : Cx p s m args meth c i) {off : Int} (ht : tok pc off = true) (hd : decode (mB i) pc = .ok (.goto off, 3)) (h : AW K X p l e R s m args below meth c i n0 Q (tgt pc off) ls st n μ) : AW K X p l e R s m args below meth c i n0 Q pc ls st n μ := fun h0 LS H locs hL hW hS => lv_goto C.1 C.2.1 hd (tgt_eq ht) (h h0 LS H locs hL hW hS)
theorem so_icmp_eq (C : Cx p s m args meth c i) {x y : Int32} {off : Int} (ht : tok pc off = true) (hd : decode (mB i) pc = .ok (.if_icmp .eq off, 3)) (h1 : cmp0 .eq x y = true → AW K X p l e R s m args below meth c i n0 Q (tgt pc off) ls st n μ) (h2 : cmp0 .eq x y = false → AW K X p l e R s m args below meth c i n0 Q (pc + 3) ls st n μ) : AW K X p l e R s m args below meth c i n0 Q pc ls (.int y :: .int x :: st) n μ := fun h0 LS H locs hL hW hS =>
  lv_icmp_eq C.1 C.2.1 hd (tgt_eq ht) (fun q => h1 (decide_eq_true q) h0 LS H locs hL hW hS) (fun q => h2 (decide_eq_false q) h0 LS H locs hL hW hS)
theorem so_if_eq (C : Cx p s m args meth c i) {x : Int32} {off : Int} (ht : tok pc off = true) (hd : decode (mB i) pc = .ok (.ifCond .eq off, 3)) (h1 : cmp0 .eq x 0 = true → AW K X p l e R s m args below meth c i n0 Q (tgt pc off) ls st n μ) (h2 : cmp0 .eq x 0 = false → AW K X p l e R s m args below meth c i n0 Q (pc + 3) ls st n μ) : AW K X p l e R s m args below meth c i n0 Q pc ls (.int x :: st) n μ := fun h0 LS H locs hL hW hS =>
  lv_if_eq C.1 C.2.1 hd (tgt_eq ht) (fun q => h1 (decide_eq_true q) h0 LS H locs hL hW hS) (fun q => h2 (decide_eq_false q) h0 LS H locs hL hW hS)
theorem so_icmp_ne (C : Cx p s m args meth c i) {x y : Int32} {off : Int} (ht : tok pc off = true) (hd : decode (mB i) pc = .ok (.if_icmp .ne off, 3)) (h1 : cmp0 .ne x y = true → AW K X p l e R s m args below meth c i n0 Q (tgt pc off) ls st n μ) (h2 : cmp0 .ne x y = false → AW K X p l e R s m args below meth c i n0 Q (pc + 3) ls st n μ) : AW K X p l e R s m args below meth c i n0 Q pc ls (.int y :: .int x :: st) n μ := fun h0 LS H locs hL hW hS =>
  lv_icmp_ne C.1 C.2.1 hd (tgt_eq ht) (fun q => h1 (decide_eq_true q) h0 LS H locs hL hW hS) (fun q => h2 (decide_eq_false (fun z => z q)) h0 LS H locs hL hW hS)
theorem so_if_ne (C : Cx p s m args meth c i) {x : Int32} {off : Int} (ht : tok pc off = true) (hd : decode (mB i) pc = .ok (.ifCond .ne off, 3)) (h1 : cmp0 .ne x 0 = true → AW K X p l e R s m args below meth c i n0 Q (tgt pc off) ls st n μ) (h2 : cmp0 .ne x 0 = false → AW K X p l e R s m args below meth c i n0 Q (pc + 3) ls st n μ) : AW K X p l e R s m args below meth c i n0 Q pc ls (.int x :: st) n μ := fun h0 LS H locs hL hW hS =>
  lv_if_ne C.1 C.2.1 hd (tgt_eq ht) (fun q => h1 (decide_eq_true q) h0 LS H locs hL hW hS) (fun q => h2 (decide_eq_false (fun z => z q)) h0 LS H locs hL hW hS)
theorem so_icmp_lt (C : Cx p s m args meth c i) {x y : Int32} {off : Int} (ht : tok pc off = true) (hd : decode (mB i) pc = .ok (.if_icmp .lt off, 3)) (h1 : cmp0 .lt x y = true → AW K X p l e R s m args below meth c i n0 Q (tgt pc off) ls st n μ) (h2 : cmp0 .lt x y = false → AW K X p l e R s m args below meth c i n0 Q (pc + 3) ls st n μ) : AW K X p l e R s m args below meth c i n0 Q pc ls (.int y :: .int x :: st) n μ := fun h0 LS H locs hL hW hS =>
  lv_icmp_lt C.1 C.2.1 hd (tgt_eq ht) (fun q => h1 (decide_eq_true q) h0 LS H locs hL hW hS) (fun q => h2 (decide_eq_false q) h0 LS H locs hL hW hS)
theorem so_if_lt (C : Cx p s m args meth c i) {x : Int32} {off : Int} (ht : tok pc off = true) (hd : decode (mB i) pc = .ok (.ifCond .lt off, 3)) (h1 : cmp0 .lt x 0 = true → AW K X p l e R s m args below meth c i n0 Q (tgt pc off) ls st n μ) (h2 : cmp0 .lt x 0 = false → AW K X p l e R s m args below meth c i n0 Q (pc + 3) ls st n μ) : AW K X p l e R s m args below meth c i n0 Q pc ls (.int x :: st) n μ := fun h0 LS H locs hL hW hS =>
  lv_if_lt C.1 C.2.1 hd (tgt_eq ht) (fun q => h1 (decide_eq_true q) h0 LS H locs hL hW hS) (fun q => h2 (decide_eq_false q) h0 LS H locs hL hW hS)
theorem so_icmp_ge (C : Cx p s m args meth c i) {x y : Int32} {off : Int} (ht : tok pc off = true) (hd : decode (mB i) pc = .ok (.if_icmp .ge off, 3)) (h1 : cmp0 .ge x y = true → AW K X p l e R s m args below meth c i n0 Q (tgt pc off) ls st n μ) (h2 : cmp0 .ge x y = false → AW K X p l e R s m args below meth c i n0 Q (pc + 3) ls st n μ) : AW K X p l e R s m args below meth c i n0 Q pc ls (.int y :: .int x :: st) n μ := fun h0 LS H locs hL hW hS =>
  lv_icmp_ge C.1 C.2.1 hd (tgt_eq ht) (fun q => h1 (decide_eq_true q) h0 LS H locs hL hW hS) (fun q => h2 (decide_eq_false q) h0 LS H locs hL hW hS)
theorem so_if_ge (C : Cx p s m args meth c i) {x : Int32} {off : Int} (ht : tok pc off = true) (hd : decode (mB i) pc = .ok (.ifCond .ge off, 3)) (h1 : cmp0 .ge x 0 = true → AW K X p l e R s m args below meth c i n0 Q (tgt pc off) ls st n μ) (h2 : cmp0 .ge x 0 = false → AW K X p l e R s m args below meth c i n0 Q (pc + 3) ls st n μ) : AW K X p l e R s m args below meth c i n0 Q pc ls (.int x :: st) n μ := fun h0 LS H locs hL hW hS =>
  lv_if_ge C.1 C.2.1 hd (tgt_eq ht) (fun q => h1 (decide_eq_true q) h0 LS H locs hL hW hS) (fun q => h2 (decide_eq_false q) h0 LS H locs hL hW hS)
theorem so_icmp_gt (C : Cx p s m args meth c i) {x y : Int32} {off : Int} (ht : tok pc off = true) (hd : decode (mB i) pc = .ok (.if_icmp .gt off, 3)) (h1 : cmp0 .gt x y = true → AW K X p l e R s m args below meth c i n0 Q (tgt pc off) ls st n μ) (h2 : cmp0 .gt x y = false → AW K X p l e R s m args below meth c i n0 Q (pc + 3) ls st n μ) : AW K X p l e R s m args below meth c i n0 Q pc ls (.int y :: .int x :: st) n μ := fun h0 LS H locs hL hW hS =>
  lv_icmp_gt C.1 C.2.1 hd (tgt_eq ht) (fun q => h1 (decide_eq_true q) h0 LS H locs hL hW hS) (fun q => h2 (decide_eq_false q) h0 LS H locs hL hW hS)
theorem so_if_gt (C : Cx p s m args meth c i) {x : Int32} {off : Int} (ht : tok pc off = true) (hd : decode (mB i) pc = .ok (.ifCond .gt off, 3)) (h1 : cmp0 .gt x 0 = true → AW K X p l e R s m args below meth c i n0 Q (tgt pc off) ls st n μ) (h2 : cmp0 .gt x 0 = false → AW K X p l e R s m args below meth c i n0 Q (pc + 3) ls st n μ) : AW K X p l e R s m args below meth c i n0 Q pc ls (.int x :: st) n μ := fun h0 LS H locs hL hW hS =>
  lv_if_gt C.1 C.2.1 hd (tgt_eq ht) (fun q => h1 (decide_eq_true q) h0 LS H locs hL hW hS) (fun q => h2 (decide_eq_false q) h0 LS H locs hL hW hS)
theorem so_icmp_le (C : Cx p s m args meth c i) {x y : Int32} {off : Int} (ht : tok pc off = true) (hd : decode (mB i) pc = .ok (.if_icmp .le off, 3)) (h1 : cmp0 .le x y = true → AW K X p l e R s m args below meth c i n0 Q (tgt pc off) ls st n μ) (h2 : cmp0 .le x y = false → AW K X p l e R s m args below meth c i n0 Q (pc + 3) ls st n μ) : AW K X p l e R s m args below meth c i n0 Q pc ls (.int y :: .int x :: st) n μ := fun h0 LS H locs hL hW hS =>
  lv_icmp_le C.1 C.2.1 hd (tgt_eq ht) (fun q => h1 (decide_eq_true q) h0 LS H locs hL hW hS) (fun q => h2 (decide_eq_false q) h0 LS H locs hL hW hS)
theorem so_if_le (C : Cx p s m args meth c i) {x : Int32} {off : Int} (ht : tok pc off = true) (hd : decode (mB i) pc = .ok (.ifCond .le off, 3)) (h1 : cmp0 .le x 0 = true → AW K X p l e R s m args below meth c i n0 Q (tgt pc off) ls st n μ) (h2 : cmp0 .le x 0 = false → AW K X p l e R s m args below meth c i n0 Q (pc + 3) ls st n μ) : AW K X p l e R s m args below meth c i n0 Q pc ls (.int x :: st) n μ := fun h0 LS H locs hL hW hS =>
  lv_if_le C.1 C.2.1 hd (tgt_eq ht) (fun q => h1 (decide_eq_true q) h0 LS H locs hL hW hS) (fun q => h2 (decide_eq_false q) h0 LS H locs hL hW hS)
theorem so_icmp (C : Cx p s m args meth c i) {cd : Jvm.ClassFile.Cond} {x y : Int32} {off : Int} (ht : tok pc off = true) (hd : decode (mB i) pc = .ok (.if_icmp cd off, 3)) (h1 : cmp0 cd x y = true → AW K X p l e R s m args below meth c i n0 Q (tgt pc off) ls st n μ) (h2 : cmp0 cd x y = false → AW K X p l e R s m args below meth c i n0 Q (pc + 3) ls st n μ) : AW K X p l e R s m args below meth c i n0 Q pc ls (.int y :: .int x :: st) n μ := by
  cases cd
  · exact so_icmp_eq C ht hd h1 h2
  · exact so_icmp_ne C ht hd h1 h2
  · exact so_icmp_lt C ht hd h1 h2
  · exact so_icmp_ge C ht hd h1 h2
  · exact so_icmp_gt C ht hd h1 h2
  · exact so_icmp_le C ht hd h1 h2
theorem so_if (C : Cx p s m args meth c i) {cd : Jvm.ClassFile.Cond} {x : Int32} {off : Int} (ht : tok pc off = true) (hd : decode (mB i) pc = .ok (.ifCond cd off, 3)) (h1 : cmp0 cd x 0 = true → AW K X p l e R s m args below meth c i n0 Q (tgt pc off) ls st n μ) (h2 : cmp0 cd x 0 = false → AW K X p l e R s m args below meth c i n0 Q (pc + 3) ls st n μ) : AW K X p l e R s m args below meth c i n0 Q pc ls (.int x :: st) n μ := by
  cases cd
  · exact so_if_eq C ht hd h1 h2
  · exact so_if_ne C ht hd h1 h2
  · exact so_if_lt C ht hd h1 h2
  · exact so_if_ge C ht hd h1 h2
  · exact so_if_gt C ht hd h1 h2
  · exact so_if_le C ht hd h1 h2
theorem so_tableOut (C : Cx p s m args meth c i) {d lo hi : Int} {offs : Array Int} {len : Nat} {x : Int32} (hx : x.toInt < lo ∨ hi < x.toInt) (ht : tok pc d = true) (hd : decode (mB i) pc = .ok (.tableswitch d lo hi offs, len)) (h : AW K X p l e R s m args below meth c i n0 Q (tgt pc d) ls st n μ) : AW K X p l e R s m args below meth c i n0 Q pc ls (.int x :: st) n μ := fun h0 LS H locs hL hW hS => lv_tableOut C.1 C.2.1 hd hx (tgt_eq ht) (h h0 LS H locs hL hW hS)
theorem so_tableIn (C : Cx p s m args meth c i) {d lo hi off : Int} {offs : Array Int} {len : Nat} {x : Int32} (hx : ¬ x.toInt < lo) (hy : ¬ hi < x.toInt) (ho : offs[(x.toInt - lo).toNat]? = some off) (ht : tok pc off = true) (hd : decode (mB i) pc = .ok (.tableswitch d lo hi offs, len)) (h : AW K X p l e R s m args below meth c i n0 Q (tgt pc off) ls st n μ) : AW K X p l e R s m args below meth c i n0 Q pc ls (.int x :: st) n μ := fun h0 LS H locs hL hW hS => lv_tableIn C.1 C.2.1 hd hx hy ho (tgt_eq ht) (h h0 LS H locs hL hW hS)
theorem so_lookup (C : Cx p s m args meth c i) {d : Int} {ps : Array (Int × Int)} {len : Nat} {x : Int32} (hp : (ps.toList.zip (ps.toList.drop 1)).all (fun (a, next) => a.1 < next.1) = true) (ht : tok pc (Op.lookupswitch.offset ps.toList d x.toInt) = true) (hd : decode (mB i) pc = .ok (.lookupswitch d ps, len)) (h : AW K X p l e R s m args below meth c i n0 Q (tgt pc (Op.lookupswitch.offset ps.toList d x.toInt)) ls st n μ) : AW K X p l e R s m args below meth c i n0 Q pc ls (.int x :: st) n μ := fun h0 LS H locs hL hW hS => lv_lookup C.1 C.2.1 hd hp rfl (tgt_eq ht) (h h0 LS H locs hL hW hS)
end SO
