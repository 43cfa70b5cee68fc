/-! The walk's judgement in a short form: the constants in one tuple, the heap by its memory, the locals as ints and references -/
abbrev Kx : Type := Program × Launch × Env × Room × State × MethodId × Array Value × List Frame × Method × Code × (State → Prop)
abbrev kp (K : Kx) : Program := K.1
abbrev kl (K : Kx) : Launch := K.2.1
abbrev ke (K : Kx) : Env := K.2.2.1
abbrev kR (K : Kx) : Room := K.2.2.2.1
abbrev ks (K : Kx) : State := K.2.2.2.2.1
abbrev km (K : Kx) : MethodId := K.2.2.2.2.2.1
abbrev ka (K : Kx) : Array Value := K.2.2.2.2.2.2.1
abbrev kw (K : Kx) : List Frame := K.2.2.2.2.2.2.2.1
abbrev kh (K : Kx) : Method := K.2.2.2.2.2.2.2.2.1
abbrev kc (K : Kx) : Code := K.2.2.2.2.2.2.2.2.2.1
abbrev kq (K : Kx) : State → Prop := K.2.2.2.2.2.2.2.2.2.2
abbrev Av : Type := Int32 ⊕ Option Nat ⊕ Unit
def avr (G : Gl) (v : Av) : Value := match v with
  | .inl n => .int n
  | .inr (.inl e) => rv G e
  | .inr (.inr _) => .ref (ga G)
def lvr (G : Gl) (lv : List (Nat × Av)) : List (Nat × Value) := lv.map (fun q => (q.1, avr G q.2))
theorem avr_cat (G : Gl) (v : Av) : (avr G v).category = 1 := by
  rcases v with n | e | u
  · rfl
  · exact rv_cat G e
  · rfl
def okX (G : Gl) (q x : Nat) (μ : Mem) : Prop := ∃ z, x = gb G + z ∧ okO μ z q
def Qe (G : Gl) (post : Option Value → Mem → Prop) (pe : Nat → Mem → Prop) : Array Value → State → Outcome → State → Prop := fun _ st o t =>
  va_F (gF G) st t ∧ ((∃ (v : Option Value) (μ : Mem), o = .returned v ∧ post v μ ∧ Wd G μ t) ∨ (∃ (q x : Nat) (μ : Mem), o = .threw x ∧ pe q μ ∧ Wd G μ t ∧ okX G q x μ))
def Rn (K : Kx) (G : Gl) (nL pc : Nat) (lv : List (Nat × Av)) (st : List Value) (μ : Mem) (cells slots : Nat) : Prop :=
  ∀ (H : Heap) (locs : List Loc) (ls : Array Slot), Hd G μ H → va_S (gF G) (ks K).heap H locs → lv_has ls nL (lvr G lv) →
    W (kp K) (kl K) (ke K) (kR K) (ks K) (km K) (ka K) (kw K) (kh K) (kc K) H locs cells slots (kq K) (F0 (km K) pc ls st)
def Cx (K : Kx) (G : Gl) (cc : ByteArray) (own : String) (nL : Nat) (rm : Room) : Prop :=
  (kp K).tables.exec = Jvm.exec ∧ (kc K).code = cc ∧ (kc K).maxLocals = nL ∧ (ks K).vm.findClass own = some (km K).cls ∧ (∀ w ∈ LW, w.before (ka K) (ks K) = true) ∧ va_K (gD G) CL (gT G) (ks K) ∧ Xtra G (ks K) (ks K).heap ∧ kR K = rm ∧
  (kh K).locks = false ∧ (∃ μ0, Hq G μ0 (ks K).heap) ∧ (kl K).stackTraces = false
/-- what the method owes at its end -/
def Cq (K : Kx) (G : Gl) (rm : Room) (rt : Option FieldType) (post : Option Value → Mem → Prop) (pe : Nat → Mem → Prop) : Prop :=
  (kh K).sig.returnType = rt ∧ kq K = MQX (kw K) (Qe G post pe) (ka K) (ks K) rm.cells rm.slots (gF G)

section RA
variable {K : Kx} {G : Gl} {cc : ByteArray} {own : String} {nL : Nat} {rm : Room} {pc : Nat} {lv : List (Nat × Av)} {st : List Value} {μ : Mem}
theorem Cx.x (h : Cx K G cc own nL rm) : (kp K).tables.exec = Jvm.exec := h.1
theorem Cx.b (h : Cx K G cc own nL rm) : (kc K).code = cc := h.2.1
theorem Cx.n (h : Cx K G cc own nL rm) : (kc K).maxLocals = nL := h.2.2.1
theorem Cx.o (h : Cx K G cc own nL rm) : (ks K).vm.findClass own = some (km K).cls := h.2.2.2.1
theorem Cx.w (h : Cx K G cc own nL rm) : ∀ w ∈ LW, w.before (ka K) (ks K) = true := h.2.2.2.2.1
theorem Cx.k (h : Cx K G cc own nL rm) : va_K (gD G) CL (gT G) (ks K) := h.2.2.2.2.2.1
theorem Cx.e (h : Cx K G cc own nL rm) : Xtra G (ks K) (ks K).heap := h.2.2.2.2.2.2.1
theorem Cx.r (h : Cx K G cc own nL rm) : kR K = rm := h.2.2.2.2.2.2.2.1
theorem Cx.l (h : Cx K G cc own nL rm) : (kh K).locks = false := h.2.2.2.2.2.2.2.2.1
theorem Cx.d (h : Cx K G cc own nL rm) : ∃ μ0, Hq G μ0 (ks K).heap := h.2.2.2.2.2.2.2.2.2.1
theorem Cx.s (h : Cx K G cc own nL rm) : (kl K).stackTraces = false := h.2.2.2.2.2.2.2.2.2.2
end RA
section RX
variable {K : Kx} {G : Gl} {cc : ByteArray} {own : String} {nL : Nat} {rm : Room} {pc : Nat} {lv : List (Nat × Av)} {st : List Value} {μ : Mem} {a b : Nat}
theorem lv_get {ls : Array Slot} (hl : lv_has ls nL (lvr G lv)) (k : Nat) {i : Nat} {v : Av} (hk : lv[k]? = some (i, v)) : ls[i]? = some (.val (avr G v)) :=
  lv_at hl k (by simp [lvr, hk])
theorem lv_less {ls : Array Slot} {l l' : List (Nat × Value)} (h : lv_has ls nL l) (hs : ∀ q ∈ l', q ∈ l) : lv_has ls nL l' := ⟨h.1, h.2.1, fun q hq => h.2.2 q (hs q hq)⟩
theorem lv_put {ls : Array Slot} {i : Nat} {v : Av} {lv' : List (Nat × Av)} (h : lv_has ls nL ((i, avr G v) :: (lvr G lv).filter (fun q => !(q.1 == i) && !(q.1 + 1 == i && q.2.category == 2)))) (hl : lv.filter (fun q => q.1 != i) = lv') : lv_has ls nL (lvr G ((i, v) :: lv')) := by
  refine lv_less h fun q hq => ?_
  subst hl
  rw [lvr, List.map_cons] at hq
  rcases List.mem_cons.mp hq with rfl | hq
  · exact List.mem_cons_self
  · obtain ⟨q0, h0, rfl⟩ := List.mem_map.mp hq
    obtain ⟨h1, h2⟩ := List.mem_filter.mp h0
    refine List.mem_cons_of_mem _ (List.mem_filter.mpr ⟨List.mem_map.mpr ⟨q0, h1, rfl⟩, ?_⟩)
    have h3 : (q0.1 == i) = false := by simpa [bne] using h2
    simp [h3, avr_cat]
theorem r_sub {lv' : List (Nat × Av)} (ps : List Nat) (h : ps.filterMap (fun k => lv[k]?) = lv') (k : Rn K G nL pc lv' st μ a b) : Rn K G nL pc lv st μ a b := by
  intro H locs ls hH hS hl
  refine k H locs ls hH hS (lv_less hl fun q hq => ?_)
  subst h
  obtain ⟨q0, h0, rfl⟩ := List.mem_map.mp hq
  obtain ⟨k, -, hk⟩ := List.mem_filterMap.mp h0
  exact List.mem_map.mpr ⟨q0, List.mem_of_getElem? hk, rfl⟩
theorem r_widen {a' b' : Nat} (h1 : a ≤ a') (h2 : b ≤ b') (k : Rn K G nL pc lv st μ a' b') : Rn K G nL pc lv st μ a b := fun H locs ls hH hS hl => W.widen h1 h2 (k H locs ls hH hS hl)
theorem r_iconst (C : Cx K G cc own nL rm) {n : Int} {v : Int32} (hd : decode cc pc = .ok (.iconst n, 1)) (hv : Int32.ofInt n = v) (k : Rn K G nL (pc + 1) lv (.int v :: st) μ a b) : Rn K G nL pc lv st μ a b := by
  intro H locs ls hH hS hl
  exact lv_iconst C.x C.b hd hv (k H locs ls hH hS hl)
theorem r_bipush (C : Cx K G cc own nL rm) {n : Int} {v : Int32} (hd : decode cc pc = .ok (.bipush n, 2)) (hv : (Int8.ofInt n).toInt32 = v) (k : Rn K G nL (pc + 2) lv (.int v :: st) μ a b) : Rn K G nL pc lv st μ a b := by
  intro H locs ls hH hS hl
  exact lv_bipush C.x C.b hd hv (k H locs ls hH hS hl)
theorem r_sipush (C : Cx K G cc own nL rm) {n : Int} {v : Int32} (hd : decode cc pc = .ok (.sipush n, 3)) (hv : (Int16.ofInt n).toInt32 = v) (k : Rn K G nL (pc + 3) lv (.int v :: st) μ a b) : Rn K G nL pc lv st μ a b := by
  intro H locs ls hH hS hl
  exact lv_sipush C.x C.b hd hv (k H locs ls hH hS hl)
theorem r_ldc (C : Cx K G cc own nL rm) {index : Nat} {v : Int32} (hc : (Cond.constant own index v).before (ka K) (ks K) = true) (hd : decode cc pc = .ok (.ldc index, 2)) (k : Rn K G nL (pc + 2) lv (.int v :: st) μ a b) : Rn K G nL pc lv st μ a b := by
  intro H locs ls hH hS hl
  exact W.ldc C.x C.b C.o hc rfl hd (k H locs ls hH hS hl)
theorem r_iload_n (C : Cx K G cc own nL rm) {f : Fin 4} {i : Nat} {x : Int32} (hd : decode cc pc = .ok (.iload_n f, 1)) (hi : (f : Nat) = i) (j : Nat) (hj : lv[j]? = some (i, .inl x)) (k : Rn K G nL (pc + 1) lv (.int x :: st) μ a b) : Rn K G nL pc lv st μ a b := by
  intro H locs ls hH hS hl
  exact lv_iload_n C.x C.b hd hi (lv_get hl j hj) (k H locs ls hH hS hl)
theorem r_iload (C : Cx K G cc own nL rm) {i : Nat} {x : Int32} (hd : decode cc pc = .ok (.iload i, 2)) (j : Nat) (hj : lv[j]? = some (i, .inl x)) (k : Rn K G nL (pc + 2) lv (.int x :: st) μ a b) : Rn K G nL pc lv st μ a b := by
  intro H locs ls hH hS hl
  exact lv_iload C.x C.b hd (lv_get hl j hj) (k H locs ls hH hS hl)
theorem r_aload_n (C : Cx K G cc own nL rm) {f : Fin 4} {i : Nat} {x : Option Nat} (hd : decode cc pc = .ok (.aload_n f, 1)) (hi : (f : Nat) = i) (j : Nat) (hj : lv[j]? = some (i, .inr (.inl x))) (k : Rn K G nL (pc + 1) lv (rv G x :: st) μ a b) : Rn K G nL pc lv st μ a b := by
  intro H locs ls hH hS hl
  have hg := lv_get hl j hj
  have hk := k H locs ls hH hS hl
  cases x with
  | none => exact lv_aload_nN C.x C.b hd hi hg hk
  | some y => exact lv_aload_n C.x C.b hd hi hg hk
theorem r_aload (C : Cx K G cc own nL rm) {i : Nat} {x : Option Nat} (hd : decode cc pc = .ok (.aload i, 2)) (j : Nat) (hj : lv[j]? = some (i, .inr (.inl x))) (k : Rn K G nL (pc + 2) lv (rv G x :: st) μ a b) : Rn K G nL pc lv st μ a b := by
  intro H locs ls hH hS hl
  have hg := lv_get hl j hj
  have hk := k H locs ls hH hS hl
  cases x with
  | none => exact lv_aloadN C.x C.b hd hg hk
  | some y => exact lv_aload C.x C.b hd hg hk
theorem r_aloadS (C : Cx K G cc own nL rm) {f : Fin 4} {i : Nat} {u : Unit} (hd : decode cc pc = .ok (.aload_n f, 1)) (hi : (f : Nat) = i) (j : Nat) (hj : lv[j]? = some (i, .inr (.inr u))) (k : Rn K G nL (pc + 1) lv (.ref (ga G) :: st) μ a b) : Rn K G nL pc lv st μ a b := by
  intro H locs ls hH hS hl
  exact lv_aload_n C.x C.b hd hi (lv_get hl j hj) (k H locs ls hH hS hl)
theorem r_istore_n (C : Cx K G cc own nL rm) {f : Fin 4} {i : Nat} {x : Int32} {lv' : List (Nat × Av)} (hd : decode cc pc = .ok (.istore_n f, 1)) (hi : (f : Nat) = i) (hn : i < nL) (hq : lv.filter (fun q => q.1 != i) = lv') (k : Rn K G nL (pc + 1) ((i, .inl x) :: lv') st μ a b) : Rn K G nL pc lv (.int x :: st) μ a b := by
  intro H locs ls hH hS hl
  exact lv_istore_n C.x C.b hd hi hl hn rfl fun ls1 hl1 => k H locs ls1 hH hS (lv_put (v := .inl x) hl1 hq)
theorem r_istore (C : Cx K G cc own nL rm) {i : Nat} {x : Int32} {lv' : List (Nat × Av)} (hd : decode cc pc = .ok (.istore i, 2)) (hn : i < nL) (hq : lv.filter (fun q => q.1 != i) = lv') (k : Rn K G nL (pc + 2) ((i, .inl x) :: lv') st μ a b) : Rn K G nL pc lv (.int x :: st) μ a b := by
  intro H locs ls hH hS hl
  exact lv_istore C.x C.b hd hl hn rfl fun ls1 hl1 => k H locs ls1 hH hS (lv_put (v := .inl x) hl1 hq)
theorem r_astore_n (C : Cx K G cc own nL rm) {f : Fin 4} {i : Nat} {x : Option Nat} {lv' : List (Nat × Av)} (hd : decode cc pc = .ok (.astore_n f, 1)) (hi : (f : Nat) = i) (hn : i < nL) (hq : lv.filter (fun q => q.1 != i) = lv') (k : Rn K G nL (pc + 1) ((i, .inr (.inl x)) :: lv') st μ a b) : Rn K G nL pc lv (rv G x :: st) μ a b := by
  intro H locs ls hH hS hl
  cases x with
  | none => exact lv_astore_nN C.x C.b hd hi hl hn rfl fun ls1 hl1 => k H locs ls1 hH hS (lv_put (v := .inr (.inl none)) hl1 hq)
  | some y => exact lv_astore_n C.x C.b hd hi hl hn rfl fun ls1 hl1 => k H locs ls1 hH hS (lv_put (v := .inr (.inl (some y))) hl1 hq)
theorem r_astore (C : Cx K G cc own nL rm) {i : Nat} {x : Option Nat} {lv' : List (Nat × Av)} (hd : decode cc pc = .ok (.astore i, 2)) (hn : i < nL) (hq : lv.filter (fun q => q.1 != i) = lv') (k : Rn K G nL (pc + 2) ((i, .inr (.inl x)) :: lv') st μ a b) : Rn K G nL pc lv (rv G x :: st) μ a b := by
  intro H locs ls hH hS hl
  cases x with
  | none => exact lv_astoreN C.x C.b hd hl hn rfl fun ls1 hl1 => k H locs ls1 hH hS (lv_put (v := .inr (.inl none)) hl1 hq)
  | some y => exact lv_astore C.x C.b hd hl hn rfl fun ls1 hl1 => k H locs ls1 hH hS (lv_put (v := .inr (.inl (some y))) hl1 hq)
theorem r_iinc (C : Cx K G cc own nL rm) {i : Nat} {n : Int} {x v : Int32} {lv' : List (Nat × Av)} (hd : decode cc pc = .ok (.iinc i n, 3)) (j : Nat) (hj : lv[j]? = some (i, .inl x)) (hv : Int32.ofInt n = v) (hn : i < nL) (hq : lv.filter (fun q => q.1 != i) = lv') (k : Rn K G nL (pc + 3) ((i, .inl (x + v)) :: lv') st μ a b) : Rn K G nL pc lv st μ a b := by
  intro H locs ls hH hS hl
  subst hv
  exact lv_iinc C.x C.b hd hl (k := j) (by simp [lvr, hj, avr]) rfl hn rfl fun ls1 hl1 => k H locs ls1 hH hS (lv_put (v := .inl (x + Int32.ofInt n)) hl1 hq)
theorem r_iadd (C : Cx K G cc own nL rm) {x y : Int32} (hd : decode cc pc = .ok (.iadd, 1)) (k : Rn K G nL (pc + 1) lv (.int (x + y) :: st) μ a b) : Rn K G nL pc lv (.int y :: .int x :: st) μ a b := by
  intro H locs ls hH hS hl
  exact lv_iadd C.x C.b hd (k H locs ls hH hS hl)
theorem r_isub (C : Cx K G cc own nL rm) {x y : Int32} (hd : decode cc pc = .ok (.isub, 1)) (k : Rn K G nL (pc + 1) lv (.int (x - y) :: st) μ a b) : Rn K G nL pc lv (.int y :: .int x :: st) μ a b := by
  intro H locs ls hH hS hl
  exact lv_isub C.x C.b hd (k H locs ls hH hS hl)
theorem r_imul (C : Cx K G cc own nL rm) {x y : Int32} (hd : decode cc pc = .ok (.imul, 1)) (k : Rn K G nL (pc + 1) lv (.int (x * y) :: st) μ a b) : Rn K G nL pc lv (.int y :: .int x :: st) μ a b := by
  intro H locs ls hH hS hl
  exact lv_imul C.x C.b hd (k H locs ls hH hS hl)
theorem r_iand (C : Cx K G cc own nL rm) {x y : Int32} (hd : decode cc pc = .ok (.iand, 1)) (k : Rn K G nL (pc + 1) lv (.int (x &&& y) :: st) μ a b) : Rn K G nL pc lv (.int y :: .int x :: st) μ a b := by
  intro H locs ls hH hS hl
  exact lv_iand C.x C.b hd (k H locs ls hH hS hl)
theorem r_idiv (C : Cx K G cc own nL rm) {x y : Int32} (hd : decode cc pc = .ok (.idiv, 1)) (hy : ¬ y = 0) (k : Rn K G nL (pc + 1) lv (.int (x / y) :: st) μ a b) : Rn K G nL pc lv (.int y :: .int x :: st) μ a b := by
  intro H locs ls hH hS hl
  exact lv_idiv C.x C.b hd hy (k H locs ls hH hS hl)
theorem r_irem (C : Cx K G cc own nL rm) {x y : Int32} (hd : decode cc pc = .ok (.irem, 1)) (hy : ¬ y = 0) (k : Rn K G nL (pc + 1) lv (.int (x - x / y * y) :: st) μ a b) : Rn K G nL pc lv (.int y :: .int x :: st) μ a b := by
  intro H locs ls hH hS hl
  exact lv_irem C.x C.b hd hy (k H locs ls hH hS hl)
theorem r_i2l (C : Cx K G cc own nL rm) {x : Int32} (hd : decode cc pc = .ok (.i2l, 1)) (k : Rn K G nL (pc + 1) lv (.long x.toInt64 :: st) μ a b) : Rn K G nL pc lv (.int x :: st) μ a b := by
  intro H locs ls hH hS hl
  exact lv_i2l C.x C.b hd rfl (k H locs ls hH hS hl)
theorem r_lcmp (C : Cx K G cc own nL rm) {x y : Int64} (hd : decode cc pc = .ok (.lcmp, 1)) (k : Rn K G nL (pc + 1) lv (.int (lg_cmp x y) :: st) μ a b) : Rn K G nL pc lv (.long y :: .long x :: st) μ a b := by
  intro H locs ls hH hS hl
  exact W.lcmp C.x C.b hd (k H locs ls hH hS hl)
theorem r_dupI (C : Cx K G cc own nL rm) {x : Int32} (hd : decode cc pc = .ok (.dup, 1)) (k : Rn K G nL (pc + 1) lv (.int x :: .int x :: st) μ a b) : Rn K G nL pc lv (.int x :: st) μ a b := by
  intro H locs ls hH hS hl
  exact lv_dup C.x C.b hd rfl (k H locs ls hH hS hl)
theorem r_dupR (C : Cx K G cc own nL rm) {x : Option Nat} (hd : decode cc pc = .ok (.dup, 1)) (k : Rn K G nL (pc + 1) lv (rv G x :: rv G x :: st) μ a b) : Rn K G nL pc lv (rv G x :: st) μ a b := by
  intro H locs ls hH hS hl
  exact lv_dup C.x C.b hd (rv_cat G x) (k H locs ls hH hS hl)
theorem r_dup2 (C : Cx K G cc own nL rm) {x : Int32} {y : Option Nat} (hd : decode cc pc = .ok (.dup2, 1)) (k : Rn K G nL (pc + 1) lv (.int x :: rv G y :: .int x :: rv G y :: st) μ a b) : Rn K G nL pc lv (.int x :: rv G y :: st) μ a b := by
  intro H locs ls hH hS hl
  exact lv_dup2_11 C.x C.b hd rfl (rv_cat G y) (k H locs ls hH hS hl)
theorem r_popI (C : Cx K G cc own nL rm) {x : Int32} (hd : decode cc pc = .ok (.pop, 1)) (k : Rn K G nL (pc + 1) lv st μ a b) : Rn K G nL pc lv (.int x :: st) μ a b := by
  intro H locs ls hH hS hl
  exact lv_pop C.x C.b hd rfl (k H locs ls hH hS hl)
theorem r_null (C : Cx K G cc own nL rm) (hd : decode cc pc = .ok (.aconst_null, 1)) (k : Rn K G nL (pc + 1) lv (rv G none :: st) μ a b) : Rn K G nL pc lv st μ a b := by
  intro H locs ls hH hS hl
  exact lv_null C.x C.b hd (k H locs ls hH hS hl)
theorem r_goto (C : Cx K G cc own nL rm) {off : Int} {tgt : Nat} (hd : decode cc pc = .ok (.goto off, 3)) (ht : (pc : Int) + off = (tgt : Int)) (k : Rn K G nL tgt lv st μ a b) : Rn K G nL pc lv st μ a b := by
  intro H locs ls hH hS hl
  exact lv_goto C.x C.b hd ht (k H locs ls hH hS hl)
theorem r_if_eq (C : Cx K G cc own nL rm) {x : Int32} {off : Int} {tgt : Nat} (hd : decode cc pc = .ok (.ifCond .eq off, 3)) (ht : (pc : Int) + off = (tgt : Int)) (kt : x = 0 → Rn K G nL tgt lv st μ a b) (kf : ¬ x = 0 → Rn K G nL (pc + 3) lv st μ a b) : Rn K G nL pc lv (.int x :: st) μ a b := by
  intro H locs ls hH hS hl
  exact lv_if_eq C.x C.b hd ht (fun h => kt h H locs ls hH hS hl) (fun h => kf h H locs ls hH hS hl)
theorem r_icmp_eq (C : Cx K G cc own nL rm) {x y : Int32} {off : Int} {tgt : Nat} (hd : decode cc pc = .ok (.if_icmp .eq off, 3)) (ht : (pc : Int) + off = (tgt : Int)) (kt : x = y → Rn K G nL tgt lv st μ a b) (kf : ¬ x = y → Rn K G nL (pc + 3) lv st μ a b) : Rn K G nL pc lv (.int y :: .int x :: st) μ a b := by
  intro H locs ls hH hS hl
  exact lv_icmp_eq C.x C.b hd ht (fun h => kt h H locs ls hH hS hl) (fun h => kf h H locs ls hH hS hl)
theorem r_if_ne (C : Cx K G cc own nL rm) {x : Int32} {off : Int} {tgt : Nat} (hd : decode cc pc = .ok (.ifCond .ne off, 3)) (ht : (pc : Int) + off = (tgt : Int)) (kt : ¬ x = 0 → Rn K G nL tgt lv st μ a b) (kf : x = 0 → Rn K G nL (pc + 3) lv st μ a b) : Rn K G nL pc lv (.int x :: st) μ a b := by
  intro H locs ls hH hS hl
  exact lv_if_ne C.x C.b hd ht (fun h => kt h H locs ls hH hS hl) (fun h => kf h H locs ls hH hS hl)
theorem r_icmp_ne (C : Cx K G cc own nL rm) {x y : Int32} {off : Int} {tgt : Nat} (hd : decode cc pc = .ok (.if_icmp .ne off, 3)) (ht : (pc : Int) + off = (tgt : Int)) (kt : ¬ x = y → Rn K G nL tgt lv st μ a b) (kf : x = y → Rn K G nL (pc + 3) lv st μ a b) : Rn K G nL pc lv (.int y :: .int x :: st) μ a b := by
  intro H locs ls hH hS hl
  exact lv_icmp_ne C.x C.b hd ht (fun h => kt h H locs ls hH hS hl) (fun h => kf h H locs ls hH hS hl)
theorem r_if_lt (C : Cx K G cc own nL rm) {x : Int32} {off : Int} {tgt : Nat} (hd : decode cc pc = .ok (.ifCond .lt off, 3)) (ht : (pc : Int) + off = (tgt : Int)) (kt : x < 0 → Rn K G nL tgt lv st μ a b) (kf : ¬ x < 0 → Rn K G nL (pc + 3) lv st μ a b) : Rn K G nL pc lv (.int x :: st) μ a b := by
  intro H locs ls hH hS hl
  exact lv_if_lt C.x C.b hd ht (fun h => kt h H locs ls hH hS hl) (fun h => kf h H locs ls hH hS hl)
theorem r_icmp_lt (C : Cx K G cc own nL rm) {x y : Int32} {off : Int} {tgt : Nat} (hd : decode cc pc = .ok (.if_icmp .lt off, 3)) (ht : (pc : Int) + off = (tgt : Int)) (kt : x < y → Rn K G nL tgt lv st μ a b) (kf : ¬ x < y → Rn K G nL (pc + 3) lv st μ a b) : Rn K G nL pc lv (.int y :: .int x :: st) μ a b := by
  intro H locs ls hH hS hl
  exact lv_icmp_lt C.x C.b hd ht (fun h => kt h H locs ls hH hS hl) (fun h => kf h H locs ls hH hS hl)
theorem r_if_ge (C : Cx K G cc own nL rm) {x : Int32} {off : Int} {tgt : Nat} (hd : decode cc pc = .ok (.ifCond .ge off, 3)) (ht : (pc : Int) + off = (tgt : Int)) (kt : 0 ≤ x → Rn K G nL tgt lv st μ a b) (kf : ¬ 0 ≤ x → Rn K G nL (pc + 3) lv st μ a b) : Rn K G nL pc lv (.int x :: st) μ a b := by
  intro H locs ls hH hS hl
  exact lv_if_ge C.x C.b hd ht (fun h => kt h H locs ls hH hS hl) (fun h => kf h H locs ls hH hS hl)
theorem r_icmp_ge (C : Cx K G cc own nL rm) {x y : Int32} {off : Int} {tgt : Nat} (hd : decode cc pc = .ok (.if_icmp .ge off, 3)) (ht : (pc : Int) + off = (tgt : Int)) (kt : y ≤ x → Rn K G nL tgt lv st μ a b) (kf : ¬ y ≤ x → Rn K G nL (pc + 3) lv st μ a b) : Rn K G nL pc lv (.int y :: .int x :: st) μ a b := by
  intro H locs ls hH hS hl
  exact lv_icmp_ge C.x C.b hd ht (fun h => kt h H locs ls hH hS hl) (fun h => kf h H locs ls hH hS hl)
theorem r_if_gt (C : Cx K G cc own nL rm) {x : Int32} {off : Int} {tgt : Nat} (hd : decode cc pc = .ok (.ifCond .gt off, 3)) (ht : (pc : Int) + off = (tgt : Int)) (kt : 0 < x → Rn K G nL tgt lv st μ a b) (kf : ¬ 0 < x → Rn K G nL (pc + 3) lv st μ a b) : Rn K G nL pc lv (.int x :: st) μ a b := by
  intro H locs ls hH hS hl
  exact lv_if_gt C.x C.b hd ht (fun h => kt h H locs ls hH hS hl) (fun h => kf h H locs ls hH hS hl)
theorem r_icmp_gt (C : Cx K G cc own nL rm) {x y : Int32} {off : Int} {tgt : Nat} (hd : decode cc pc = .ok (.if_icmp .gt off, 3)) (ht : (pc : Int) + off = (tgt : Int)) (kt : y < x → Rn K G nL tgt lv st μ a b) (kf : ¬ y < x → Rn K G nL (pc + 3) lv st μ a b) : Rn K G nL pc lv (.int y :: .int x :: st) μ a b := by
  intro H locs ls hH hS hl
  exact lv_icmp_gt C.x C.b hd ht (fun h => kt h H locs ls hH hS hl) (fun h => kf h H locs ls hH hS hl)
theorem r_if_le (C : Cx K G cc own nL rm) {x : Int32} {off : Int} {tgt : Nat} (hd : decode cc pc = .ok (.ifCond .le off, 3)) (ht : (pc : Int) + off = (tgt : Int)) (kt : x ≤ 0 → Rn K G nL tgt lv st μ a b) (kf : ¬ x ≤ 0 → Rn K G nL (pc + 3) lv st μ a b) : Rn K G nL pc lv (.int x :: st) μ a b := by
  intro H locs ls hH hS hl
  exact lv_if_le C.x C.b hd ht (fun h => kt h H locs ls hH hS hl) (fun h => kf h H locs ls hH hS hl)
theorem r_icmp_le (C : Cx K G cc own nL rm) {x y : Int32} {off : Int} {tgt : Nat} (hd : decode cc pc = .ok (.if_icmp .le off, 3)) (ht : (pc : Int) + off = (tgt : Int)) (kt : x ≤ y → Rn K G nL tgt lv st μ a b) (kf : ¬ x ≤ y → Rn K G nL (pc + 3) lv st μ a b) : Rn K G nL pc lv (.int y :: .int x :: st) μ a b := by
  intro H locs ls hH hS hl
  exact lv_icmp_le C.x C.b hd ht (fun h => kt h H locs ls hH hS hl) (fun h => kf h H locs ls hH hS hl)
theorem r_ifnull (C : Cx K G cc own nL rm) {x : Option Nat} {off : Int} {tgt : Nat} (hd : decode cc pc = .ok (.ifnull off, 3)) (ht : (pc : Int) + off = (tgt : Int)) (kt : x = none → Rn K G nL tgt lv st μ a b) (kf : ∀ y, x = some y → Rn K G nL (pc + 3) lv st μ a b) : Rn K G nL pc lv (rv G x :: st) μ a b := by
  intro H locs ls hH hS hl
  cases x with
  | none => exact lv_ifnullN C.x C.b hd ht (kt rfl H locs ls hH hS hl)
  | some y => exact lv_ifnull C.x C.b hd (kf y rfl H locs ls hH hS hl)
theorem r_ifnonnull (C : Cx K G cc own nL rm) {x : Option Nat} {off : Int} {tgt : Nat} (hd : decode cc pc = .ok (.ifnonnull off, 3)) (ht : (pc : Int) + off = (tgt : Int)) (kt : ∀ y, x = some y → Rn K G nL tgt lv st μ a b) (kf : x = none → Rn K G nL (pc + 3) lv st μ a b) : Rn K G nL pc lv (rv G x :: st) μ a b := by
  intro H locs ls hH hS hl
  cases x with
  | none => exact lv_ifnonnullN C.x C.b hd (kf rfl H locs ls hH hS hl)
  | some y => exact lv_ifnonnull C.x C.b hd ht (kt y rfl H locs ls hH hS hl)
theorem r_acmp_eq (C : Cx K G cc own nL rm) {x y : Option Nat} {off : Int} {tgt : Nat} (hd : decode cc pc = .ok (.if_acmp .eq off, 3)) (ht : (pc : Int) + off = (tgt : Int)) (kt : x = y → Rn K G nL tgt lv st μ a b) (kf : ¬ x = y → Rn K G nL (pc + 3) lv st μ a b) : Rn K G nL pc lv (rv G y :: rv G x :: st) μ a b := by
  intro H locs ls hH hS hl
  rw [← rv_rf, ← rv_rf]
  exact lv_acmp_eq C.x C.b hd ht (fun h => kt ((map_inj G x y).mp h) H locs ls hH hS hl) (fun h => kf (fun q => h ((map_inj G x y).mpr q)) H locs ls hH hS hl)
theorem r_acmp_ne (C : Cx K G cc own nL rm) {x y : Option Nat} {off : Int} {tgt : Nat} (hd : decode cc pc = .ok (.if_acmp .ne off, 3)) (ht : (pc : Int) + off = (tgt : Int)) (kt : ¬ x = y → Rn K G nL tgt lv st μ a b) (kf : x = y → Rn K G nL (pc + 3) lv st μ a b) : Rn K G nL pc lv (rv G y :: rv G x :: st) μ a b := by
  intro H locs ls hH hS hl
  rw [← rv_rf, ← rv_rf]
  exact lv_acmp_ne C.x C.b hd ht (fun h => kt (fun q => h ((map_inj G x y).mpr q)) H locs ls hH hS hl) (fun h => kf ((map_inj G x y).mp h) H locs ls hH hS hl)
theorem r_tin (C : Cx K G cc own nL rm) {dflt hi off : Int} {offs : Array Int} {len tgt : Nat} {x : Int32} (hd : decode cc pc = .ok (.tableswitch dflt 0 hi offs, len)) {c : Int32} (hx : x = c) (h1 : ¬ c.toInt < 0) (h2 : ¬ hi < c.toInt) (ho : offs[(c.toInt - 0).toNat]? = some off) (ht : (pc : Int) + off = (tgt : Int)) (k : Rn K G nL tgt lv st μ a b) : Rn K G nL pc lv (.int x :: st) μ a b := by
  intro H locs ls hH hS hl
  subst hx
  exact lv_tableIn C.x C.b hd h1 h2 ho ht (k H locs ls hH hS hl)
theorem sw_out {x : Int32} {N : Nat} (hN : N < 2 ^ 31) (h : ∀ n : Nat, n ≤ N → ¬ x = Int32.ofNat n) : x.toInt < 0 ∨ (N : Int) < x.toInt := by
  by_cases h0 : x.toInt < 0
  · exact Or.inl h0
  · refine Or.inr (Int.not_le.mp fun h1 => h x.toInt.toNat (by omega) ?_)
    apply Int32.toInt_inj.mp
    have h2 := nI_toInt (n := x.toInt.toNat) (by omega)
    unfold nI at h2
    rw [h2]
    omega
theorem r_tout (C : Cx K G cc own nL rm) {dflt : Int} {N : Nat} {offs : Array Int} {len tgt : Nat} {x : Int32} (hd : decode cc pc = .ok (.tableswitch dflt 0 (N : Int) offs, len)) (hN : N < 2 ^ 31) (h : ∀ n : Nat, n ≤ N → ¬ x = Int32.ofNat n) (ht : (pc : Int) + dflt = (tgt : Int)) (k : Rn K G nL tgt lv st μ a b) : Rn K G nL pc lv (.int x :: st) μ a b := by
  intro H locs ls hH hS hl
  exact lv_tableOut C.x C.b hd (sw_out hN h) ht (k H locs ls hH hS hl)
theorem x_same {s : State} {ci : Nat} {Cn : String} {T : u_T} {N : Nat} (hc : CL[ci]? = some (Cn, T, N)) {j : Nat} (hj : j < N) : ∀ x, s.fieldFound? (T j).1 (T j).2.1 (T j).2.2.1 = some x → s.fieldFound? Cn (T j).2.1 (T j).2.2.1 = some x := by
  intro x h
  have h0 : (T j).1 = Cn := cl_own hc j hj
  rw [h0] at h
  exact h
theorem r_getI (C : Cx K G cc own nL rm) {Cn : String} {T : u_T} {N ci idx : Nat} (hc : CL[ci]? = some (Cn, T, N)) (j : Nat) (hj : j < N) (hlk : (Cond.fieldLink own idx Cn (T j).2.1 (T j).2.2.1).before (ka K) (ks K) = true) (hsh : (shp ci)[j]? = some none) {r : Nat} (hr : LayG G μ → okO μ r ci) (hd : decode cc pc = .ok (.getfield idx, 3)) (k : Rn K G nL (pc + 3) lv (.int (mI μ r j) :: st) μ a b) : Rn K G nL pc lv (rv G (some r) :: st) μ a b := by
  intro H locs ls hH hS hl
  have h1 := hr hH.1
  have h9 := cl_lt hc
  exact va_get C.x C.b C.w (cl_in hc) C.o C.k (hH.P h1.1 (rend_o h1.2 (by omega))) 0 rfl hc j hj hlk (x_same hc hj) (flds_get hsh) hd (k H locs ls hH hS hl)
theorem r_getR (C : Cx K G cc own nL rm) {Cn : String} {T : u_T} {N ci idx : Nat} (hc : CL[ci]? = some (Cn, T, N)) (j : Nat) (hj : j < N) (hlk : (Cond.fieldLink own idx Cn (T j).2.1 (T j).2.2.1).before (ka K) (ks K) = true) {d : Nat} (hsh : (shp ci)[j]? = some (some d)) {r : Nat} (hr : LayG G μ → okO μ r ci) (hd : decode cc pc = .ok (.getfield idx, 3)) (k : Rn K G nL (pc + 3) lv (rv G (some (r + d)) :: st) μ a b) : Rn K G nL pc lv (rv G (some r) :: st) μ a b := by
  intro H locs ls hH hS hl
  have h1 := hr hH.1
  have h9 := cl_lt hc
  exact va_get C.x C.b C.w (cl_in hc) C.o C.k (hH.P h1.1 (rend_o h1.2 (by omega))) 0 rfl hc j hj hlk (x_same hc hj) (flds_get hsh) hd (k H locs ls hH hS hl)
theorem r_putT (C : Cx K G cc own nL rm) {Cn : String} {T : u_T} {N ci idx : Nat} (hc : CL[ci]? = some (Cn, T, N)) (j : Nat) (hj : j < N) (hlk : (Cond.fieldLink own idx Cn (T j).2.1 (T j).2.2.1).before (ka K) (ks K) = true) (hsh : (shp ci)[j]? = some none) (hfin : (T j).2.2.2 = false) {ty : FieldType} (hty : parseFieldDescriptor (T j).2.2.1 = some ty) {v : Int32} (hn : narrow ty (.int v) = .int v) (hfit : fits ty (.int v) = true) {r : Nat} (hr : LayG G μ → okO μ r ci) (hd : decode cc pc = .ok (.putfield idx, 3)) (k : ∀ μ1, μ1 = sI μ r j v → Rn K G nL (pc + 3) lv st μ1 a b) : Rn K G nL pc lv (.int v :: rv G (some r) :: st) μ a b := by
  intro H locs ls hH hS hl
  have h1 := hr hH.1
  have h9 := cl_lt hc
  have hap := va_apart (own := own) C.w (cl_in hc) (fun k => ftyD (T k).2.2.1) (cl_ty hc) (cl_nm hc) C.k hc
  have hre := rend_o (G := G) h1.2 (by omega)
  obtain ⟨q, h2, cell, q1, q2, q3, q4⟩ := hH.P h1.1 hre 0 _ rfl
  have hq : q = (Cn, T, N) := Option.some.inj (h2.symm.trans hc)
  subst hq
  obtain ⟨hSl, hfc, kC, hkC, hkind⟩ := C.k.1 ci _ hc
  obtain ⟨cf, kf, fi, f, hi, hsl⟩ := hSl j hj
  have hlay := C.w _ (cl_in hc _ (u_in_lay hj))
  unfold u_lay at hlay
  rw [if_neg (by rw [hfin]; decide)] at hlay
  have hst := (u_facts hfc hkC (u_lays C.w (cl_in hc) hj) hi).1
  have h6 := u_store hfc hkC hkind hlay hi hty hn hfit
  refine W.putK C.x C.b (f := f) ⟨C.o, hlk, ⟨_, _, _, x_same hc hj _ hi⟩, hst⟩ (by rw [q2]; exact h6) q1 q3 (by rw [hsl]; exact k2_hasslot (q4 j hj)) rfl rfl hd fun H' e1 e2 e3 => ?_
  rw [hsl] at e1 ⊢
  refine k _ rfl H' _ ls (hH.put (r := r) (hH.1.sI r j v) rfl e2 e3 (fun x hx => rend_ne hx) ?_) (hS.put e2 e3 (by unfold gF; omega)) hl
  rw [rend_o (μ := sI μ r j v) (ci := ci) h1.2 (by omega), flds_set hsh]
  exact ⟨_, hc, t_OB.to (V := updV (vp_V (flds G μ r ci)) j (.int v)) ⟨_, e1, q2, q3, t_set q4 hap hj (.int v)⟩ (fun i _ => vp_updV_set (by rw [flds_len, cl_len hc]; exact hj) (.int v) i)⟩
theorem r_putI (C : Cx K G cc own nL rm) {Cn : String} {T : u_T} {N ci idx : Nat} (hc : CL[ci]? = some (Cn, T, N)) (j : Nat) (hj : j < N) (hlk : (Cond.fieldLink own idx Cn (T j).2.1 (T j).2.2.1).before (ka K) (ks K) = true) (hsh : (shp ci)[j]? = some none) (hfin : (T j).2.2.2 = false) (hty : parseFieldDescriptor (T j).2.2.1 = some .int) {v : Int32} {r : Nat} (hr : LayG G μ → okO μ r ci) (hd : decode cc pc = .ok (.putfield idx, 3)) (k : ∀ μ1, μ1 = sI μ r j v → Rn K G nL (pc + 3) lv st μ1 a b) : Rn K G nL pc lv (.int v :: rv G (some r) :: st) μ a b :=
  r_putT C hc j hj hlk hsh hfin hty rfl rfl hr hd k
theorem r_putZ (C : Cx K G cc own nL rm) {Cn : String} {T : u_T} {N ci idx : Nat} (hc : CL[ci]? = some (Cn, T, N)) (j : Nat) (hj : j < N) (hlk : (Cond.fieldLink own idx Cn (T j).2.1 (T j).2.2.1).before (ka K) (ks K) = true) (hsh : (shp ci)[j]? = some none) (hfin : (T j).2.2.2 = false) (hty : parseFieldDescriptor (T j).2.2.1 = some .boolean) {v : Int32} (hz : zb v) {r : Nat} (hr : LayG G μ → okO μ r ci) (hd : decode cc pc = .ok (.putfield idx, 3)) (k : ∀ μ1, μ1 = sI μ r j v → Rn K G nL (pc + 3) lv st μ1 a b) : Rn K G nL pc lv (.int v :: rv G (some r) :: st) μ a b := by
  rcases hz with rfl | rfl
  · exact r_putT C hc j hj hlk hsh hfin hty rfl rfl hr hd k
  · exact r_putT C hc j hj hlk hsh hfin hty rfl rfl hr hd k
theorem r_iald (C : Cx K G cc own nL rm) {r n : Nat} {i : Int32} (hr : LayG G μ → okA μ r 20 n) (hin : vp_in i n) (hd : decode cc pc = .ok (.iaload, 1)) (k : Rn K G nL (pc + 1) lv (.int (mI μ r i.toNatClampNeg) :: st) μ a b) : Rn K G nL pc lv (.int i :: rv G (some r) :: st) μ a b := by
  intro H locs ls hH hS hl
  have h1 := hr hH.1
  exact va_iald C.x C.b C.k (hH.P h1.1 (rend_i h1)) 0 0 rfl rfl hin hd (k H locs ls hH hS hl)
theorem r_zald (C : Cx K G cc own nL rm) {r n : Nat} {i : Int32} (hr : LayG G μ → okA μ r 21 n) (hin : vp_in i n) (hd : decode cc pc = .ok (.baload, 1)) (k : Rn K G nL (pc + 1) lv (.int (mI μ r i.toNatClampNeg) :: st) μ a b) : Rn K G nL pc lv (.int i :: rv G (some r) :: st) μ a b := by
  intro H locs ls hH hS hl
  have h1 := hr hH.1
  exact va_zald C.x C.b C.k (hH.P h1.1 (rend_z h1)) 0 1 rfl rfl hin hd (k H locs ls hH hS hl)
theorem r_lald (C : Cx K G cc own nL rm) {r n : Nat} {i : Int32} (hr : LayG G μ → okA μ r 23 n) (hin : vp_in i n) (hd : decode cc pc = .ok (.laload, 1)) (k : Rn K G nL (pc + 1) lv (.long (mI μ r i.toNatClampNeg).toInt64 :: st) μ a b) : Rn K G nL pc lv (.int i :: rv G (some r) :: st) μ a b := by
  intro H locs ls hH hS hl
  have h1 := hr hH.1
  exact va_lald C.x C.b C.k (hH.P h1.1 (rend_j h1)) 0 3 rfl rfl hin hd (k H locs ls hH hS hl)
theorem r_aald (C : Cx K G cc own nL rm) {r n : Nat} {i : Int32} (hr : LayG G μ → okA μ r 22 n) (hin : vp_in i n) (hd : decode cc pc = .ok (.aaload, 1)) (k : ∀ e, e = mR μ r i.toNatClampNeg → Rn K G nL (pc + 1) lv (rv G e :: st) μ a b) : Rn K G nL pc lv (.int i :: rv G (some r) :: st) μ a b := by
  intro H locs ls hH hS hl
  have h1 := hr hH.1
  have hk := k _ rfl H locs ls hH hS hl
  rw [← rv_rf] at hk
  exact va_aldq C.x C.b C.k (hH.P h1.1 (rend_q h1)) 0 2 rfl rfl hin hd hk
theorem r_alen (C : Cx K G cc own nL rm) {r n kd t0 : Nat} {x : vp_A} {v : Int32} {ty : FieldType} (hr : LayG G μ → okA μ r kd n) (hre : okA μ r kd n → ∃ cA, rend G μ r = .inl (cA, x) ∧ (gT G)[t0]? = some (cA, ty)) (hx : Int32.ofNat x.1 = v) (hd : decode cc pc = .ok (.arraylength, 1)) (k : Rn K G nL (pc + 1) lv (.int v :: st) μ a b) : Rn K G nL pc lv (rv G (some r) :: st) μ a b := by
  intro H locs ls hH hS hl
  have h1 := hr hH.1
  obtain ⟨cA, h2, h3⟩ := hre h1
  exact va_alen C.x C.b C.k (hH.P h1.1 h2) 0 t0 rfl h3 hx hd (k H locs ls hH hS hl)
theorem r_alenQ (C : Cx K G cc own nL rm) {r n : Nat} {v : Int32} (hr : LayG G μ → okA μ r 22 n) (hv : Int32.ofNat n = v) (hd : decode cc pc = .ok (.arraylength, 1)) (k : Rn K G nL (pc + 1) lv (.int v :: st) μ a b) : Rn K G nL pc lv (rv G (some r) :: st) μ a b := r_alen (t0 := 2) (ty := .object "LineCollector$Item") C hr (fun h => ⟨gA G 2, rend_q h, rfl⟩) hv hd k
theorem r_iast (C : Cx K G cc own nL rm) {r n : Nat} {i : Int32} (hr : LayG G μ → okA μ r 20 n) (hin : vp_in i n) (hd : decode cc pc = .ok (.iastore, 1)) {v : Int32} (k : ∀ μ1, μ1 = sI μ r i.toNatClampNeg v → Rn K G nL (pc + 1) lv st μ1 a b) : Rn K G nL pc lv (.int v :: .int i :: rv G (some r) :: st) μ a b := by
  intro H locs ls hH hS hl
  have h1 := hr hH.1
  have hre := rend_i (G := G) h1
  have ha : H[gb G + r]? = some (arrV (gA G 0) n (fun j => .int (mI μ r j))) := by
    have h2 : va_at (gD G) CL (gb G + r, rend G μ r) H := hH.2.2 r h1.1
    rw [hre] at h2
    exact h2
  refine W.iast C.x C.b ha ((C.k.2 0 _ rfl).1 n _) (fun q => by cases q) (by show ¬ (i < 0 ∨ (arrV _ _ _).slots.size ≤ _); rw [arrV_size]; exact hin) rfl rfl hd fun H1 e z oq => ?_
  refine k _ rfl H1 _ ls (hH.put (r := r) (hH.1.sI r i.toNatClampNeg v) rfl z oq (fun x hx => rend_ne hx) ?_) (hS.put z oq (by unfold gF; omega)) hl
  rw [rend_i (μ := sI μ r i.toNatClampNeg v) (r := r) (n := n) h1]
  show H1[gb G + r]? = some (arrV (gA G 0) n (fun j => .int (mI (sI μ r i.toNatClampNeg v) r j)))
  rw [e, arrV_store]
  congr 2
  funext q
  by_cases hq : q = i.toNatClampNeg
  · subst hq
    simp [updV, mI_sI]
  · simp [updV, mI_sI, hq]
theorem r_zast (C : Cx K G cc own nL rm) {r n : Nat} {i : Int32} (hr : LayG G μ → okA μ r 21 n) (hin : vp_in i n) (hd : decode cc pc = .ok (.bastore, 1)) {v : Int32} (hz : zb v) (k : ∀ μ1, μ1 = sI μ r i.toNatClampNeg v → Rn K G nL (pc + 1) lv st μ1 a b) : Rn K G nL pc lv (.int v :: .int i :: rv G (some r) :: st) μ a b := by
  intro H locs ls hH hS hl
  have hnar : narrow .boolean (.int v) = .int v := by rcases hz with rfl | rfl <;> rfl
  have h1 := hr hH.1
  have hre := rend_z (G := G) h1
  have ha : H[gb G + r]? = some (arrV (gA G 1) n (fun j => .int (mI μ r j))) := by
    have h2 : va_at (gD G) CL (gb G + r, rend G μ r) H := hH.2.2 r h1.1
    rw [hre] at h2
    exact h2
  refine W.zast C.x C.b ha ((C.k.2 1 _ rfl).1 n _) (fun q => by cases q) (by show ¬ (i < 0 ∨ (arrV _ _ _).slots.size ≤ _); rw [arrV_size]; exact hin) rfl rfl hd fun H1 e z oq => ?_
  refine k _ rfl H1 _ ls (hH.put (r := r) (hH.1.sI r i.toNatClampNeg v) rfl z oq (fun x hx => rend_ne hx) ?_) (hS.put z oq (by unfold gF; omega)) hl
  rw [rend_z (μ := sI μ r i.toNatClampNeg v) (r := r) (n := n) h1]
  show H1[gb G + r]? = some (arrV (gA G 1) n (fun j => .int (mI (sI μ r i.toNatClampNeg v) r j)))
  rw [e, arrV_store]
  congr 2
  funext q
  by_cases hq : q = i.toNatClampNeg
  · subst hq
    simp [updV, mI_sI, hnar]
  · simp [updV, mI_sI, hq]
theorem r_last (C : Cx K G cc own nL rm) {r n : Nat} {i : Int32} (hr : LayG G μ → okA μ r 23 n) (hin : vp_in i n) (hd : decode cc pc = .ok (.lastore, 1)) {v : Int32} (k : ∀ μ1, μ1 = sI μ r i.toNatClampNeg v → Rn K G nL (pc + 1) lv st μ1 a b) : Rn K G nL pc lv (.long v.toInt64 :: .int i :: rv G (some r) :: st) μ a b := by
  intro H locs ls hH hS hl
  have h1 := hr hH.1
  have hre := rend_j (G := G) h1
  have ha : H[gb G + r]? = some (arrV (gA G 3) n (fun j => .long (mI μ r j).toInt64)) := by
    have h2 : va_at (gD G) CL (gb G + r, rend G μ r) H := hH.2.2 r h1.1
    rw [hre] at h2
    exact h2
  refine W.last C.x C.b ha ((C.k.2 3 _ rfl).1 n _) (fun q => by cases q) (by show ¬ (i < 0 ∨ (arrV _ _ _).slots.size ≤ _); rw [arrV_size]; exact hin) rfl rfl hd fun H1 e z oq => ?_
  refine k _ rfl H1 _ ls (hH.put (r := r) (hH.1.sI r i.toNatClampNeg v) rfl z oq (fun x hx => rend_ne hx) ?_) (hS.put z oq (by unfold gF; omega)) hl
  rw [rend_j (μ := sI μ r i.toNatClampNeg v) (r := r) (n := n) h1]
  show H1[gb G + r]? = some (arrV (gA G 3) n (fun j => .long (mI (sI μ r i.toNatClampNeg v) r j).toInt64))
  rw [e, arrV_store]
  congr 2
  funext q
  by_cases hq : q = i.toNatClampNeg
  · subst hq
    simp [updV, mI_sI]
  · simp [updV, mI_sI, hq]
theorem r_aast (C : Cx K G cc own nL rm) {r n : Nat} {i : Int32} (hr : LayG G μ → okA μ r 22 n) (hin : vp_in i n) (hd : decode cc pc = .ok (.aastore, 1)) {v : Option Nat} (hv : ∀ y, v = some y → okO μ y 5) (k : ∀ μ1, μ1 = sR μ r i.toNatClampNeg v → Rn K G nL (pc + 1) lv st μ1 a b) : Rn K G nL pc lv (rv G v :: .int i :: rv G (some r) :: st) μ a b := by
  intro H locs ls hH hS hl
  have h1 := hr hH.1
  have hre := rend_q (G := G) h1
  have ha : H[gb G + r]? = some (arrV (gA G 2) n (fun j => va_rf ((mR μ r j).map (fun x => gb G + x)))) := by
    have h2 : va_at (gD G) CL (gb G + r, rend G μ r) H := hH.2.2 r h1.1
    rw [hre] at h2
    exact h2
  have fin : ∀ (H1 : Heap), H1[gb G + r]? = some ((arrV (gA G 2) n (fun j => va_rf ((mR μ r j).map (fun x => gb G + x)))).setSlot i.toNatClampNeg (rv G v)) → H1.size = H.size → (∀ q, q ≠ gb G + r → H1[q]? = H[q]?) →
      W (kp K) (kl K) (ke K) (kR K) (ks K) (km K) (ka K) (kw K) (kh K) (kc K) H1 (locs ++ [⟨gb G + r, i.toNatClampNeg⟩]) a b (kq K) (F0 (km K) (pc + 1) ls st) := by
    intro H1 e z oq
    refine k _ rfl H1 _ ls (hH.put (r := r) (hH.1.sR r i.toNatClampNeg v) rfl z oq (fun x hx => rend_neR hx) ?_) (hS.put z oq (by unfold gF; omega)) hl
    rw [rend_q (μ := sR μ r i.toNatClampNeg v) (r := r) (n := n) h1]
    show H1[gb G + r]? = some (arrV (gA G 2) n (fun j => va_rf ((mR (sR μ r i.toNatClampNeg v) r j).map (fun x => gb G + x))))
    rw [e, arrV_store]
    congr 2
    funext q
    by_cases hq : q = i.toNatClampNeg
    · subst hq
      simp [updV, mR_sR, rv_rf]
    · simp [updV, mR_sR, hq]
  have hlt : i.toNatClampNeg < n := Nat.not_le.mp fun q => hin (Or.inr q)
  have h0 : ¬ i < 0 := fun q => hin (Or.inl q)
  cases v with
  | none =>
    exact va_WaastN (C := "LineCollector$Item") C.x C.b ha ((C.k.2 2 _ rfl).1 n _) (fun h => by cases h) (by show ¬ (i < 0 ∨ (arrV _ _ _).slots.size ≤ _); rw [arrV_size]; exact hin) rfl rfl hd fun H1 e z oq => fin H1 e z oq
  | some y =>
    have hy := hv y rfl
    obtain ⟨q, h2, cellV, g1, g2, g3, -⟩ := hH.P hy.1 (rend_o (G := G) hy.2 (by decide)) 0 _ rfl
    have hcls := (C.k.1 5 _ rfl).2
    obtain ⟨kA, comp, k1, k2, k3, -⟩ := (C.k.2 2 _ rfl).2
    have hcomp : comp = (gD G).1 5 := Option.some.inj (k3.symm.trans hcls.1)
    subst hcomp
    obtain ⟨kC, hkC, -⟩ := hcls.2
    exact W.aast C.x C.b ha (fun q h => by cases h) (fun h => by cases h) k1 k2 rfl hkC ⟨h0, by show _ < (arrV _ _ _).slots.size; rw [arrV_size]; exact hlt⟩ g1 (fun q h => by rw [g3] at h; cases h) (by rw [g2]; exact hkC) (by rw [g2]; exact va_assign hcls) rfl rfl hd fun H1 e z oq => fin H1 e z oq
end RX
