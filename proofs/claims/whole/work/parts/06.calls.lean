/-! Methods by a tuple; entry, calls, returns -/
abbrev Mi : Type := MethodName × ByteArray × Nat × Option FieldType × Room × Nat
abbrev iy (i : Mi) : MethodName := i.1
abbrev ib (i : Mi) : ByteArray := i.2.1
abbrev il (i : Mi) : Nat := i.2.2.1
abbrev ir (i : Mi) : Option FieldType := i.2.2.2.1
abbrev im (i : Mi) : Room := i.2.2.2.2.1
abbrev ia (i : Mi) : Nat := i.2.2.2.2.2
def avl (G : Gl) (avs : List Av) : List Value := avs.map (avr G)
def Ct (l : Launch) (G : Gl) (i : Mi) (avs : List Av) (μ : Mem) (post : Option Value → Mem → Prop) (pe : Nat → Mem → Prop) : Prop :=
  MetX l (iy i) (Cond.code (iy i) (ib i) (il i) (ir i) :: LW) (im i) (va_Pc (avl G avs) (Wd G μ)) (Qe G post pe) (im i).cells (im i).slots (gF G)
def CtW (l : Launch) (G : Gl) (i : Mi) (hh : List (Nat × Nat × Nat × Nat)) (avs : List Av) (μ : Mem) (post : Option Value → Mem → Prop) (pe : Nat → Mem → Prop) : Prop :=
  MetX l (iy i) (Cond.codeWith (iy i) (ib i) (il i) (ir i) hh :: LW) (im i) (va_Pc (avl G avs) (Wd G μ)) (Qe G post pe) (im i).cells (im i).slots (gF G)
def noX : Nat → Mem → Prop := fun _ _ => False
def poV (post : Mem → Prop) : Option Value → Mem → Prop := fun v μ => v = none ∧ post μ
def poI (post : Int32 → Mem → Prop) : Option Value → Mem → Prop := fun v μ => ∃ n : Int32, v = some (.int n) ∧ post n μ
def poQ (G : Gl) (post : Option Nat → Mem → Prop) : Option Value → Mem → Prop := fun v μ => ∃ e : Option Nat, v = some (rv G e) ∧ post e μ
def MiB (i : Mi) : Prop := Cond.initialized (iy i).cls ∈ LW ∧ ((iy i).cls ≠ "java/lang/invoke/MethodHandle" ∧ (iy i).cls ≠ "java/lang/invoke/VarHandle") ∧ (parseMethodDescriptor (iy i).desc).map (fun d => d.parameters.length) = some (ia i)
def MiV (i : Mi) (Cn : String) : Prop := MiB i ∧ Cond.code (iy i) (ib i) (il i) (ir i) ∈ LW ∧ Cond.instanceMethod (iy i) ∈ LW ∧ Cond.selects Cn (iy i) (iy i) ∈ LW
def MiS (i : Mi) : Prop := MiB i ∧ Cond.code (iy i) (ib i) (il i) (ir i) ∈ LW ∧ Cond.static (iy i) ∈ LW
def MiW (i : Mi) (hh : List (Nat × Nat × Nat × Nat)) : Prop := MiB i ∧ Cond.codeWith (iy i) (ib i) (il i) (ir i) hh ∈ LW ∧ Cond.static (iy i) ∈ LW
theorem lg_len (G : Gl) (avs : List Av) : (lg_sl (avl G avs)).length = avs.length := by
  induction avs with
  | nil => rfl
  | cons v vs ih =>
    unfold avl lg_sl at ih ⊢
    rw [List.map_cons, List.flatMap_cons, if_neg (by rw [avr_cat]; decide), List.length_append, ih]
    simp
    omega
theorem lv_args_eq (G : Gl) (avs : List Av) (n : Nat) : lv_args n (avl G avs) = lvr G ((avs.zipIdx n).map (fun q => (q.2, q.1))) := by
  induction avs generalizing n with
  | nil => rfl
  | cons v vs ih =>
    unfold avl at ih ⊢
    rw [List.map_cons, lv_args, if_neg (by rw [avr_cat]; decide), ih, List.zipIdx_cons]
    rfl
theorem Xtra.at {G : Gl} {s U : State} {H : Heap} {locs : List Loc} (h : Xtra G s s.heap) (hS : va_S (gF G) s.heap H locs) (hb : gb G ≤ s.heap.size) (hvm : s.vm.Alike U.vm) : Xtra G U H := by
  obtain ⟨h1, h2, h3, h4, h5, h6⟩ := h
  have hk : ∀ q : Nat, q < s.heap.size → ¬ gF G q → H[q]? = s.heap[q]? := hS.2.1
  exact ⟨(h1.kept (hk _ (by omega) (by unfold gF; omega))).moved hvm, h2, (h3.kept hk).moved hvm, (h4.kept hk).moved hvm, h5.moved hvm, fun q hq => (h6 q hq).moved hvm⟩
theorem Wd.at {G : Gl} {μ : Mem} {s U : State} {H : Heap} {locs : List Loc} (hH : Hd G μ H) (hK : va_K (gD G) CL (gT G) s) (h : Xtra G s s.heap) (hS : va_S (gF G) s.heap H locs) (hb : gb G ≤ s.heap.size) (hU : U.heap = H) (hvm : s.vm.Alike U.vm) : Wd G μ U := by
  subst hU
  exact ⟨hH, hK.moved hvm, h.at hS hb hvm⟩
theorem base_le {K : Kx} {G : Gl} (h : ∃ μ0, Hq G μ0 (ks K).heap) : gb G ≤ (ks K).heap.size := by
  obtain ⟨μ0, h⟩ := h
  rw [h.1]
  omega
/-- into a method -/
theorem ct_of {l : Launch} {G : Gl} {i : Mi} {avs : List Av} {μ : Mem} {post : Option Value → Mem → Prop} {pe : Nat → Mem → Prop} (hl : l.stackTraces = false) (hy : plainName (iy i).cls = true) (hn : avs.length ≤ il i)
    (body : ∀ K : Kx, kl K = l → Cx K G (ib i) (iy i).cls (il i) (im i) → Cq K G (im i) (ir i) post pe → (kc K).exceptionTable.isEmpty = true → Rn K G (il i) 0 ((avs.zipIdx 0).map (fun q => (q.2, q.1))) [] μ 0 0) : Ct l G i avs μ post pe := by
  refine MetX.ofW (cc := ib i) (maxL := il i) (ret := ir i) hy rfl ?_
  intro p e s m args below meth c s₁ B hml hv
  obtain ⟨rfl, hH, hK, hX⟩ := hv
  have hts : ∀ w ∈ (Cond.code (iy i) (ib i) (il i) (ir i) :: LW), w.before (avl G avs).toArray s = true := atoms_spec B.pre
  have hent := lv_entry (avl G avs) (n := il i) (by rw [lg_len]; exact hn)
  rw [lg_entry_eq]
  rw [lv_args_eq] at hent
  exact body (p, l, e, im i, s, m, (avl G avs).toArray, below, meth, c, MQX below (Qe G post pe) (avl G avs).toArray s (im i).cells (im i).slots (gF G)) rfl
    ⟨B.exec, B.bytes, hml, findClass_of_methodNamed B.named, fun w hw => hts w (List.mem_cons_of_mem _ hw), hK, hX, rfl, B.notSynchronized, ⟨μ, hH.2⟩, hl⟩ ⟨B.returns, rfl⟩ (B.noHandlers (hts _ List.mem_cons_self)) s.heap [] _ hH va_S.rf hent
theorem ctw_of {l : Launch} {G : Gl} {i : Mi} {hh : List (Nat × Nat × Nat × Nat)} {avs : List Av} {μ : Mem} {post : Option Value → Mem → Prop} {pe : Nat → Mem → Prop} (hl : l.stackTraces = false) (hy : plainName (iy i).cls = true) (hn : avs.length ≤ il i)
    (body : ∀ K : Kx, kl K = l → Cx K G (ib i) (iy i).cls (il i) (im i) → Cq K G (im i) (ir i) post pe → (kc K).exceptionTable.toList.map (fun h => (h.startPc, h.endPc, h.handlerPc, h.catchType)) = hh → Rn K G (il i) 0 ((avs.zipIdx 0).map (fun q => (q.2, q.1))) [] μ 0 0) : CtW l G i hh avs μ post pe := by
  refine MetX.ofWW (cc := ib i) (maxL := il i) (ret := ir i) (hh := hh) hy rfl ?_
  intro p e s m args below meth c s₁ B hml hv
  obtain ⟨rfl, hH, hK, hX⟩ := hv
  have hts : ∀ w ∈ (Cond.codeWith (iy i) (ib i) (il i) (ir i) hh :: LW), w.before (avl G avs).toArray s = true := atoms_spec B.pre
  have hent := lv_entry (avl G avs) (n := il i) (by rw [lg_len]; exact hn)
  rw [lg_entry_eq]
  rw [lv_args_eq] at hent
  obtain ⟨m9, meth9, c9, hn9, h1, h2, -, -, h3, -⟩ := Cond.codeWith_spec (hts _ List.mem_cons_self)
  cases B.named.symm.trans hn9
  cases B.method.symm.trans h1
  cases (Stand.of_body B).code.symm.trans h2
  exact body (p, l, e, im i, s, m, (avl G avs).toArray, below, meth, c, MQX below (Qe G post pe) (avl G avs).toArray s (im i).cells (im i).slots (gF G)) rfl
    ⟨B.exec, B.bytes, hml, findClass_of_methodNamed B.named, fun w hw => hts w (List.mem_cons_of_mem _ hw), hK, hX, rfl, B.notSynchronized, ⟨μ, hH.2⟩, hl⟩ ⟨B.returns, rfl⟩ h3 s.heap [] _ hH va_S.rf hent
section CX
variable {K : Kx} {G : Gl} {cc : ByteArray} {own : String} {nL : Nat} {rm : Room} {rt : Option FieldType} {post : Option Value → Mem → Prop} {pe : Nat → Mem → Prop} {pc : Nat} {lv : List (Nat × Av)} {st : List Value} {μ : Mem} {a b : Nat}
theorem Cx.nc (C : Cx K G cc own nL rm) (i : Nat) {x y : String} (h : ncPairs[i]? = some (x, y)) : va_Nc x y (ks K) := C.e.2.2.2.2.2 (x, y) (List.mem_of_getElem? h)
/-- the end of a method -/
theorem q_ret (C : Cx K G cc own nL rm) {H : Heap} {locs : List Loc} (hH : Hd G μ H) (hS : va_S (gF G) (ks K).heap H locs) {v : Option Value} (hp : post v μ) : ∀ t : State, t.heap = H → (ks K).WarmedH t.vm → Qe G post pe (ka K) (ks K) (.returned v) t :=
  fun t ht hW => ⟨hS.F ht, Or.inl ⟨v, μ, rfl, hp, Wd.at hH C.k C.e hS (base_le C.d) ht hW.alike⟩⟩
theorem r_vret {po : Mem → Prop} (C : Cx K G cc own nL rm) (Q : Cq K G rm none (poV po) pe) (hd : decode cc pc = .ok (.return_, 1)) (h1 : a ≤ rm.cells) (h2 : b ≤ rm.slots) (hp : po μ) : Rn K G nL pc lv [] μ a b := by
  intro H locs ls hH hS hl
  have hlocks := C.l
  refine W.widen h1 h2 ?_
  rw [Q.2]
  exact wx_mono (fun t => mq_x) (W.vret C.x C.b Q.1 (q_ret C hH hS ⟨rfl, hp⟩) hS.2.2 hd hlocks)
theorem r_iret {po : Int32 → Mem → Prop} (C : Cx K G cc own nL rm) (Q : Cq K G rm (some .int) (poI po) pe) {v : Int32} (hd : decode cc pc = .ok (.ireturn, 1)) (h1 : a ≤ rm.cells) (h2 : b ≤ rm.slots) (hp : po v μ) : Rn K G nL pc lv [.int v] μ a b := by
  intro H locs ls hH hS hl
  have hlocks := C.l
  refine W.widen h1 h2 ?_
  rw [Q.2]
  exact wx_mono (fun t => mq_x) (W.iret C.x C.b Q.1 (q_ret C hH hS ⟨v, rfl, hp⟩) hS.2.2 hd hlocks)
theorem r_zret {po : Int32 → Mem → Prop} (C : Cx K G cc own nL rm) (Q : Cq K G rm (some .boolean) (poI po) pe) {v : Int32} (hz : zb v) (hd : decode cc pc = .ok (.ireturn, 1)) (h1 : a ≤ rm.cells) (h2 : b ≤ rm.slots) (hp : po v μ) : Rn K G nL pc lv [.int v] μ a b := by
  intro H locs ls hH hS hl
  have hlocks := C.l
  refine W.widen h1 h2 ?_
  rw [Q.2]
  exact wx_mono (fun t => mq_x) (W.zret C.x C.b Q.1 (by rcases hz with rfl | rfl <;> rfl) (q_ret C hH hS ⟨v, rfl, hp⟩) hS.2.2 hd hlocks)
theorem r_aret {cn : String} {po : Option Nat → Mem → Prop} (C : Cx K G cc own nL rm) (Q : Cq K G rm (some (.object cn)) (poQ G po) pe) {v : Option Nat} (hd : decode cc pc = .ok (.areturn, 1)) (h1 : a ≤ rm.cells) (h2 : b ≤ rm.slots) (hp : po v μ) : Rn K G nL pc lv [rv G v] μ a b := by
  intro H locs ls hH hS hl
  have hlocks := C.l
  refine W.widen h1 h2 ?_
  rw [Q.2]
  exact wx_mono (fun t => mq_x) (W.aret C.x C.b Q.1 (Or.inl ⟨_, rfl⟩) (by cases v with | none => exact Or.inl rfl | some y => exact Or.inr ⟨_, rfl⟩) (q_ret C hH hS ⟨v, rfl, hp⟩) hS.2.2 hd hlocks)
/-- behind a call -/
theorem s_over {H : Heap} {locs L : List Loc} {st0 t : State} (hS : va_S (gF G) (ks K).heap H locs) (h0 : st0.heap = H) (hF : va_F (gF G) st0 t) (hL : ∀ q ∈ L, gF G q.base) : va_S (gF G) (ks K).heap t.heap (locs ++ L) := by
  subst h0
  refine ⟨Nat.le_trans hS.1 hF.1, fun q h1 h2 => (hF.2 q (Nat.lt_of_lt_of_le h1 hS.1) h2).trans (hS.2.1 q h1 h2), fun q hq => ?_⟩
  rcases List.mem_append.mp hq with h | h
  · exact hS.2.2 q h
  · exact hL q h
theorem pc_in (C : Cx K G cc own nL rm) {H : Heap} {locs : List Loc} (hH : Hd G μ H) (hS : va_S (gF G) (ks K).heap H locs) {avs : List Av} {av : Array Value} (hav : av = (avl G avs).toArray) : ∀ U : State, U.heap = H → (ks K).WarmedH U.vm → va_Pc (avl G avs) (Wd G μ) av U :=
  fun _ hU hW => ⟨hav, Wd.at hH C.k C.e hS (base_le C.d) hU hW.alike⟩
theorem ws_in (C : Cx K G cc own nL rm) {w0 : Cond} (h0 : w0 ∈ LW) : ∀ w ∈ (w0 :: LW), ∀ (a' : Array Value) (U : State), (ks K).WarmedH U.vm → w.before a' U = true := by
  intro w hw a' U hU
  rcases List.mem_cons.mp hw with rfl | hw
  · exact lw_ok _ h0 hU (C.w _ h0)
  · exact lw_ok _ hw hU (C.w _ hw)
theorem st_room {g : JFrame} {st : List Value} (h0 : g.monitorRoom = 0) (h : (st.map fun v => v.category).sum ≤ 8) : 2 * g.monitorRoom + (st.map fun v => v.category).sum ≤ 8 := by
  omega
/-- the walk goes on behind a call that returns -/
theorem k_ret {po : Option Value → Mem → Prop} {pf : Nat → Mem → Prop} {H : Heap} {locs : List Loc} {ls : Array Slot} {mc ms : Nat} {avs : Array Value} (hS : va_S (gF G) (ks K).heap H locs) (hl : lv_has ls nL (lvr G lv))
    (kr : ∀ v μ1, po v μ1 → Rn K G nL (pc + 3) lv (v.toList ++ st) μ1 (a + mc) (b + ms)) :
    ∀ (v : Option Value) (st0 t : State) (L : List Loc), st0.heap = H → (ks K).WarmedH t.vm → Qe G po pf avs st0 (.returned v) t → (∀ q ∈ L, gF G q.base) →
      W (kp K) (kl K) (ke K) (kR K) (ks K) (km K) (ka K) (kw K) (kh K) (kc K) t.heap (locs ++ L) (a + mc) (b + ms) (kq K) (F0 (km K) (pc + 3) ls (v.toList ++ st)) := by
  intro v st0 t L h0 hW hq hL
  obtain ⟨hF, ⟨v', μ1, h1, h2, h3⟩ | ⟨q, x, μ1, h1, -⟩⟩ := hq
  · cases h1
    exact kr v μ1 h2 t.heap _ ls h3.1 (s_over hS h0 hF hL) hl
  · cases h1
theorem r_cV (C : Cx K G cc own nL rm) {i : Mi} {Cn : String} {T : u_T} {N ci rr idx : Nat} {As : List Av} {po : Option Value → Mem → Prop} {stk : List Value} (hM : Ct (kl K) G i (.inr (.inl (some rr)) :: As) μ po noX) (hi : MiV i Cn) (hc : CL[ci]? = some (Cn, T, N)) (hr : LayG G μ → okO μ rr ci)
    (hlk : (Cond.methodLink own idx (iy i)).before (ka K) (ks K) = true) (hn : As.length = ia i) (hrm : (im i).frames + 1 ≤ rm.frames ∧ 8 + (il i + 11) + (im i).locals ≤ rm.locals ∧ a + (im i).cells ≤ rm.cells ∧ b + (im i).slots ≤ rm.slots)
    (hw : (st.map fun v => v.category).sum ≤ 8) (hd : decode cc pc = .ok (.invokevirtual idx, 3)) (hstk : stk = (avl G As).reverse ++ rv G (some rr) :: st) (kr : ∀ v μ1, po v μ1 → Rn K G nL (pc + 3) lv (v.toList ++ st) μ1 (a + (im i).cells) (b + (im i).slots)) : Rn K G nL pc lv stk μ a b := by
  intro H locs ls hH hS hl
  have h1 := hr hH.1
  have h9 := cl_lt hc
  obtain ⟨q, h2, cell, q1, q2, q3, -⟩ := hH.P h1.1 (rend_o (G := G) h1.2 (by omega)) 0 _ rfl
  have hcls : (ks K).vm.findClass Cn = some cell.cls := by rw [q2]; exact (C.k.1 ci _ hc).2.1
  obtain ⟨⟨i1, i2, i3⟩, i4, i5, i6⟩ := hi
  have hR := C.r
  refine overX (g := F0 (km K) pc ls stk) (rest := st) (avs := (avl G (.inr (.inl (some rr)) :: As)).toArray) C.b hM rfl rfl (by rw [hR]; exact hrm.1) (by rw [hR]; exact hrm.2.1) rfl (hl.1.trans C.n.symm) hd (st_room rfl hw) (ws_in C i4) (fun a' U hU => lw_ok _ i1 hU (C.w _ i1)) ?_ (by rw [hR]; exact hrm.2.2.1) (by rw [hR]; exact hrm.2.2.2) (pc_in C hH hS rfl) (k_ret hS hl kr) ?_
  · intro T0 hT0 X
    exact landV X C.x C.o hlk (C.w _ i5) (C.w _ i6) (C.w _ i4) i2 (by rw [hT0]; exact q1) (by rw [q3]; rfl) hcls rfl (argsL := avl G As) (by rw [i3, ← hn]; simp [avl]) hstk (by rw [C.b]; exact hd)
  · intro x st0 t L _ _ hq _
    obtain ⟨-, ⟨v, μ1, h3, -⟩ | ⟨q, x, μ1, -, h3, -⟩⟩ := hq
    · cases h3
    · exact h3.elim
theorem r_cS (C : Cx K G cc own nL rm) {i : Mi} {idx : Nat} {As : List Av} {po : Option Value → Mem → Prop} {stk : List Value} (hM : Ct (kl K) G i As μ po noX) (hi : MiS i)
    (hlk : (Cond.methodLink own idx (iy i)).before (ka K) (ks K) = true) (hn : As.length = ia i) (hrm : (im i).frames + 1 ≤ rm.frames ∧ 8 + (il i + 11) + (im i).locals ≤ rm.locals ∧ a + (im i).cells ≤ rm.cells ∧ b + (im i).slots ≤ rm.slots)
    (hw : (st.map fun v => v.category).sum ≤ 8) (hd : decode cc pc = .ok (.invokestatic idx, 3)) (hstk : stk = (avl G As).reverse ++ st) (kr : ∀ v μ1, po v μ1 → Rn K G nL (pc + 3) lv (v.toList ++ st) μ1 (a + (im i).cells) (b + (im i).slots)) : Rn K G nL pc lv stk μ a b := by
  intro H locs ls hH hS hl
  obtain ⟨⟨i1, i2, i3⟩, i4, i5⟩ := hi
  have hR := C.r
  refine overX (g := F0 (km K) pc ls stk) (rest := st) (avs := (avl G As).toArray) C.b hM rfl rfl (by rw [hR]; exact hrm.1) (by rw [hR]; exact hrm.2.1) rfl (hl.1.trans C.n.symm) hd (st_room rfl hw) (ws_in C i4) (fun a' U hU => lw_ok _ i1 hU (C.w _ i1)) ?_ (by rw [hR]; exact hrm.2.2.1) (by rw [hR]; exact hrm.2.2.2) (pc_in C hH hS rfl) (k_ret hS hl kr) ?_
  · intro T0 hT0 X
    obtain ⟨mk, hnamed⟩ := Cond.code_named (C.w _ i4)
    obtain ⟨methM, cM, hmethM, hcM, -, hlM, -, -, -, hsigM⟩ := Cond.code_spec hnamed (C.w _ i4)
    exact landS X C.x C.o hlk (C.w _ i5) (C.w _ i1) hnamed hmethM hcM hlM hsigM i2 rfl (argsL := avl G As) (by rw [i3, ← hn]; simp [avl]) hstk (by rw [C.b]; exact hd)
  · intro x st0 t L _ _ hq _
    obtain ⟨-, ⟨v, μ1, h3, -⟩ | ⟨q, x, μ1, -, h3, -⟩⟩ := hq
    · cases h3
    · exact h3.elim
theorem r_cW (C : Cx K G cc own nL rm) {i : Mi} {hh : List (Nat × Nat × Nat × Nat)} {idx : Nat} {As : List Av} {po : Option Value → Mem → Prop} {stk : List Value} (hM : CtW (kl K) G i hh As μ po noX) (hi : MiW i hh)
    (hlk : (Cond.methodLink own idx (iy i)).before (ka K) (ks K) = true) (hn : As.length = ia i) (hrm : (im i).frames + 1 ≤ rm.frames ∧ 8 + (il i + 11) + (im i).locals ≤ rm.locals ∧ a + (im i).cells ≤ rm.cells ∧ b + (im i).slots ≤ rm.slots)
    (hw : (st.map fun v => v.category).sum ≤ 8) (hd : decode cc pc = .ok (.invokestatic idx, 3)) (hstk : stk = (avl G As).reverse ++ st) (kr : ∀ v μ1, po v μ1 → Rn K G nL (pc + 3) lv (v.toList ++ st) μ1 (a + (im i).cells) (b + (im i).slots)) : Rn K G nL pc lv stk μ a b := by
  intro H locs ls hH hS hl
  obtain ⟨⟨i1, i2, i3⟩, i4, i5⟩ := hi
  have hR := C.r
  refine overX (g := F0 (km K) pc ls stk) (rest := st) (avs := (avl G As).toArray) C.b hM rfl rfl (by rw [hR]; exact hrm.1) (by rw [hR]; exact hrm.2.1) rfl (hl.1.trans C.n.symm) hd (st_room rfl hw) (ws_in C i4) (fun a' U hU => lw_ok _ i1 hU (C.w _ i1)) ?_ (by rw [hR]; exact hrm.2.2.1) (by rw [hR]; exact hrm.2.2.2) (pc_in C hH hS rfl) (k_ret hS hl kr) ?_
  · intro T0 hT0 X
    obtain ⟨mk, methM, cM, hnamed, hmethM, hcM, -, hlM, -, -, -, hsigM⟩ := Cond.codeWith_spec (C.w _ i4)
    exact landS X C.x C.o hlk (C.w _ i5) (C.w _ i1) hnamed hmethM hcM hlM hsigM i2 rfl (argsL := avl G As) (by rw [i3, ← hn]; simp [avl]) hstk (by rw [C.b]; exact hd)
  · intro x st0 t L _ _ hq _
    obtain ⟨-, ⟨v, μ1, h3, -⟩ | ⟨q, x, μ1, -, h3, -⟩⟩ := hq
    · cases h3
    · exact h3.elim
/-- Math.min -/
theorem r_min (C : Cx K G cc own nL rm) {x y : Int32} {idx : Nat} (hlk : (Cond.methodLink own idx Lib.Math.min.name).before (ka K) (ks K) = true) (hs : (Cond.static Lib.Math.min.name).before (ka K) (ks K) = true) (hi : (Cond.initialized "java/lang/Math").before (ka K) (ks K) = true) (hco : (Cond.code Lib.Math.min.name Lib.Math.min.code 2 (some .int)).before (ka K) (ks K) = true)
    (hrm : 1 ≤ rm.frames ∧ (st.map fun v => v.category).sum + 13 ≤ rm.locals ∧ a ≤ rm.cells ∧ b ≤ rm.slots) (hd : decode cc pc = .ok (.invokestatic idx, 3)) (k : Rn K G nL (pc + 3) lv (.int (jmin x y) :: st) μ a b) : Rn K G nL pc lv (.int y :: .int x :: st) μ a b := by
  intro H locs ls hH hS hl
  have hR := C.r
  exact va_mmin C.x C.b (C.n.trans hl.1.symm) C.o hlk hs hi hco (by rw [hR]; exact hrm.1) (by rw [hR]; exact hrm.2.1) (by rw [hR]; exact hrm.2.2.1) (by rw [hR]; exact hrm.2.2.2) hd (k H locs ls hH hS hl)
end CX
