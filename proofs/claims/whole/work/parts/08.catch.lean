/-! An exception that a callee throws is caught in the method that called: the catch's classes may still have to be linked -/
section TZ
variable {e : Env} {s : State} {f : JFrame} {a : Addr}
theorem go_hit {Q : Handler → Pre} {E : CtlPost} {d : Bool} {acts : List Action} {x : ExceptionTableEntry} {t : List ExceptionTableEntry} {c : ClassId} {cell : Cell} (hx : covers x f.pc = true) (h0 : x.catchType ≠ 0)
    (hl : s.vm.ClassLinks e.platform f.method.cls x.catchType c) (hcell : s.heap[a]? = some cell) (hobj : ∀ k, cell.vm ≠ .statics k)
    (hk : ∃ k, s.vm.classes[cell.cls]? = some k) (hc : ∃ k, s.vm.classes[c]? = some k) (hfit : s.vm.assignable cell.cls c = true) :
    wp (findHandler.go f a (x :: t)) Q E e d acts s ↔ Q (.found x.handlerPc) d acts (s.setVm (s.vm.noted f.method.cls x.catchType (.cls c))) := by
  simp only [covers] at hx
  obtain ⟨ha, ht⟩ := (resolveClass_links e.toSetting hl).op (op := VmOp.resolveClass f.method.cls x.catchType) rfl
  have hal : s.vm.Alike (s.vm.noted f.method.cls x.catchType (.cls c)) := (Vm.Alike.refl s.vm).noted _ _ _
  obtain ⟨k1, hk1⟩ := hk
  obtain ⟨k2, hk2⟩ := hc
  obtain ⟨k1', hk1', -⟩ := hal.2.2 _ _ hk1
  obtain ⟨k2', hk2', -⟩ := hal.2.2 _ _ hk2
  have hfit' : (s.vm.noted f.method.cls x.catchType (.cls c)).assignable cell.cls c = true := by rw [hal.assignable]; exact hfit
  simp [findHandler.go, hx, h0, ha, ht, hcell, hobj, hk1', hk2', hfit', VmOp.dirties, VmOp.acts]
theorem go_pass {Q : Handler → Pre} {E : CtlPost} {d : Bool} {acts : List Action} {x : ExceptionTableEntry} {t : List ExceptionTableEntry} {c : ClassId} {cell : Cell} (hx : covers x f.pc = true) (h0 : x.catchType ≠ 0)
    (hl : s.vm.ClassLinks e.platform f.method.cls x.catchType c) (hcell : s.heap[a]? = some cell) (hobj : ∀ k, cell.vm ≠ .statics k)
    (hk : ∃ k, s.vm.classes[cell.cls]? = some k) (hc : ∃ k, s.vm.classes[c]? = some k) (hfit : s.vm.assignable cell.cls c = false) :
    wp (findHandler.go f a (x :: t)) Q E e d acts s ↔ wp (findHandler.go f a t) Q E e d acts (s.setVm (s.vm.noted f.method.cls x.catchType (.cls c))) := by
  simp only [covers] at hx
  obtain ⟨ha, ht⟩ := (resolveClass_links e.toSetting hl).op (op := VmOp.resolveClass f.method.cls x.catchType) rfl
  have hal : s.vm.Alike (s.vm.noted f.method.cls x.catchType (.cls c)) := (Vm.Alike.refl s.vm).noted _ _ _
  obtain ⟨k1, hk1⟩ := hk
  obtain ⟨k2, hk2⟩ := hc
  obtain ⟨k1', hk1', -⟩ := hal.2.2 _ _ hk1
  obtain ⟨k2', hk2', -⟩ := hal.2.2 _ _ hk2
  have hfit' : (s.vm.noted f.method.cls x.catchType (.cls c)).assignable cell.cls c = false := by rw [hal.assignable]; exact hfit
  conv => lhs; unfold findHandler.go
  simp [hx, h0, ha, ht, hcell, hobj, hk1', hk2', hfit', VmOp.dirties, VmOp.acts]
theorem catch_to {tb : Tables} {target : State} {g : JFrame} {c : Code} {below : List Frame} (h : At s g.method c below) {pc : Nat} {vm' : Vm}
    (hfind : ∀ (Q : Handler → Pre) (E : CtlPost) (d : Bool) (acts : List Action), wp (findHandler g a) Q E e d acts ((s.setTop g).pushFrame (.throwing a)) ↔ Q (.found pc) d acts (((s.setTop g).pushFrame (.throwing a)).setVm vm'))
    (hrest : Steps tb e below ((s.setVm vm').setTop { g with pc := pc, stack := [.ref a] }) target) : Steps tb e below ((s.setTop g).pushFrame (.throwing a)) target := by
  obtain ⟨hgo, hw⟩ := h.throwing a
  refine Steps.head hgo hw ?_
  have hstep : (stepThrowing e ((s.setTop g).pushFrame (.throwing a)) a (.java g :: s.frames.tail)).Is ((((s.setTop g).pushFrame (.throwing a)).setVm vm').setFrames (.java { g with pc := pc, stack := [.ref a] } :: s.frames.tail)) [] := by
    simp only [stepThrowing, searchFrame, vmDo]
    generalize hr : Sem.go _ e false [] ((s.setTop g).pushFrame (.throwing a)) = res
    obtain ⟨as, rfl, ha⟩ := Sem.eq_ok_of hr (a := Handler.found pc) (s' := ((s.setTop g).pushFrame (.throwing a)).setVm vm') (acts' := []) (by simp [hfind])
    exact ⟨rfl, ha⟩
  rw [stepThread_throwing (frames_entered h.top _), hstep.1]
  obtain ⟨g₀, hg⟩ := Option.isSome_iff_exists.mp h.top
  obtain ⟨r, hr⟩ := State.topJava?_eq_some.mp hg
  have hr' : (s.setVm vm').frames = .java g₀ :: r := hr
  have e1 : ∀ (u : State) (F F' : List Frame), ((u.setFrames F).setVm vm').setFrames F' = (u.setVm vm').setFrames F' := fun u F F' => by
    have e2 : (u.setFrames F).setVm vm' = (u.setVm vm').setFrames F := rfl
    rw [e2, State.setFrames_setFrames]
  rw [State.setTop_of_frames _ hr'] at hrest
  rw [hr, List.tail_cons, State.pushFrame, e1, State.setTop_of_frames _ hr, e1]
  exact hrest
end TZ
/-- the handlers' list leads an exception of the class X to tgt -/
def Caught (args : Array Value) (s : State) (own X : String) (pc tgt : Nat) : List (Nat × Nat × Nat × Nat) → Prop
  | [] => False
  | h :: t => (h.1 ≤ pc ∧ pc < h.2.1 ∧ h.2.2.2 ≠ 0) ∧ ∃ Y : String, (Cond.classLink own h.2.2.2 Y).before args s = true ∧ (((Cond.castable X Y).before args s = true ∧ tgt = h.2.2.1) ∨ (va_Nc X Y s ∧ Caught args s own X pc tgt t))
section TW
variable {p : Program} {l : Launch} {e : Env} {R : Room} {s : State} {m : MethodId} {args : Array Value} {below : List Frame} {meth : Method} {c : Code} {locs : List Loc} {cells slots : Nat}
theorem catch_walk {g : JFrame} (hg : g.method = m) {own cls : String} (hown : s.vm.findClass own = some m.cls) {a : Addr} {cell : Cell} (hobj : cell.vm = .none) (hcls : s.vm.findClass cls = some cell.cls) {tgt : Nat} :
    ∀ (tbl : List ExceptionTableEntry) (T : State), Stand p l e R s m args below meth c T locs cells slots → T.heap[a]? = some cell → Caught args s own cls g.pc tgt (tbl.map (fun h => (h.startPc, h.endPc, h.handlerPc, h.catchType))) →
    ∃ vm', Stand p l e R s m args below meth c (T.setVm vm') locs cells slots ∧ ∀ (Q : Handler → Pre) (E : CtlPost) (d : Bool) (acts : List Action), wp (findHandler.go g a tbl) Q E e d acts ((T.setTop g).pushFrame (.throwing a)) ↔ Q (.found tgt) d acts (((T.setTop g).pushFrame (.throwing a)).setVm vm') := by
  intro tbl
  induction tbl with
  | nil => intro T X _ h; exact h.elim
  | cons x t ih =>
    intro T X hcell h
    obtain ⟨⟨h1, h2, h3⟩, Y, hlink, hor⟩ := h
    dsimp only at h1 h2 h3 hlink
    have hx : covers x g.pc = true := by
      simp only [covers]
      simp [h1, h2]
    have hpl : e.platform.magicAccessors = ({} : Platform).magicAccessors := by rw [X.admits.platform]
    obtain ⟨cT, hcT, hcl⟩ := Cond.classLink_spec hown hlink e.platform hpl
    obtain ⟨dk, _, _, kt, hd, _, _, _, _, hkt, _, hopen⟩ := hcl.here
    have hcl₀ := X.warmed.classLinks hcl
    have hW' : s.WarmedH (T.vm.noted m.cls x.catchType (.cls cT)) := X.warmed.noted hd hopen (State.rightAt_cls hcl)
    have hal := X.warmed.alike
    obtain ⟨kt', hkt', -⟩ := hal.2.2 _ _ hkt
    obtain ⟨kc, hkc⟩ := Vm.classAt_of_findClass hcls
    obtain ⟨kc', hkc', -⟩ := hal.2.2 _ _ hkc
    have ho : ∀ k, cell.vm ≠ .statics k := fun k h => by rw [hobj] at h; cases h
    subst hg
    have hheap : ((T.setTop g).pushFrame (.throwing a)).heap[a]? = some cell := by
      rw [Stand.throwing_heap]; exact hcell
    have hvm : ((T.setTop g).pushFrame (.throwing a)).vm = T.vm := Stand.throwing_vm T g a
    rcases hor with ⟨hcast, rfl⟩ | ⟨⟨c1, c2, n1, n2, n3⟩, hrest⟩
    · obtain ⟨c3, c4, w1, w2, w3⟩ := Cond.castable_spec hcast
      cases hcls.symm.trans w1
      cases hcT.symm.trans w2
      refine ⟨_, X.noted hW', fun Q E d acts => ?_⟩
      exact go_hit (s := (T.setTop g).pushFrame (.throwing a)) (f := g) (c := cT) hx h3 (by rw [hvm]; exact hcl₀) hheap ho (by rw [hvm]; exact ⟨_, hkc'⟩) (by rw [hvm]; exact ⟨_, hkt'⟩) (by rw [hvm, hal.assignable]; exact w3)
    · cases hcls.symm.trans n1
      cases hcT.symm.trans n2
      obtain ⟨vm', X', hf⟩ := ih (T.setVm (T.vm.noted g.method.cls x.catchType (.cls cT))) (X.noted hW') hcell hrest
      refine ⟨vm', X', fun Q E d acts => ?_⟩
      refine (go_pass (s := (T.setTop g).pushFrame (.throwing a)) (f := g) (c := cT) hx h3 (by rw [hvm]; exact hcl₀) hheap ho (by rw [hvm]; exact ⟨_, hkc'⟩) (by rw [hvm]; exact ⟨_, hkt'⟩) (by rw [hvm, hal.assignable]; exact n3)).trans ?_
      exact hf Q E d acts
end TW
section TV
variable {K : Kx} {G : Gl} {cc : ByteArray} {own : String} {nL : Nat} {rm : Room} {rt : Option FieldType} {post : Option Value → Mem → Prop} {pe : Nat → Mem → Prop} {pc : Nat} {lv : List (Nat × Av)} {st : List Value} {μ : Mem} {a b : Nat}
theorem r_cVc (C : Cx K G cc own nL rm) {hh : List (Nat × Nat × Nat × Nat)} (hE : (kc K).exceptionTable.toList.map (fun h => (h.startPc, h.endPc, h.handlerPc, h.catchType)) = hh) {i : Mi} {Cn : String} {T : u_T} {N ci rr idx : Nat} {As : List Av} {po : Option Value → Mem → Prop} {pf : Nat → Mem → Prop} {stk : List Value} (hM : Ct (kl K) G i (.inr (.inl (some rr)) :: As) μ po pf) (hi : MiV i Cn) (hc : CL[ci]? = some (Cn, T, N)) (hr : LayG G μ → okO μ rr ci)
    (hlk : (Cond.methodLink own idx (iy i)).before (ka K) (ks K) = true) (hn : As.length = ia i) (hrm : (im i).frames + 1 ≤ rm.frames ∧ 8 + (il i + 11) + (im i).locals ≤ rm.locals ∧ a + (im i).cells ≤ rm.cells ∧ b + (im i).slots ≤ rm.slots)
    (hw : (st.map fun v => v.category).sum ≤ 8) (hd : decode cc pc = .ok (.invokevirtual idx, 3)) (hstk : stk = (avl G As).reverse ++ rv G (some rr) :: st) (kr : ∀ v μ1, po v μ1 → Rn K G nL (pc + 3) lv (v.toList ++ st) μ1 (a + (im i).cells) (b + (im i).slots))
    (kt : ∀ q μ1, pf q μ1 → ∃ (X : String) (tgt : Nat), CL[q]? = some (X, fT_0, 0) ∧ Caught (ka K) (ks K) own X pc tgt hh ∧ ∀ z, Rn K G nL tgt lv [rv G (some z)] μ1 (a + (im i).cells) (b + (im i).slots)) : Rn K G nL pc lv stk μ a b := by
  intro H locs ls hH hS hl
  have h1 := hr hH.1
  have h9 := cl_lt hc
  obtain ⟨q, h2, cell, q1, q2, q3, -⟩ := hH.P h1.1 (rend_o (G := G) h1.2 (by omega)) 0 _ rfl
  have hcls : (ks K).vm.findClass Cn = some cell.cls := by rw [q2]; exact (C.k.1 ci _ hc).2.1
  obtain ⟨⟨i1, i2, i3⟩, i4, i5, i6⟩ := hi
  have hR := C.r
  refine overX (g := F0 (km K) pc ls stk) (rest := st) (avs := (avl G (.inr (.inl (some rr)) :: As)).toArray) C.b hM rfl rfl (by rw [hR]; exact hrm.1) (by rw [hR]; exact hrm.2.1) rfl (hl.1.trans C.n.symm) hd (st_room rfl hw) (ws_in C i4) (fun a' U hU => lw_ok _ i1 hU (C.w _ i1)) ?_ (by rw [hR]; exact hrm.2.2.1) (by rw [hR]; exact hrm.2.2.2) (pc_in C hH hS rfl) (k_ret hS hl kr) ?_
  · intro T0 hT0 X
    exact landV X C.x C.o hlk (C.w _ i5) (C.w _ i6) (C.w _ i4) i2 (by rw [hT0]; exact q1) (by rw [q3]; rfl) hcls rfl (argsL := avl G As) (by rw [i3, ← hn]; simp [avl]) hstk (by rw [C.b]; exact hd)
  · intro x st0 t L h0 hWt hq hL T1 hT1 X1
    obtain ⟨hF, ⟨v, μ1, h3, -⟩ | ⟨q, x', μ1, h3, h4, h5, z, h6, h7⟩⟩ := hq
    · cases h3
    · cases h3
      have hSU := s_over hS h0 hF hL
      obtain ⟨X, tgt, hX, hca, hgo⟩ := kt q μ1 h4
      have hq9 := cl_lt hX
      obtain ⟨r9, g1, ce, g2, g3, g4, -⟩ := h5.1.P h7.1 (rend_o (G := G) h7.2 (by omega)) 0 _ rfl
      have hce : (ks K).vm.findClass X = some ce.cls := by rw [g3]; exact (C.k.1 q _ hX).2.1
      have hxz : x = gb G + z := h6
      subst hxz
      rw [← hE] at hca
      obtain ⟨vm', X2, hf⟩ := catch_walk (g := F0 (km K) pc ls st) rfl C.o (a := gb G + z) g4 hce _ T1 X1 (by rw [hT1]; exact g2) hca
      obtain ⟨t2, a1, b1⟩ := hgo z t.heap _ ls h5.1 hSU hl (T1.setVm vm') hT1 X2
      refine ⟨t2, ?_, b1⟩
      refine catch_to (g := F0 (km K) pc ls st) X1.here (vm' := vm') (fun Q E d acts => ?_) a1
      rw [W.findHandler_eq (meth := kh K) (code := kc K) (by rw [Stand.throwing_vm]; exact X1.method') X1.code]
      exact hf Q E d acts
end TV
