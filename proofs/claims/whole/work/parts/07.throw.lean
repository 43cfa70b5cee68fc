/-! Throwing and catching -/
theorem at_vm {D : va_G} {cl : List vw_C} {q : Nat × va_E} {H : Heap} {cell : Cell} (h : va_at D cl q H) (hc : H[q.1]? = some cell) : cell.vm = .none := by
  obtain ⟨x, e⟩ := q
  cases e with
  | inl y =>
    obtain ⟨cA, n, f⟩ := y
    have h' : H[x]? = some (vp_cell cA (n, f)) := h
    cases Option.some.inj (hc.symm.trans h')
    rcases f with f | f | f | f | f <;> rfl
  | inr o =>
    obtain ⟨r, -, c2, h2, -, h3, -⟩ := h
    cases Option.some.inj (hc.symm.trans h2)
    exact h3
theorem rend_bump {G : Gl} {μ : Mem} {k r : Nat} (h : r < mN μ) : rend G (bump μ k) r = rend G μ r := by
  have hk : mK (bump μ k) r = mK μ r := by rw [mK_bump, if_neg (by omega)]
  unfold rend
  rw [hk]
  rfl
theorem Hd.bump {G : Gl} {μ : Mem} {H H1 : Heap} {k : Nat} {X : String} (h : Hd G μ H) (hk : CL[k]? = some (X, fT_0, 0)) (hz : H1.size = H.size + 1) (ho : ∀ q, q < H.size → H1[q]? = H[q]?) {ce : Cell} (he : H1[H.size]? = some ce) (hc : ce.cls = (gD G).1 k) (hv : ce.vm = .none) : Hd G (bump μ k) H1 := by
  refine ⟨h.1.bump k, by rw [hz, h.2.1, mN_bump]; omega, fun r hr => ?_⟩
  rw [mN_bump] at hr
  by_cases e : r < mN μ
  · rw [rend_bump e]
    exact (h.2.2 r e).kept (ho _ (by rw [h.2.1]; omega))
  · have er : r = mN μ := by omega
    subst er
    have h9 := cl_lt hk
    rw [rend_o (ci := k) (by rw [mK_bump, if_pos rfl]) (by omega)]
    exact ⟨_, hk, ce, by rw [← h.2.1]; exact he, hc, hv, fun j hj => absurd hj (Nat.not_lt_zero j)⟩
section TX
variable {p : Program} {l : Launch} {e : Env} {R : Room} {s : State} {m₀ : MethodId} {args : Array Value} {below : List Frame} {meth : Method} {c : Code} {W0 : State} {locs : List Loc} {cells slots : Nat}
set_option maxHeartbeats 1000000 in
/-- 'throw new X()', from the call of X's constructor on: the heap afterwards is the heap before but for the exception's own cell -/
theorem x_throw0 (X : Stand p l e R s m₀ args below meth c W0 locs cells slots) (hexec : p.tables.exec = Jvm.exec) (htr : e.platform.stackTraces = false) {own cls : String} {names : List String} {ic : Nat}
    (hown : s.vm.findClass own = some m₀.cls) (hcls : Bundle.fit cls = true) (hnames : ∀ n ∈ names, Bundle.fit n = true)
    (h : ∀ a ∈ Bundle.ownAtoms0 own ic cls names, a.before args s = true)
    (hlocs : ∀ x ∈ locs, ∀ cell, s.heap[x.base]? = some cell → cell.vm.isStatics = false)
    {a : Addr} {cX : ClassId} {kX : Class} (hfoundX : s.vm.findClass cls = some cX) (hkX : s.vm.classes[cX]? = some kX) (hcell : W0.heap[a]? = some (freshCell cX kX)) (hnew : s.heap.size ≤ a)
    {g : JFrame} (hg : g.method = m₀) (hsize : g.locals.size = c.maxLocals) (hlocked : g.locked = none) (hentered : g.entered = []) {rest : List Value} (hstack : g.stack = .ref a :: .ref a :: rest)
    (hd6 : decode c.code g.pc = .ok (.invokespecial ic, 3)) (hd9 : decode c.code (g.pc + 3) = .ok (.athrow, 1)) (hout : ∀ x ∈ c.exceptionTable.toList, covers x (g.pc + 3) = false)
    (hRframes : names.length + 3 < R.frames) (hRlocals : 2 * g.monitorRoom + ((Value.ref a :: rest).map fun v => v.category).sum + (13 * (names.length + 1) + 41) ≤ R.locals) (hlocks : meth.locks = false) :
    ∃ U : State, Steps p.tables e below (W0.setTop g) U ∧ U.status = .running ∧ Ended U below (.threw a) ∧ s.WarmedH U.vm ∧ s.sameButNew ({ U with vm := s.vm } : State) locs cells slots ∧
      ∃ ce : Cell, U.heap[a]? = some ce ∧ ce.cls = cX ∧ ce.vm = .none ∧ U.heap.size = W0.heap.size ∧ ∀ q, q ≠ a → U.heap[q]? = W0.heap[q]? := by
  have howns : e.platform.frameOwnsMonitors = true := by rw [X.admits.platform]
  have hfin : e.platform.finalization = false := by rw [X.admits.platform]
  have hpl : e.platform.magicAccessors = ({} : Platform).magicAccessors := by rw [X.admits.platform]
  have a' : ∀ x, x ∈ Bundle.ownAtoms0 own ic cls names → x.holds args s none s [] = true := fun x hx => h x hx
  obtain ⟨T, Z, L, LZ, Y⟩ := ThrowableC.of_atoms (args := args) howns hfin hpl (fun x hx => h x (by simp [Bundle.ownAtoms0, hx]))
  obtain ⟨P1, Ps, hlen, L1, hL, hP1m, hlink1, hlink⟩ := Bundle.chain0 (args := args) hpl Y.init0 names cls hcls hnames (fun x hx => h x (by simp [Bundle.ownAtoms0, hx]))
  have hfound : s.vm.findClass cls = some P1.m.cls := findClass_of_methodNamed hP1m
  cases Option.some.inj (hfoundX.symm.trans hfound)
  obtain ⟨c1, kX', hc1, hk, hord, -, -, hn6⟩ := Cond.instantiable_spec (a' (.instantiable cls 6) (by simp [Bundle.ownAtoms0]))
  cases Option.some.inj (hc1.symm.trans hfound)
  cases Option.some.inj (hkX.symm.trans hk)
  have hsel0 : selectMethod e.platform s.vm P1.m.cls T.fill0 = .method T.fill0 := by
    obtain ⟨c2, r2, m2, q1, q2, q3, q4, -⟩ := Cond.selects_spec (a' (.selects cls Bundle.tFill0 Bundle.tFill0) (by simp [Bundle.ownAtoms0]))
    cases Option.some.inj (q1.symm.trans hfound)
    cases Option.some.inj (q2.symm.trans (State.methodFound?_of_named Y.fill0 (by decide)))
    cases Option.some.inj (q3.symm.trans Y.fill0)
    rw [Launch.admits_selectMethod X.admits]; exact q4
  have hselF : selectMethod e.platform s.vm P1.m.cls T.fill = .method T.fill := by
    obtain ⟨c2, r2, m2, q1, q2, q3, q4, -⟩ := Cond.selects_spec (a' (.selects cls Bundle.tFill Bundle.tFill) (by simp [Bundle.ownAtoms0]))
    cases Option.some.inj (q1.symm.trans hfound)
    cases Option.some.inj (q2.symm.trans (State.methodFound?_of_named Y.fill (by decide)))
    cases Option.some.inj (q3.symm.trans Y.fill)
    rw [Launch.admits_selectMethod X.admits]; exact q4
  obtain ⟨cellS0, hcS0, hiss⟩ := Y.statics
  obtain ⟨u0, hu0⟩ := Cond.staticRefV Y.unassigned L.unassignedStatic L.statics hcS0 hiss (a' (.isRef (.static Bundle.tN "UNASSIGNED_STACK" Bundle.steD)) (by simp [Bundle.ownAtoms0]))
  obtain ⟨sen, hsen⟩ := Cond.staticRefV Y.sentinel L.sentinelStatic L.statics hcS0 hiss (a' (.isRef (.static Bundle.tN "SUPPRESSED_SENTINEL" Bundle.listD)) (by simp [Bundle.ownAtoms0]))
  obtain ⟨ci198, i198, fB, hk198, hg198, ha198, hsB, -, hnB, htB, hffB⟩ := Cond.ownField (t := .object "java/lang/Object") Y.found L.cls (by decide +kernel) (a' (.fieldLink Bundle.tN 198 Bundle.tN "backtrace" "Ljava/lang/Object;") (by simp [Bundle.ownAtoms0])) (a' (.lays Bundle.tN Bundle.tN "backtrace" "Ljava/lang/Object;") (by simp [Bundle.ownAtoms0])) e.platform hpl
  obtain ⟨cellS, hcS', heS, -, hkeep⟩ := X.same.2.2.2.2.2 T.aS cellS0 hcS0
  have hcellS : W0.heap[T.aS]? = some cellS := hcS'
  have hout' : ∀ i, (⟨T.aS, i⟩ : Loc) ∉ locs := fun i hmem => by
    have := hlocs _ hmem cellS0 hcS0
    rw [hiss] at this; cases this
  have hknownS : cellS.vm ≠ .unknown := by
    rw [heS]; intro hu
    rw [show cellS0.vm = .unknown from hu] at hiss
    cases hiss
  have hneS : T.aS ≠ a := Nat.ne_of_lt (Nat.lt_of_lt_of_le (Array.getElem?_eq_some_iff.mp hcS0).1 hnew)
  obtain ⟨tyC, dC, hdC, hdnC⟩ := Cond.laysAt hfound hk Y.cause (a' (.lays cls Bundle.tN "cause" "Ljava/lang/Throwable;") (by simp [Bundle.ownAtoms0]))
  obtain ⟨tyS, dS, hdS, hdnS⟩ := Cond.laysAt hfound hk Y.stack (a' (.lays cls Bundle.tN "stackTrace" Bundle.steD) (by simp [Bundle.ownAtoms0]))
  obtain ⟨tyP, dP, hdP, hdnP⟩ := Cond.laysAt hfound hk Y.supp (a' (.lays cls Bundle.tN "suppressedExceptions" Bundle.listD) (by simp [Bundle.ownAtoms0]))
  obtain ⟨tyB, dB, hdB, hdnB⟩ := Cond.laysAt hfound hk hffB (a' (.lays cls Bundle.tN "backtrace" "Ljava/lang/Object;") (by simp [Bundle.ownAtoms0]))
  have bC := Cond.laysApart hdB hdC hdnB hdnC (by rw [hnB, Y.causeName]; decide)
  have bS := Cond.laysApart hdB hdS hdnB hdnS (by rw [hnB, Y.stackName]; decide)
  have bP := Cond.laysApart hdB hdP hdnB hdnP (by rw [hnB, Y.suppName]; decide)
  have hskip : SkipFacts T e.platform s (fun u => u) u0 ((preparedCellV T.toThrowableT (freshCell P1.m.cls kX) a u0 sen).withEntry W0.cur) :=
    ⟨{ ci198 := ci198, i198 := i198, fBack := fB }, ⟨hk198, hg198, ha198, hsB⟩, by
      have := fresh_default (c := P1.m.cls) tyB
      rw [htB] at this
      simpa [preparedCellV, Cell.setSlot, Cell.withEntry, Array.getElem?_setIfInBounds, bC, bS, bP, bC.symm, bS.symm, bP.symm, defaultValue] using this, fun _ _ => rfl⟩
  obtain ⟨tm, methC, cdC, kC, vm₁, hnC, -, -, -, -, -, -, -, hW₁, st1⟩ := Steps.initCold (tb := p.tables) (e := e) (below := below) (s := s) (U := W0) X.here hexec X.warmed hpl hown (t := Bundle.init0 cls) rfl rfl (Bundle.fit_spec hcls).2
    (a' (.methodLink own ic (Bundle.init0 cls)) (by simp [Bundle.ownAtoms0])) (h (.instanceMethod (Bundle.init0 cls)) (by cases names <;> simp [Bundle.ownAtoms0, Bundle.chain0Atoms, Bundle.passAtoms])) (bytes := Bundle.five) (maxL := 1) (h (.code (Bundle.init0 cls) Bundle.five 1 none) (by cases names <;> simp [Bundle.ownAtoms0, Bundle.chain0Atoms, Bundle.passAtoms]))
    (f := g) hg (a := a) (rest := .ref a :: rest) hstack hd6
  cases Option.some.inj (hnC.symm.trans hP1m)
  have X₁ := X.noted hW₁
  obtain ⟨vm₂, X₂, st2⟩ := X₁.ctorPlainOffV hexec (g := { g with stack := .ref a :: rest }) hg hsize T L Z LZ (P1 :: Ps)
    (fun P hP => by rcases List.mem_cons.mp hP with rfl | hP; exact L1; exact hL P hP) ⟨hlink1, hlink⟩ (u0 := u0) (sen := sen) (self := a) (cell := freshCell P1.m.cls kX) (cellS := cellS)
    hcell (fun _ => by simp) (by simp) rfl rfl hsel0 hselF hcellS hneS hknownS (by rw [hkeep _ (hout' _)]; exact hu0) (by rw [hkeep _ (hout' _)]; exact hsen)
    (Takes.of_laid hk hord tyC (by rw [Y.causeType]; rfl)) (Takes.of_laid hk hord tyS (by rw [Y.stackType]; exact fits_refV_array _ u0)) (Takes.of_laid hk hord tyP (by rw [Y.suppType]; exact fits_refV_object _ sen)) Y.objLocals hskip htr [] hd6
    (by simp only [List.length_cons, hlen]; omega) (by simp only [List.length_cons, hlen]; exact hRlocals)
  obtain ⟨hwalk, hrun, hended, hWU, hsame⟩ := X₂.athrowLeaves hexec (g := { g with stack := .ref a :: rest, pc := g.pc + 3 }) hg hlocked hentered hout (a := a) (rest := rest) rfl hd9 hlocks
  have hlt : a < ((W0.setVm vm₁).setVm vm₂).heap.size := (Array.getElem?_eq_some_iff.mp hcell).1
  have hU := heapAt_setCell_self (s := (W0.setVm vm₁).setVm vm₂) ((preparedCellV T.toThrowableT (freshCell P1.m.cls kX) a u0 sen).setSlot T.fStack.slot u0.v) hlt
  refine ⟨_, st1 _ (fun acts => ?_), hrun, hended, hWU, hsame.weaken (fun y hy hlt' => ?_) (Nat.le_refl _) (Nat.le_refl _), _, hU, rfl, rfl, ?_, fun q hq => ?_⟩
  · rw [doInvoke_state]
    exact st2 _ hwalk
  · rcases List.mem_append.mp hy with h1 | h1
    · exact h1
    · exfalso
      have hb : y.base = a := by
        simp only [List.mem_cons, List.not_mem_nil, or_false] at h1
        rcases h1 with rfl | rfl | rfl | rfl <;> rfl
      rw [hb] at hlt'
      exact Nat.not_lt.mpr hnew hlt'
  · exact size_setCell ((W0.setVm vm₁).setVm vm₂) a _
  · exact heapAt_setCell_ne (s := (W0.setVm vm₁).setVm vm₂) _ (Ne.symm hq)
end TX
section TY
variable {K : Kx} {G : Gl} {cc : ByteArray} {own : String} {nL : Nat} {rm : Room} {rt : Option FieldType} {post : Option Value → Mem → Prop} {pe : Nat → Mem → Prop} {pc : Nat} {lv : List (Nat × Av)} {st : List Value} {μ : Mem} {a b : Nat}
def exNames : List String := ["java/lang/RuntimeException", "java/lang/Exception"]
def exOk (own : String) (ic : Nat) (X : String) : Prop := ∀ w ∈ Bundle.ownAtoms0 own ic X exNames, w ∈ LW ∨ w = .isRef (.static Bundle.tN "UNASSIGNED_STACK" Bundle.steD) ∨ w = .isRef (.static Bundle.tN "SUPPRESSED_SENTINEL" Bundle.listD) ∨ w = .laysStatic Bundle.tN "UNASSIGNED_STACK" Bundle.steD ∨ w = .laysStatic Bundle.tN "SUPPRESSED_SENTINEL" Bundle.listD
theorem locs_ok (C : Cx K G cc own nL rm) {H : Heap} {locs : List Loc} (hS : va_S (gF G) (ks K).heap H locs) : ∀ x ∈ locs, ∀ cell, (ks K).heap[x.base]? = some cell → cell.vm.isStatics = false := by
  intro x hx cell hc
  obtain ⟨μ0, h0⟩ := C.d
  have h1 : gb G ≤ x.base := hS.2.2 x hx
  have h2 : x.base < (ks K).heap.size := (Array.getElem?_eq_some_iff.mp hc).1
  have h3 := h0.1
  rw [h3] at h2
  have h4 := h0.2 (x.base - gb G) (Nat.sub_lt_left_of_lt_add h1 h2)
  have h5 : gb G + (x.base - gb G) = x.base := Nat.add_sub_cancel' h1
  rw [h5] at h4
  rw [at_vm h4 hc]
  rfl
theorem r_throw (C : Cx K G cc own nL rm) (Q : Cq K G rm rt post pe) (hE : (kc K).exceptionTable.isEmpty = true) {X : String} {i0 ic q : Nat} (hq : CL[q]? = some (X, fT_0, 0)) (hfit : Bundle.fit X = true) (hcl : (Cond.classLink own i0 X).before (ka K) (ks K) = true) (hins : Cond.instantiable X 6 ∈ LW) (hini : Cond.initialized X ∈ LW) (hat : exOk own ic X)
    (d0 : decode cc pc = .ok (.new i0, 3)) (d1 : decode cc (pc + 3) = .ok (.dup, 1)) (d2 : decode cc (pc + 4) = .ok (.invokespecial ic, 3)) (d3 : decode cc (pc + 7) = .ok (.athrow, 1))
    (hrm : 5 < rm.frames ∧ 81 ≤ rm.locals ∧ a + 1 ≤ rm.cells ∧ b + 6 ≤ rm.slots) (hp : pe q (bump μ q)) : Rn K G nL pc lv [] μ a b := by
  intro H locs ls hH hS hl
  have hR := C.r
  obtain ⟨hfc, kC0, hkC0, hkind⟩ := (C.k.1 q _ hq).2
  refine W.newcK C.x C.b C.o hcl (C.w _ hins) (C.w _ hini) rfl d0 (by rw [hR]; exact hrm.2.2.1) (by rw [hR]; exact hrm.2.2.2) hfc rfl fun H1 kC hkC e1 z1 o1 => ?_
  refine lv_dup (pc := pc + 3) C.x C.b d1 rfl ?_
  intro T0 hT0 XS
  have hadm : (ke K).platform.stackTraces = false := by
    have h1 := XS.admits.2.2.2.2.1
    rw [h1]
    exact C.s
  have hsz : (ks K).heap.size ≤ H.size := hS.1
  obtain ⟨U, hst, hrun, hend, hW, hsame, ce, u1, u2, u3, u4, u5⟩ := x_throw0 XS C.x hadm C.o hfit (names := exNames) (by decide) (fun w hw => by
      rcases hat w hw with h | rfl | rfl | rfl | rfl
      · exact C.w _ h
      · exact C.e.2.2.1.isRef
      · exact C.e.2.2.2.1.isRef
      · exact C.e.2.2.1.lays
      · exact C.e.2.2.2.1.lays) (locs_ok C hS) hfc hkC (a := H.size) (by rw [hT0]; exact e1) hsz (g := F0 (km K) (pc + 3 + 1) ls [.ref H.size, .ref H.size]) rfl (hl.1.trans C.n.symm) rfl rfl (rest := []) rfl
    (by rw [C.b]; exact d2) (by rw [C.b]; exact d3) (fun x hx => by
      have h1 : (kc K).exceptionTable = #[] := by simpa using hE
      rw [h1] at hx
      cases hx) (by rw [hR]; exact hrm.1) (by rw [hR]; exact hrm.2.1) C.l
  refine ⟨U, hst, ?_⟩
  have hUo : ∀ x : Nat, x < H.size → U.heap[x]? = H[x]? := fun x hx => by rw [u5 x (Nat.ne_of_lt hx), hT0]; exact o1 x hx
  have hHU : Hd G (bump μ q) U.heap := hH.bump hq (by rw [u4, hT0]; exact z1) hUo u1 u2 u3
  have hSU : va_S (gF G) (ks K).heap U.heap locs := ⟨by rw [u4, hT0, z1]; omega, fun x h1 h2 => (hUo x (Nat.lt_of_lt_of_le h1 hsz)).trans (hS.2.1 x h1 h2), hS.2.2⟩
  rw [Q.2]
  exact ⟨.threw H.size, hrun, hend, ⟨hSU.F rfl, Or.inr ⟨q, H.size, bump μ q, rfl, hp, Wd.at hHU C.k C.e hSU (base_le C.d) rfl hW.alike, mN μ, hH.2.1, by rw [mN_bump]; omega, by rw [mK_bump, if_pos rfl]⟩⟩, hW, locs, hsame.mono hrm.2.2.1 hrm.2.2.2, hS.2.2⟩
/-- an exception of a callee goes through a method without handlers -/
theorem r_cVt (C : Cx K G cc own nL rm) (Q : Cq K G rm rt post pe) (hE : (kc K).exceptionTable.isEmpty = true) {i : Mi} {Cn : String} {T : u_T} {N ci rr idx : Nat} {As : List Av} {po : Option Value → Mem → Prop} {stk : List Value} (hM : Ct (kl K) G i (.inr (.inl (some rr)) :: As) μ po pe) (hi : MiV i Cn) (hc : CL[ci]? = some (Cn, T, N)) (hr : LayG G μ → okO μ rr ci)
    (hlk : (Cond.methodLink own idx (iy i)).before (ka K) (ks K) = true) (hn : As.length = ia i) (hrm : (im i).frames + 1 ≤ rm.frames ∧ 8 + (il i + 11) + (im i).locals ≤ rm.locals ∧ a + (im i).cells ≤ rm.cells ∧ b + (im i).slots ≤ rm.slots)
    (hw : (st.map fun v => v.category).sum ≤ 8) (hd : decode cc pc = .ok (.invokevirtual idx, 3)) (hstk : stk = (avl G As).reverse ++ rv G (some rr) :: st) (kr : ∀ v μ1, po v μ1 → Rn K G nL (pc + 3) lv (v.toList ++ st) μ1 (a + (im i).cells) (b + (im i).slots)) : Rn K G nL pc lv stk μ a b := by
  intro H locs ls hH hS hl
  have h1 := hr hH.1
  have h9 := cl_lt hc
  obtain ⟨q, h2, cell, q1, q2, q3, -⟩ := hH.P h1.1 (rend_o (G := G) h1.2 (by omega)) 0 _ rfl
  have hcls : (ks K).vm.findClass Cn = some cell.cls := by rw [q2]; exact (C.k.1 ci _ hc).2.1
  obtain ⟨⟨i1, i2, i3⟩, i4, i5, i6⟩ := hi
  have hR := C.r
  refine overX (g := F0 (km K) pc ls stk) (rest := st) (avs := (avl G (.inr (.inl (some rr)) :: As)).toArray) C.b hM rfl rfl (by rw [hR]; exact hrm.1) (by rw [hR]; exact hrm.2.1) rfl (hl.1.trans C.n.symm) hd (st_room rfl hw) (ws_in C i4) (fun a' U hU => lw_ok _ i1 hU (C.w _ i1)) ?_ (by rw [hR]; exact hrm.2.2.1) (by rw [hR]; exact hrm.2.2.2) (pc_in C hH hS rfl) (k_ret hS hl kr) ?_
  · intro T0 hT0 X
    exact landV X C.x C.o hlk (C.w _ i5) (C.w _ i6) (C.w _ i4) i2 (by rw [hT0]; exact q1) (by rw [q3]; rfl) hcls rfl (argsL := avl G As) (by rw [i3, ← hn]; simp [avl]) hstk (by rw [C.b]; exact hd)
  · intro x st0 t L h0 hWt hq hL T1 hT1 X1
    obtain ⟨hF, ⟨v, μ1, h3, -⟩ | ⟨q, x', μ1, h3, h4, h5, h6⟩⟩ := hq
    · cases h3
    · cases h3
      have hSU := s_over hS h0 hF hL
      obtain ⟨hwalk, hrun, hend, hW, hsame⟩ := X1.leaveThrown x (g := F0 (km K) pc ls st) rfl rfl rfl (fun y hy => by
        have h1 : (kc K).exceptionTable = #[] := by simpa using hE
        rw [h1] at hy
        cases hy) C.l
      refine ⟨_, hwalk, ?_⟩
      rw [Q.2]
      have hTt : (T1.setFrames (.throwing x :: kw K)).heap = t.heap := hT1
      refine ⟨.threw x, hrun, hend, ⟨hSU.F hTt, Or.inr ⟨q, x, μ1, rfl, h4, ?_, h6⟩⟩, hW, _, hsame.mono (by exact hrm.2.2.1) (by exact hrm.2.2.2), hSU.2.2⟩
      exact Wd.at h5.1 C.k C.e hSU (base_le C.d) hTt hW.alike
end TY
