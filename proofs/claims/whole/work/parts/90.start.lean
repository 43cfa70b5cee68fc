/-! THE CLAIM OUT OF ONE WALK OF THE LAW'S BODY. Your part is whole_start (and what it stands on); all else here is the same for every law, but numbers. -/
def R_law : String := "LineCollectorLaw"
def lw_P (b : Addr) (xs : List Int32) (args : Array Value) (s : State) : Prop := args = #[.ref b] ∧ s.IntsAt b xs ∧ xs.length ≤ 2048 ∧ (Jvm.Cond.and given_1 narrow_1).before args s = true
def lw_Q (_ : Array Value) (s : State) (o : Outcome) (t : State) : Prop := o = .returned (some (.int 1)) ∧ Framed s o t [] 601024 7293034
def lw_Z (below : List Frame) (a : Array Value) (s : State) : State → Prop := fun t => ∃ o, t.status = .running ∧ Ended t below o ∧ lw_Q a s o t
/-- what holds at the law's entry: the machine, the code, the tables' words (any of lw_tbl by 'hts w (by decide +kernel)'), the script of L ints xs at the cell b, what the Statement gives of the start (any of its parts by flat_of_before) -/
def lw_At (p : Program) (s : State) (m : MethodId) (meth : Method) (c : Code) (b L : Nat) (xs : Nat → Int32) : Prop :=
  p.tables.exec = Jvm.exec ∧ c.code = code ∧ meth.sig.returnType = ret ∧ c.maxLocals = 7 ∧ s.vm.findClass R_law = some m.cls ∧ (∀ w ∈ lw_tbl, w.before #[Value.ref b] s = true) ∧ va_X b L xs s s.heap ∧ b < s.heap.size ∧ meth.locks = false ∧ (Jvm.Cond.and given_1 narrow_1).before #[Value.ref b] s = true
theorem cl_inst {ci : Nat} {q : vw_C} (h : CL[ci]? = some q) : ∃ n, Cond.instantiable q.1 n ∈ LW := by
  have hlt := cl_lt h
  match ci, h, hlt with
  | 0, h, _ => cases h; exact ⟨_, x_io0⟩
  | 1, h, _ => cases h; exact ⟨_, x_io1⟩
  | 2, h, _ => cases h; exact ⟨_, x_io2⟩
  | 3, h, _ => cases h; exact ⟨_, x_io3⟩
  | 4, h, _ => cases h; exact ⟨_, x_io4⟩
  | 5, h, _ => cases h; exact ⟨_, x_io5⟩
  | 6, h, _ => cases h; exact ⟨_, x_io6⟩
  | 7, h, _ => cases h; exact ⟨_, x_ins7⟩
  | 8, h, _ => cases h; exact ⟨_, x_ins8⟩
  | 9, h, _ => cases h; exact ⟨_, x_ins9⟩
  | 10, h, _ => cases h; exact ⟨_, x_ins10⟩
  | 11, h, _ => cases h; exact ⟨_, x_ins11⟩
theorem Zs.of {args : Array Value} {s : State} {C n d : String} {A : Nat → Prop} (hl : (Cond.laysStatic C n d).before args s = true) (hi : (Cond.isRef (.static C n d)).before args s = true) (hA : ∀ a : Nat, a < s.heap.size → ¬ A a) : Zs C n d A s s.heap := by
  obtain ⟨c, k, i, f, a, cell, h0, h1, h2, h3, h4, h5, h6, h7, h8⟩ := Cond.laysStatic_spec hl
  obtain ⟨u, hu⟩ := Cond.staticRefV h1 h2 h3 h4 h5 hi
  exact ⟨c, k, i, f, a, cell, u.v, h0, h1, h2, h3, h4, h5, h6, h7, h8, hu, u.2, hA a (Array.getElem?_eq_some_iff.mp h4).1⟩
theorem arrT {args : Array Value} {s : State} {ty : FieldType} (hp : ∀ C, ty ≠ .object C) (h : (Cond.arrayClass ty).before args s = true) : ∃ cA, ArrOfT s cA ty ∧ va_RA s cA ty := by
  obtain ⟨c, k, comp, h1, h2, h3⟩ := Cond.arrayClass_spec h
  refine ⟨c, fun n z => ⟨(fun k h => by cases h), k, h2, comp, h3⟩, ?_⟩
  cases ty with
  | object C => exact absurd rfl (hp C)
  | _ => exact h1
theorem arrQ {args : Array Value} {s : State} {C : String} (h : (Cond.arrayOver (.object C)).before args s = true) : ∃ cA, ArrOfT s cA (.object C) ∧ va_RA s cA (.object C) := by
  obtain ⟨comp, c, k, h1, -, h3, h4, h5⟩ := Cond.arrayOver_spec h
  exact ⟨c, fun n z => ⟨(fun k h => by cases h), k, h3, comp, h4⟩, k, comp, h3, h4, h1, h5⟩
theorem mqx_lw {below : List Frame} {b : Nat} {s t : State} {G : Gl} (hgb : gb G = s.heap.size) (h : MQX below (Qe G (poI (fun v _ => v = 1)) noX) #[Value.ref b] s 601024 7293034 (gF G) t) : lw_Z below #[Value.ref b] s t := by
  obtain ⟨o, h1, h2, ⟨-, hor⟩, hW, L, hs, hL⟩ := h
  rcases hor with ⟨v, μ, rfl, ⟨n, rfl, rfl⟩, -⟩ | ⟨q, x, μ, -, hq, -⟩
  · refine ⟨_, h1, h2, rfl, ⟨_, rfl⟩, hW, hs.weaken (fun y hy hlt => ?_) (Nat.le_refl _) (Nat.le_refl _)⟩
    have h3 : gb G ≤ y.base := hL y hy
    rw [hgb] at h3
    exact absurd hlt (Nat.not_lt.mpr h3)
  · exact hq.elim
def setf (G : Gl) : Gl := (G.1, G.2.1, G.2.2.1, G.2.2.2.1, G.2.2.2.2.1, G.2.2.2.2.2.1, true)
theorem r_flag {K : Kx} {G : Gl} {nL pc : Nat} {lv : List (Nat × Av)} {st : List Value} {μ : Mem} {a b : Nat} (hL : Lay μ) (k : Rn K (setf G) nL pc lv st μ a b) : Rn K G nL pc lv st μ a b := fun H locs ls hH hS hl => k H locs ls ⟨fun _ => hL, hH.2⟩ hS hl
/-- from the entry, for every script of at most 2048 ints, the law comes to its end with true -/
theorem whole_start {p : Program} {e : Env} {s : State} {m : MethodId} {below : List Frame} {meth : Method} {c : Code} (l : Launch) (hl : l.stackTraces = false) {b L : Nat} {xs : Nat → Int32} (hL : L ≤ 2048) (C0 : lw_At p s m meth c b L xs) : W p l e room_1 s m #[Value.ref b] below meth c s.heap [] 0 0 (lw_Z below #[Value.ref b] s) (entryFrame m ([Value.ref b] : List Value).toArray 7) := by
  obtain ⟨hx, hb, hr, hml, hown, hts, hX, hbl, hlocks, hgv⟩ := C0
  have hLW := lw_sub hts
  have hs := flat_of_before _ hgv
  have hcls : ∀ ci : Nat, ∃ z : ClassId × (Nat → Nat), ∀ q, CL[ci]? = some q → u_Kn s q.1 q.2.1 q.2.2 z.1 z.2 := by
    intro ci
    cases hq : CL[ci]? with
    | none => exact ⟨(0, fun _ => 0), fun q h => by cases h⟩
    | some q =>
      obtain ⟨n, hi⟩ := cl_inst hq
      obtain ⟨cC, iS, h⟩ := u_known hLW (cl_in hq) (hLW _ hi)
      exact ⟨(cC, iS), fun q' h' => by cases h'; exact h⟩
  obtain ⟨aI, hI1, hI2⟩ := arrT (ty := .int) (fun _ h => by cases h) (hLW _ x_acI)
  obtain ⟨aZ, hZ1, hZ2⟩ := arrT (ty := .boolean) (fun _ h => by cases h) (hLW _ x_acZ)
  obtain ⟨aJ, hJ1, hJ2⟩ := arrT (ty := .long) (fun _ h => by cases h) (hLW _ x_acJ)
  have hover : (Cond.arrayOver (.object "LineCollector$Item")).before #[Value.ref b] s = true := hts _ (List.mem_append_right _ (List.mem_of_getElem? (i := 26) rfl))
  obtain ⟨aQ, hQ1, hQ2⟩ := arrQ hover
  obtain ⟨G, hG⟩ : ∃ G : Gl, G = ((fun ci => (Classical.choose (hcls ci)).1, fun ci => (Classical.choose (hcls ci)).2), (fun k => match k with | 0 => aI | 1 => aZ | 2 => aQ | _ => aJ), s.heap.size, b, L, xs, false) := ⟨_, rfl⟩
  have hgb : gb G = s.heap.size := by rw [hG]; rfl
  have hga : ga G = b := by rw [hG]; rfl
  have hK : va_K (gD G) CL (gT G) s := by
    rw [hG]
    refine ⟨fun ci q hq => Classical.choose_spec (hcls ci) q hq, fun k q hk => ?_⟩
    match k, hk with
    | 0, hk => cases hk; exact ⟨hI1, hI2⟩
    | 1, hk => cases hk; exact ⟨hZ1, hZ2⟩
    | 2, hk => cases hk; exact ⟨hQ1, hQ2⟩
    | 3, hk => cases hk; exact ⟨hJ1, hJ2⟩
    | n + 4, hk => cases hk
  have hnA : ∀ a : Nat, a < s.heap.size → ¬ gF G a := fun a h1 h2 => by
    have h3 : gb G ≤ a := h2
    rw [hgb] at h3
    exact absurd h1 (Nat.not_lt.mpr h3)
  have hXt : Xtra G s s.heap := by
    refine ⟨by rw [hG]; exact hX, by rw [hga, hgb]; exact hbl, ?_, ?_, va_AO.of hover, ?_⟩
    · exact Zs.of (hts _ (List.mem_append_right _ (List.mem_of_getElem? (i := 385) rfl))) (hs _ (by decide +kernel)) hnA
    · exact Zs.of (hts _ (List.mem_append_right _ (List.mem_of_getElem? (i := 387) rfl))) (hs _ (by decide +kernel)) hnA
    · intro q hq
      simp only [ncPairs, List.mem_cons, List.not_mem_nil, or_false] at hq
      rcases hq with rfl | rfl | rfl | rfl | rfl | rfl
      all_goals exact va_Nc.of (hs _ (by decide +kernel))
  have hgf : gf G = false := by rw [hG]; rfl
  have h0 : Hd G m0 s.heap := ⟨fun h => by rw [hgf] at h; exact absurd h (by decide), ⟨by rw [hgb]; rfl, fun r hr => absurd hr (Nat.not_lt_zero r)⟩⟩
  have hent := lv_entry (avl G [.inr (.inr ())]) (n := 7) (by rw [lg_len]; decide)
  rw [lv_args_eq] at hent
  have hav : avl G [.inr (.inr ())] = [Value.ref b] := by rw [← hga]; rfl
  obtain ⟨K, hKe⟩ : ∃ K : Kx, K = (p, l, e, room_1, s, m, #[Value.ref b], below, meth, c, MQX below (Qe (setf G) (poI (fun v _ => v = 1)) noX) #[Value.ref b] s 601024 7293034 (gF G)) := ⟨_, rfl⟩
  have hC : Cx K G code "LineCollectorLaw" 7 { frames := 13, cells := 601024, slots := 7293034, locals := 490 } := by
    subst hKe
    exact ⟨hx, hb, hml, hown, hLW, hK, hXt, rfl, hlocks, ⟨m0, h0.2⟩, hl⟩
  have hC1 : Cx K (setf G) code "LineCollectorLaw" 7 { frames := 13, cells := 601024, slots := 7293034, locals := 490 } := hC
  have hQ : Cq K (setf G) { frames := 13, cells := 601024, slots := 7293034, locals := 490 } (some .boolean) (poI (fun v _ => v = 1)) noX := by
    subst hKe
    exact ⟨hr, rfl⟩
  have hx2 : gL (setf G) = L ∧ gx (setf G) = xs := by
    rw [hG]
    exact ⟨rfl, rfl⟩
  have walk : Rn K G 7 0 [(0, .inr (.inr ()))] [] m0 0 0 := by
    refine law_a hC (k := fun v1 v2 v3 μ => v1 = 0 ∧ v2 = 17 ∧ v3 = 34 ∧ Lay μ ∧ ∃ n, n ≤ 514 ∧ wL_law_23 L xs (fun _ _ => True) (fun v _ => v = 1) n 0 μ) ?_ (t2_law L xs hL)
    rintro v1 v2 v3 μ ⟨rfl, rfl, rfl, hLay, n, hn, h⟩
    refine r_flag hLay ?_
    rw [← hx2.1, ← hx2.2] at h
    exact law_b rfl hC1 hQ (fun _ _ => True) (fun _ _ _ => rfl) n 35 10448 (by omega) (by omega) 0 μ h
  subst hKe
  have hW := walk s.heap [] _ h0 va_S.rf hent
  rw [hav] at hW
  rw [lg_entry_eq]
  refine wx_mono (fun t ht => mqx_lw (G := setf G) hgb ht) ?_
  exact hW
set_option maxHeartbeats 4000000 in
theorem lw_walk (l : Launch) (hl : l.stackTraces = false) (b : Addr) (xs : List Int32) : MetFree l x (headSpec (Jvm.Cond.code x code maxLocals ret :: tables_1) room_1) (lw_P b xs) (fun _ _ _ _ _ => True) lw_Q := by
  refine MetFree.of_bodyS (code := code) (maxLocals := maxLocals) (ret := ret) (by decide) ?_ ?_
  · intro args s m h hn
    obtain ⟨meth, c, h1, h2, h3, h4, h5, h6, -, -⟩ := Cond.code_spec hn (atoms_spec (ws := Jvm.Cond.code x code maxLocals ret :: tables_1) h _ List.mem_cons_self)
    exact ⟨meth, c, h1, h2, h3, h4, h5, h6⟩
  · intro p e s m args below meth c s₁ B hml0 hP _
    obtain ⟨rfl, hx, hbd, hgv⟩ := hP
    obtain ⟨scr, harrAt, hlist, hof, hsmall⟩ := hx
    obtain ⟨hcb, hkn, -, -⟩ := State.arrayAt?_spec harrAt
    have hown : s.vm.findClass R_law = some m.cls := findClass_of_methodNamed B.named
    have hts0 : ∀ c ∈ (Jvm.Cond.code x code maxLocals ret :: tables_1), c.before #[Value.ref b] s = true := atoms_spec (ws := Jvm.Cond.code x code maxLocals ret :: tables_1) B.pre
    have hts : ∀ w ∈ lw_tbl, w.before #[Value.ref b] s = true := k2_hts_sels lw_privs (fun w hw => hts0 w (List.mem_cons_of_mem _ hw)) lw_privs_ok
    have hml : c.maxLocals = 7 := B.maxLocals_eq (hts0 _ List.mem_cons_self)
    have X₀ : Stand p l e room_1 s m #[Value.ref b] below meth c s₁ [] 0 0 := Stand.of_body B
    have hh0 : s₁.heap = s.heap := by rw [B.state]; rfl
    have hsz : scr.slots.size = xs.length := by rw [← Array.length_toList, hlist, List.length_map]
    have hval : ∀ j : Nat, j < xs.length → scr.slots[j]? = some (.int (xs.getD j 0)) := fun j hj => by
      rw [← Array.getElem?_toList, hlist]
      simp [hj]
    have hbl : b < s.heap.size := (Array.getElem?_eq_some_iff.mp hcb).1
    have hX : va_X b xs.length (fun j => xs.getD j 0) s s.heap := ⟨scr, hcb, hof, hkn, hsz, hval⟩
    have K : W p l e room_1 s m #[Value.ref b] below meth c s₁.heap [] 0 0 (lw_Z below #[Value.ref b] s) (entryFrame m ([Value.ref b] : List Value).toArray 7) := by
      rw [hh0]
      exact whole_start l hl hbd ⟨B.exec, B.bytes, B.returns, hml, hown, hts, hX, hbl, B.notSynchronized, hgv⟩
    obtain ⟨t, a1, o, b1, b2, b3⟩ := K s₁ rfl X₀
    exact ⟨t, o, a1, b1, b2, b3⟩
theorem lw_pre_spec {args : Array Value} {s : State} (h : (Jvm.Cond.and given_1 narrow_1).before args s = true) (hr : rest_1_c.before args s = true) : ∃ (b : Addr) (xs : List Int32), lw_P b xs args s := by
  have hs := flat_of_before _ h
  have hq := flat_of_before _ hr
  have hc : (Cond.count 1).before args s = true := hs _ (by decide +kernel)
  have harr : (Cond.arrayOf (.arg 0) .int).before args s = true := hs _ (by decide +kernel)
  have hle : (Cond.le (.length (.arg 0)) (.int 2048)).before args s = true := hs _ (by decide +kernel)
  have hlen : (Cond.isInt (.length (.arg 0))).before args s = true := hq _ (by decide +kernel)
  have hall : (Cond.all (.arg 0) (.isInt (.elem (.arg 0) (.index 0)))).before args s = true := hq _ (by decide +kernel)
  obtain ⟨b, xs, hb, hx⟩ := State.ints_of_pre rfl harr hlen hall
  have hsm : xs.length < 2 ^ 31 := hx.choose_spec.2.2.2
  have hev : (Term.length (.arg 0)).eval args s none [] s = some (.int xs.length.toInt32) := hx.length_eval hb
  have hv := Cond.le_ints hev (show (Term.int 2048).eval args s none [] s = some (.int 2048) from rfl)
  have hd : xs.length.toInt32 ≤ 2048 := by
    simpa [Cond.before, Cond.holds, hv] using hle
  have hN : xs.length ≤ 2048 := (Int32.ofNat_le_ofNat hsm (by decide)).mp (show Int32.ofNat xs.length ≤ Int32.ofNat 2048 from hd)
  exact ⟨b, xs, Cond.one_arg hc (show args[0]? = some (.ref b) from hb), hx, hN, h⟩
theorem lw_comes (l : Launch) (hl : l.stackTraces = false) : Comes l x (Jvm.Cond.code x code maxLocals ret :: tables_1) room_1 (fun tb e args s => Calls_1 tb e args s ∧ rest_1 tb e args s ∧ Pre_1 tb e args s)
    (fun _ _ args s o t => lw_Q args s o t) := by
  intro p e ha hc hk s m args below hf hfit hheap happ hpre
  obtain ⟨b, xs, hP⟩ := lw_pre_spec hpre.2.2 hpre.2.1
  obtain ⟨k, o, h1, h2, h3, hQ⟩ := lw_walk l hl b xs p e ha hc hk s m args below hf ((Spec.applies_iff_loose hf).mp happ).1 hP trivial
  exact ⟨k, o, h1, h2, h3, hQ⟩
theorem lw_frame {s t : State} {o : Outcome} {args : Array Value} (h : Framed s o t [] 601024 7293034) :
    Framed s o t (fieldLocs frame_1_writes args s ++ arrayLocs frame_1_arrays args s ++ staticLocs frame_1_statics s) 601024 7293034 := h
theorem lw_limb (L : Cond) (hL : ∀ (args : Array Value) (s t : State), L.after args s (.returned (some (.int 1))) t = true) :
    ArmFor flags0 classFile x code maxLocals ret World_1 tables_1 room_1 Calls_1 rest_1 Pre_1
      (fun tb e a s o t => postC L tb e a s o t ∧ Framed s o t (fieldLocs frame_1_writes a s ++ arrayLocs frame_1_arrays a s ++ staticLocs frame_1_statics s) 601024 7293034) := by
  intro l hfl _ _ p e ha hc hk s m args below hf hfit hheap happ hpre
  obtain ⟨k, o, h1, h2, h3, rfl, hF⟩ := lw_comes l (by unfold Launch.stackTraces; rw [hfl]; decide) p e ha hc hk s m args below hf hfit hheap happ hpre
  exact ⟨k, _, h1, h2, h3, hL args s _, lw_frame hF⟩
theorem i_vc : Claimed_1_1 ∧ Claimed_1_2 := ⟨lw_limb limb_1_1 (fun args s t => by simp [limb_1_1, Cond.after, Cond.holds, Cond.value]), lw_limb limb_1_2 (fun args s t => Cond.after_iff.mpr (by
  first | (rw [show limb_1_2 = Cond.eq .result (.int 1) from rfl, Cond.eq_ints (x := 1) (y := 1) rfl rfl]; simp; done) | (simp [limb_1_2, Cond.value, Term.eval]; done)))⟩
