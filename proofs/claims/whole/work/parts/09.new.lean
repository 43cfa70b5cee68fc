/-! Making objects and arrays; constructors -/
theorem flds_congr {G : Gl} {μ μ' : Mem} {r ci : Nat} (h : mI μ' r = mI μ r) : flds G μ' r ci = flds G μ r ci := by
  unfold flds
  congr 1
  funext o
  obtain ⟨o, i⟩ := o
  cases o with
  | none => show Value.int (mI μ' r i) = Value.int (mI μ r i); rw [h]
  | some d => rfl
theorem fldu_congr {G : Gl} {μ μ' : Mem} {r ci : Nat} (h : mI μ' r = mI μ r) (h2 : mR μ' r = mR μ r) : fldu G μ' r ci = fldu G μ r ci := by
  unfold fldu
  congr 1
  funext o
  obtain ⟨o, i⟩ := o
  cases o with
  | none => show Value.int (mI μ' r i) = Value.int (mI μ r i); rw [h]
  | some d => show rv G (mR μ' r i) = rv G (mR μ r i); rw [h2]
theorem rend_congr {G : Gl} {μ μ' : Mem} {r : Nat} (h1 : mK μ' r = mK μ r) (h2 : mL μ' r = mL μ r) (h3 : mI μ' r = mI μ r) (h4 : mR μ' r = mR μ r) : rend G μ' r = rend G μ r := by
  unfold rend
  rw [h1, h2, h3, h4, flds_congr h3, fldu_congr h3 h4]
theorem newO_I {μ : Mem} {k r : Nat} (h : r ≠ mN μ) : mI (newO μ k) r = mI μ r := by funext j; rw [mI_newO, if_neg h]
theorem newO_R {μ : Mem} {k r : Nat} (h : r ≠ mN μ) : mR (newO μ k) r = mR μ r := by funext j; rw [mR_newO, if_neg h]
theorem newA_I {μ : Mem} {k n r : Nat} (h : r ≠ mN μ) : mI (newA μ k n) r = mI μ r := by funext j; rw [mI_newA, if_neg h]
theorem newA_R {μ : Mem} {k n r : Nat} (h : r ≠ mN μ) : mR (newA μ k n) r = mR μ r := by funext j; rw [mR_newA, if_neg h]
theorem LayG.newO {G : Gl} {μ : Mem} (h : LayG G μ) (k : Nat) : LayG G (newO μ k) := fun q => (h q).more (by rw [mN_newO]; omega) fun r hr => ⟨by rw [mK_newO, if_neg (by omega)], rfl⟩
theorem LayG.newA {G : Gl} {μ : Mem} (h : LayG G μ) (k n : Nat) : LayG G (newA μ k n) := fun q => (h q).more (by rw [mN_newA]; omega) fun r hr => ⟨by rw [mK_newA, if_neg (by omega)], by rw [mL_newA, if_neg (by omega)]⟩
theorem Hd.grow {G : Gl} {μ μ' : Mem} {H H1 : Heap} (h : Hd G μ H) (hL : LayG G μ') (hN : mN μ' = mN μ + 1) (hz : H1.size = H.size + 1) (ho : ∀ q, q < H.size → H1[q]? = H[q]?)
    (hr : ∀ x, x < mN μ → rend G μ' x = rend G μ x) (ha : va_at (gD G) CL (gb G + mN μ, rend G μ' (mN μ)) H1) : Hd G μ' H1 := by
  refine ⟨hL, by rw [hz, hN, h.2.1]; omega, fun x hx => ?_⟩
  rw [hN] at hx
  by_cases e : x = mN μ
  · subst e
    exact ha
  · have hx' : x < mN μ := by omega
    rw [hr x hx']
    exact (h.2.2 x hx').kept (ho _ (by rw [h.2.1]; omega))
theorem cl_dv {ci : Nat} {q : vw_C} (h : CL[ci]? = some q) : ∀ k, k < q.2.2 → defaultValue (ftyD (q.2.1 k).2.2.1) = (match (shp ci)[k]? with | some (some _) => Value.null | _ => Value.int 0) := by
  refine cl_ind (P := fun ci q => ∀ k, k < q.2.2 → defaultValue (ftyD (q.2.1 k).2.2.1) = (match (shp ci)[k]? with | some (some _) => Value.null | _ => Value.int 0)) ?_ ?_ ?_ ?_ ?_ ?_ ?_ (fun _ _ _ k hk => absurd hk (Nat.not_lt_zero k)) h
  all_goals decide +kernel
theorem fldu_new {G : Gl} {μ : Mem} {ci : Nat} {q : vw_C} (h : CL[ci]? = some q) : ∀ j, j < q.2.2 → defaultValue (ftyD (q.2.1 j).2.2.1) = vp_V (fldu G (newO μ (40 + ci)) (mN μ) ci) j := by
  intro j hj
  have hl : j < (shp ci).length := by rw [cl_len h]; exact hj
  obtain ⟨o, ho⟩ : ∃ o, (shp ci)[j]? = some o := ⟨_, List.getElem?_eq_getElem hl⟩
  rw [cl_dv h j hj, ho]
  have e : vp_V (fldu G (newO μ (40 + ci)) (mN μ) ci) j = flduv G (newO μ (40 + ci)) (mN μ) (o, j) := by
    simp [vp_V, fldu_get ho]
  rw [e]
  cases o with
  | none => show Value.int 0 = Value.int _; rw [mI_newO, if_pos rfl]
  | some d => show Value.null = rv G _; rw [mR_newO, if_pos rfl]; rfl
section NX
variable {K : Kx} {G : Gl} {cc : ByteArray} {own : String} {nL : Nat} {rm : Room} {pc : Nat} {lv : List (Nat × Av)} {st : List Value} {μ : Mem} {a b a' b' : Nat}
theorem s_grow {H H1 : Heap} {locs : List Loc} (hS : va_S (gF G) (ks K).heap H locs) (hz : H1.size = H.size + 1) (ho : ∀ q, q < H.size → H1[q]? = H[q]?) : va_S (gF G) (ks K).heap H1 locs :=
  ⟨by rw [hz]; exact Nat.le_succ_of_le hS.1, fun q h1 h2 => (ho q (Nat.lt_of_lt_of_le h1 hS.1)).trans (hS.2.1 q h1 h2), hS.2.2⟩
theorem r_new (C : Cx K G cc own nL rm) {Cn : String} {T : u_T} {N ci idx : Nat} (hc : CL[ci]? = some (Cn, T, N)) (hcl : (Cond.classLink own idx Cn).before (ka K) (ks K) = true) (hins : Cond.instantiable Cn N ∈ LW) (hini : Cond.initialized Cn ∈ LW) (hd : decode cc pc = .ok (.new idx, 3))
    (hrm : a + 1 ≤ rm.cells ∧ b + N ≤ rm.slots) (ea : a + 1 = a') (eb : b + N = b') (k : ∀ y μ1, y = mN μ → μ1 = newO μ (40 + ci) → Rn K G nL (pc + 3) lv (rv G (some y) :: st) μ1 a' b') : Rn K G nL pc lv st μ a b := by
  intro H locs ls hH hS hl
  subst ea; subst eb
  have hR := C.r
  have hKn := C.k.1 ci _ hc
  refine W.newcK C.x C.b C.o hcl (C.w _ hins) (C.w _ hini) rfl hd (by rw [hR]; exact hrm.1) (by rw [hR]; exact hrm.2) hKn.2.1 rfl fun H1 kC hkC e1 z1 o1 => ?_
  have hz : H.size = gb G + mN μ := hH.2.1
  have h2 := k (mN μ) _ rfl rfl H1 locs ls (hH.grow (hH.1.newO (40 + ci)) rfl z1 o1 (fun x hx => rend_congr (by rw [mK_newO, if_neg (by omega)]) rfl (newO_I (by omega)) (newO_R (by omega))) (by
    rw [rend_u (ci := ci) (by rw [mK_newO, if_pos rfl])]
    refine ⟨_, hc, (u_born (fun k => ftyD (T k).2.2.1) C.w (cl_in hc) hKn hkC ?_ (cl_ty hc)).to (fldu_new hc)⟩
    rw [← hz]
    exact e1)) (s_grow hS z1 o1) hl
  have e3 : rv G (some (mN μ)) = .ref H.size := by rw [hz]; rfl
  rw [e3] at h2
  exact h2
theorem r_newa (C : Cx K G cc own nL rm) {kd t0 M : Nat} {n : Int32} {atype : ArrayType} {ty : FieldType} (harr : Cond.arrayClass ty ∈ LW) (hty : newarray.typeOf atype = ty) (ht : (gT G)[t0]? = some (gA G t0, ty)) (hprim : ∀ Cn, ty ≠ .object Cn)
    (hre : ∀ (μ1 : Mem) (r m : Nat), okA μ1 r kd m → (∀ j, mI μ1 r j = 0) → ∃ e, rend G μ1 r = .inl e ∧ vp_cell e.1 e.2 = arrV (gA G t0) m (fun _ => defaultValue ty)) (hd : decode cc pc = .ok (.newarray atype, 2))
    (hn : ¬ n < 0) (hM : n.toNatClampNeg ≤ M) (hby : M * componentBytes ty ≤ 536870912) (hrm : a + 1 ≤ rm.cells ∧ b + M ≤ rm.slots) (ea : a + 1 = a') (eb : b + M = b') (k : ∀ y μ1, y = mN μ → μ1 = newA μ kd n.toNatClampNeg → Rn K G nL (pc + 2) lv (rv G (some y) :: st) μ1 a' b') : Rn K G nL pc lv (.int n :: st) μ a b := by
  intro H locs ls hH hS hl
  subst ea; subst eb
  subst hty
  have hR := C.r
  refine va_newaK C.x C.b (C.w _ harr) rfl hd rfl hn rfl (Nat.le_trans (Nat.mul_le_mul_right _ hM) hby) (by rw [hR]; exact hrm.1) (by rw [hR]; exact Nat.le_trans (Nat.add_le_add_left hM b) hrm.2) rfl fun H1 cA e1 z1 o1 _ hcA => ?_
  have hz : H.size = gb G + mN μ := hH.2.1
  have hRA := (C.k.2 t0 _ ht).2
  have hcA' : cA = gA G t0 := by
    have h9 : (ks K).vm.findClass ("[" ++ (newarray.typeOf atype).toString) = some (gA G t0) := by
      revert hRA hprim
      cases newarray.typeOf atype with
      | object Cn => intro hp; exact absurd rfl (hp Cn)
      | _ => intro _ h; exact h
    exact Option.some.inj (hcA.symm.trans h9)
  subst hcA'
  have h2 := k (mN μ) _ rfl rfl H1 locs ls (hH.grow (hH.1.newA kd _) rfl z1 o1 (fun x hx => rend_congr (by rw [mK_newA, if_neg (by omega)]) (by rw [mL_newA, if_neg (by omega)]) (newA_I (by omega)) (newA_R (by omega))) (by
    obtain ⟨e, h3, h4⟩ := hre (newA μ kd n.toNatClampNeg) (mN μ) n.toNatClampNeg ⟨by rw [mN_newA]; omega, by rw [mK_newA, if_pos rfl], by rw [mL_newA, if_pos rfl]⟩ (fun j => by rw [mI_newA, if_pos rfl])
    rw [h3]
    show H1[gb G + mN μ]? = some (vp_cell e.1 e.2)
    rw [h4, ← hz]
    exact e1)) (s_grow hS z1 o1) hl
  have e3 : rv G (some (mN μ)) = .ref H.size := by rw [hz]; rfl
  rw [e3] at h2
  exact W.widen (Nat.le_refl _) (Nat.add_le_add_left hM b) h2
theorem r_newI (C : Cx K G cc own nL rm) {M : Nat} {n : Int32} (harr : Cond.arrayClass .int ∈ LW) (hd : decode cc pc = .ok (.newarray .int, 2)) (hn : ¬ n < 0) (hM : n.toNatClampNeg ≤ M) (hby : M ≤ 100000) (hrm : a + 1 ≤ rm.cells ∧ b + M ≤ rm.slots) (ea : a + 1 = a') (eb : b + M = b')
    (k : ∀ y μ1, y = mN μ → μ1 = newA μ 20 n.toNatClampNeg → Rn K G nL (pc + 2) lv (rv G (some y) :: st) μ1 a' b') : Rn K G nL pc lv (.int n :: st) μ a b :=
  r_newa (t0 := 0) (atype := .int) (ty := .int) C harr rfl rfl (fun _ h => by cases h) (fun μ1 r m h h0 => ⟨_, rend_i h, by rw [vp_cell_i]; congr 1; funext j; rw [h0]; rfl⟩) hd hn hM (by show M * 4 ≤ _; omega) hrm ea eb k
theorem r_newZ (C : Cx K G cc own nL rm) {M : Nat} {n : Int32} (harr : Cond.arrayClass .boolean ∈ LW) (hd : decode cc pc = .ok (.newarray .boolean, 2)) (hn : ¬ n < 0) (hM : n.toNatClampNeg ≤ M) (hby : M ≤ 100000) (hrm : a + 1 ≤ rm.cells ∧ b + M ≤ rm.slots) (ea : a + 1 = a') (eb : b + M = b')
    (k : ∀ y μ1, y = mN μ → μ1 = newA μ 21 n.toNatClampNeg → Rn K G nL (pc + 2) lv (rv G (some y) :: st) μ1 a' b') : Rn K G nL pc lv (.int n :: st) μ a b :=
  r_newa (t0 := 1) (atype := .boolean) (ty := .boolean) C harr rfl rfl (fun _ h => by cases h) (fun μ1 r m h h0 => ⟨_, rend_z h, by rw [vp_cell_i]; congr 1; funext j; rw [h0]; rfl⟩) hd hn hM (by show M * 1 ≤ _; omega) hrm ea eb k
theorem r_newJ (C : Cx K G cc own nL rm) {M : Nat} {n : Int32} (harr : Cond.arrayClass .long ∈ LW) (hd : decode cc pc = .ok (.newarray .long, 2)) (hn : ¬ n < 0) (hM : n.toNatClampNeg ≤ M) (hby : M ≤ 100000) (hrm : a + 1 ≤ rm.cells ∧ b + M ≤ rm.slots) (ea : a + 1 = a') (eb : b + M = b')
    (k : ∀ y μ1, y = mN μ → μ1 = newA μ 23 n.toNatClampNeg → Rn K G nL (pc + 2) lv (rv G (some y) :: st) μ1 a' b') : Rn K G nL pc lv (.int n :: st) μ a b :=
  r_newa (t0 := 3) (atype := .long) (ty := .long) C harr rfl rfl (fun _ h => by cases h) (fun μ1 r m h h0 => ⟨_, rend_j h, by rw [vp_cell_l]; congr 1; funext j; rw [h0]; rfl⟩) hd hn hM (by show M * 8 ≤ _; omega) hrm ea eb k
theorem r_newQ (C : Cx K G cc own nL rm) {M idx : Nat} {n : Int32} (hcl : (Cond.classLink own idx "LineCollector$Item").before (ka K) (ks K) = true) (hd : decode cc pc = .ok (.anewarray idx, 3)) (hn : ¬ n < 0) (hM : n.toNatClampNeg ≤ M) (hby : M ≤ 100000) (hrm : a + 1 ≤ rm.cells ∧ b + M ≤ rm.slots) (ea : a + 1 = a') (eb : b + M = b')
    (k : ∀ y μ1, y = mN μ → μ1 = newA μ 22 n.toNatClampNeg → Rn K G nL (pc + 3) lv (rv G (some y) :: st) μ1 a' b') : Rn K G nL pc lv (.int n :: st) μ a b := by
  intro H locs ls hH hS hl
  subst ea; subst eb
  have hR := C.r
  refine W.anew C.x C.b C.o hcl (va_AO.use C.e.2.2.2.2.1) rfl hd rfl hn (by omega) (by rw [hR]; exact hrm.1) (by rw [hR]; exact Nat.le_trans (Nat.add_le_add_left hM b) hrm.2) fun cA kA comp f1 f2 f3 f4 => ?_
  have hz : H.size = gb G + mN μ := hH.2.1
  obtain ⟨kA2, comp2, -, -, -, hRA⟩ := (C.k.2 2 _ rfl).2
  have hcA' : cA = gA G 2 := Option.some.inj (f1.symm.trans hRA)
  subst hcA'
  generalize hH1 : H.push ({ cls := gA G 2, slots := Array.replicate n.toNatClampNeg .null, vm := .none } : Cell) = H1
  have z1 : H1.size = H.size + 1 := by rw [← hH1, Array.size_push]
  have e1 : H1[H.size]? = some (arrV (gA G 2) n.toNatClampNeg (fun _ => .null)) := by rw [← hH1, Array.getElem?_push_size, ← arrV_new]
  have o1 : ∀ q : Nat, q < H.size → H1[q]? = H[q]? := fun q hq => by rw [← hH1, Array.getElem?_push, if_neg (Nat.ne_of_lt hq)]
  have h2 := k (mN μ) _ rfl rfl H1 locs ls (hH.grow (hH.1.newA 22 _) rfl z1 o1 (fun x hx => rend_congr (by rw [mK_newA, if_neg (by omega)]) (by rw [mL_newA, if_neg (by omega)]) (newA_I (by omega)) (newA_R (by omega))) (by
    rw [rend_q (μ := newA μ 22 n.toNatClampNeg) (r := mN μ) (n := n.toNatClampNeg) ⟨by rw [mN_newA]; omega, by rw [mK_newA, if_pos rfl], by rw [mL_newA, if_pos rfl]⟩]
    show H1[gb G + mN μ]? = some (arrV (gA G 2) n.toNatClampNeg (fun j => va_rf ((mR (newA μ 22 n.toNatClampNeg) (mN μ) j).map (fun x => gb G + x))))
    rw [← hz, e1]
    congr 2
    funext j
    rw [mR_newA, if_pos rfl]
    rfl)) (s_grow hS z1 o1) hl
  have e3 : rv G (some (mN μ)) = .ref H.size := by rw [hz]; rfl
  rw [e3] at h2
  exact W.widen (Nat.le_refl _) (Nat.add_le_add_left hM b) h2
theorem r_obj (C : Cx K G cc own nL rm) {x : Nat} {idx : Nat} (hlk : (Cond.methodLink own idx Lib.objectInit).before (ka K) (ks K) = true) (hi : (Cond.instanceMethod Lib.objectInit).before (ka K) (ks K) = true) (hco : (Cond.code Lib.objectInit ⟨#[0xb1]⟩ 1 none).before (ka K) (ks K) = true)
    (hd : decode cc pc = .ok (.invokespecial idx, 3)) (hrm : 1 ≤ rm.frames ∧ (st.map fun v => v.category).sum + 12 ≤ rm.locals) (k : Rn K G nL (pc + 3) lv st μ a b) : Rn K G nL pc lv (rv G (some x) :: st) μ a b := by
  intro H locs ls hH hS hl
  have hR := C.r
  exact W.objInit C.x C.b C.o hlk hi hco rfl (hl.1.trans C.n.symm) rfl hd (by rw [hR]; exact hrm.1) (by
    show 2 * 0 + _ + 12 ≤ _
    rw [hR]
    have := hrm.2
    omega) (k H locs ls hH hS hl)
/-- a field of an object under construction -/
theorem r_putU (C : Cx K G cc own nL rm) {Cn : String} {T : u_T} {N ci idx : Nat} (hc : CL[ci]? = some (Cn, T, N)) (j : Nat) (hj : j < N) (hlk : (Cond.fieldLink own idx Cn (T j).2.1 (T j).2.2.1).before (ka K) (ks K) = true)
    (hfin : (T j).2.2.2 = false ∨ ((T j).2.2.2 = true ∧ (kh K).name = "<init>" ∧ Cn = own)) {ty : FieldType} (hty : parseFieldDescriptor (T j).2.2.1 = some ty) {v : Value} (hn : narrow ty v = v) (hfit : fits ty v = true) {r : Nat} {μ1 : Mem} (hr : okO μ r (40 + ci))
    (e0 : mN μ1 = mN μ) (e1 : mK μ1 r = 40 + ci) (e2 : fldu G μ1 r ci = (fldu G μ r ci).set j v) (e3 : ∀ x, x ≠ r → rend G μ1 x = rend G μ x) (e4 : LayG G μ → LayG G μ1) (hd : decode cc pc = .ok (.putfield idx, 3))
    (k : Rn K G nL (pc + 3) lv st μ1 a b) : Rn K G nL pc lv (v :: rv G (some r) :: st) μ a b := by
  intro H locs ls hH hS hl
  have hap := va_apart (own := own) C.w (cl_in hc) (fun k => ftyD (T k).2.2.1) (cl_ty hc) (cl_nm hc) C.k hc
  have hre := rend_u (G := G) hr.2
  obtain ⟨q, h2, cell, q1, q2, q3, q4⟩ := hH.P hr.1 hre 0 _ rfl
  have hq : q = (Cn, T, N) := Option.some.inj (h2.symm.trans hc)
  subst hq
  obtain ⟨hSl, hfc, kC, hkC, hkind⟩ := C.k.1 ci _ hc
  obtain ⟨cf, kf, fi, f, hi, hsl⟩ := hSl j hj
  have hst := (u_facts hfc hkC (u_lays C.w (cl_in hc) hj) hi).1
  have hlay := C.w _ (cl_in hc _ (u_in_lay hj))
  have fin : ∀ (H' : Heap), H'[gb G + r]? = some (cell.setSlot f.slot v) → H'.size = H.size → (∀ q, q ≠ gb G + r → H'[q]? = H[q]?) →
      W (kp K) (kl K) (ke K) (kR K) (ks K) (km K) (ka K) (kw K) (kh K) (kc K) H' (locs ++ [⟨gb G + r, f.slot⟩]) a b (kq K) (F0 (km K) (pc + 3) ls st) := by
    intro H' g1 g2 g3
    rw [hsl] at g1
    refine k H' _ ls (hH.put (r := r) (e4 hH.1) e0 g2 g3 e3 ?_) (hS.put g2 g3 (by unfold gF; omega)) hl
    rw [rend_u (μ := μ1) e1, e2]
    exact ⟨_, hc, t_OB.to (V := updV (vp_V (fldu G μ r ci)) j v) ⟨_, g1, q2, q3, t_set q4 hap hj v⟩ (fun i _ => vp_updV_set (by rw [fldu_len, cl_len hc]; exact hj) v i)⟩
  rcases hfin with hf | ⟨hf, hname, hown⟩
  · unfold u_lay at hlay
    rw [if_neg (by rw [hf]; decide)] at hlay
    have h6 := u_store hfc hkC hkind hlay hi hty hn hfit
    exact W.putK C.x C.b (f := f) ⟨C.o, hlk, ⟨_, _, _, x_same hc hj _ hi⟩, hst⟩ (by rw [q2]; exact h6) q1 q3 (by rw [hsl]; exact k2_hasslot (q4 j hj)) rfl rfl hd fin
  · unfold u_lay at hlay
    rw [if_pos hf] at hlay
    have hcf : (km K).cls = cf := by
      obtain ⟨_, _, c', _, _, _, -, -, hf', -, -, -, hown2, -⟩ := Cond.laysFinal_spec hlay
      have e9 : c' = cf := by have := hi.symm.trans hf'; simp at this; exact this.1.symm
      have h0 : (T j).1 = Cn := cl_own hc j hj
      rw [h0, hown] at hown2
      rw [← e9]; exact Option.some.inj (C.o.symm.trans hown2)
    have h6 := u_fits hfc hkC hkind (Or.inr hlay) hi hty hn hfit
    exact W.putFinK C.x C.b C.o hlk (x_same hc hj _ hi) hst hcf hname (by rw [q2]; exact h6) q1 q3 (by rw [hsl]; exact k2_hasslot (q4 j hj)) rfl rfl hd fin
theorem r_putUI (C : Cx K G cc own nL rm) {Cn : String} {T : u_T} {N ci idx : Nat} (hc : CL[ci]? = some (Cn, T, N)) (j : Nat) (hj : j < N) (hlk : (Cond.fieldLink own idx Cn (T j).2.1 (T j).2.2.1).before (ka K) (ks K) = true)
    (hfin : (T j).2.2.2 = false ∨ ((T j).2.2.2 = true ∧ (kh K).name = "<init>" ∧ Cn = own)) (hsh : (shp ci)[j]? = some none) (hty : parseFieldDescriptor (T j).2.2.1 = some .int) {v : Int32} {r : Nat} (hr : okO μ r (40 + ci)) (hd : decode cc pc = .ok (.putfield idx, 3))
    (k : ∀ μ1, μ1 = sI μ r j v → Rn K G nL (pc + 3) lv st μ1 a b) : Rn K G nL pc lv (.int v :: rv G (some r) :: st) μ a b :=
  r_putU (μ1 := sI μ r j v) C hc j hj hlk hfin hty rfl rfl hr rfl hr.2 (fldu_setI hsh) (fun _ hx => rend_ne hx) (fun h => h.sI r j v) hd (k _ rfl)
theorem r_putUR (C : Cx K G cc own nL rm) {Cn : String} {T : u_T} {N ci idx d : Nat} (hc : CL[ci]? = some (Cn, T, N)) (j : Nat) (hj : j < N) (hlk : (Cond.fieldLink own idx Cn (T j).2.1 (T j).2.2.1).before (ka K) (ks K) = true)
    (hfin : (T j).2.2.2 = false ∨ ((T j).2.2.2 = true ∧ (kh K).name = "<init>" ∧ Cn = own)) (hsh : (shp ci)[j]? = some (some d)) {ty : FieldType} (hty : parseFieldDescriptor (T j).2.2.1 = some ty) (href : (∃ n, ty = .object n) ∨ ∃ t, ty = .array t) {v : Option Nat} {r : Nat} (hr : okO μ r (40 + ci)) (hd : decode cc pc = .ok (.putfield idx, 3))
    (k : ∀ μ1, μ1 = sR μ r j v → Rn K G nL (pc + 3) lv st μ1 a b) : Rn K G nL pc lv (rv G v :: rv G (some r) :: st) μ a b := by
  refine r_putU (μ1 := sR μ r j v) C hc j hj hlk hfin hty ?_ ?_ hr rfl hr.2 (fldu_setR hsh) (fun _ hx => rend_neR hx) (fun h => h.sR r j v) hd (k _ rfl)
  · rcases href with ⟨n, rfl⟩ | ⟨t, rfl⟩ <;> cases v <;> rfl
  · rcases href with ⟨n, rfl⟩ | ⟨t, rfl⟩ <;> cases v <;> rfl
theorem r_getUI (C : Cx K G cc own nL rm) {Cn : String} {T : u_T} {N ci idx : Nat} (hc : CL[ci]? = some (Cn, T, N)) (j : Nat) (hj : j < N) (hlk : (Cond.fieldLink own idx Cn (T j).2.1 (T j).2.2.1).before (ka K) (ks K) = true) (hsh : (shp ci)[j]? = some none) {r : Nat} (hr : okO μ r (40 + ci)) (hd : decode cc pc = .ok (.getfield idx, 3))
    (k : Rn K G nL (pc + 3) lv (.int (mI μ r j) :: st) μ a b) : Rn K G nL pc lv (rv G (some r) :: st) μ a b := by
  intro H locs ls hH hS hl
  exact va_get C.x C.b C.w (cl_in hc) C.o C.k (hH.P hr.1 (rend_u hr.2)) 0 rfl hc j hj hlk (x_same hc hj) (fldu_get hsh) hd (k H locs ls hH hS hl)
theorem r_getUR (C : Cx K G cc own nL rm) {Cn : String} {T : u_T} {N ci idx d : Nat} (hc : CL[ci]? = some (Cn, T, N)) (j : Nat) (hj : j < N) (hlk : (Cond.fieldLink own idx Cn (T j).2.1 (T j).2.2.1).before (ka K) (ks K) = true) (hsh : (shp ci)[j]? = some (some d)) {r : Nat} (hr : okO μ r (40 + ci)) (hd : decode cc pc = .ok (.getfield idx, 3))
    (k : ∀ e, e = mR μ r j → Rn K G nL (pc + 3) lv (rv G e :: st) μ a b) : Rn K G nL pc lv (rv G (some r) :: st) μ a b := by
  intro H locs ls hH hS hl
  exact va_get C.x C.b C.w (cl_in hc) C.o C.k (hH.P hr.1 (rend_u hr.2)) 0 rfl hc j hj hlk (x_same hc hj) (fldu_get hsh) hd (k _ rfl H locs ls hH hS hl)
/-- an object's constructor is through: its references are those of its shape -/
def finOk (μ : Mem) (r ci : Nat) : Prop := okO μ r (40 + ci) ∧ ∀ j d, (shp ci)[j]? = some (some d) → mR μ r j = some (r + d)
theorem LayG.fin {G : Gl} {μ : Mem} (h : LayG G μ) {r ci : Nat} (hr : okO μ r (40 + ci)) : LayG G (finO μ r ci) := by
  intro q
  refine ⟨(h q).1, fun x y hy => ?_⟩
  have h1 := (h q).2 x y hy
  have h2 : y.1 < 40 := by
    have h3 : ∀ y ∈ layKs, y.1 < 40 := by decide
    exact h3 y (List.mem_of_getElem? hy)
  refine ⟨?_, h1.2⟩
  rw [mK_finO, if_neg ?_]
  · exact h1.1
  · rintro rfl
    have := hr.2
    omega
theorem r_fin {ci r : Nat} (h7 : ci < 20) (h : finOk μ r ci) (k : ∀ μ1, μ1 = finO μ r ci → Rn K G nL pc lv st μ1 a b) : Rn K G nL pc lv st μ a b := by
  intro H locs ls hH hS hl
  refine k _ rfl H locs ls ⟨hH.1.fin h.1, hH.2.1, fun x hx => ?_⟩ hS hl
  have h0 := hH.2.2 x hx
  by_cases e : x = r
  · subst e
    rw [rend_u h.1.2] at h0
    rw [rend_o (ci := ci) (by rw [mK_finO, if_pos rfl]) h7]
    have e1 : flds G (finO μ x ci) x ci = fldu G μ x ci := by
      apply List.ext_getElem?
      intro i
      simp only [flds, fldu, List.getElem?_map, List.getElem?_zipIdx]
      cases hs : (shp ci)[i]? with
      | none => rfl
      | some o =>
        cases o with
        | none => simp [fldv, flduv, mI_finO]
        | some d =>
          have := h.2 i d hs
          simp [fldv, flduv, this, rv]
    rw [e1]
    exact h0
  · have e2 : rend G (finO μ r ci) x = rend G μ x := rend_congr (by rw [mK_finO, if_neg e]) rfl rfl rfl
    rw [e2]
    exact h0
end NX
section LX
variable {p : Program} {l : Launch} {e : Env} {R : Room} {s : State} {m : MethodId} {args : Array Value} {below : List Frame} {meth : Method} {c : Code} {T : State} {locs : List Loc} {cells slots : Nat}
theorem landI (X : Stand p l e R s m args below meth c T locs cells slots) (hexec : p.tables.exec = Jvm.exec) {own host : String} {index : Nat} {y : MethodName} {bytes : ByteArray} {maxL : Nat}
    (hown : s.vm.findClass own = some m.cls) (hy1 : y.name = "<init>") (hlink : (Cond.methodLink own index y).before args s = true ∨ (Cond.methodLinkNest own index y host).before args s = true) (hinst : (Cond.instanceMethod y).before args s = true)
    (hcode : (Cond.code y bytes maxL none).before args s = true) (hy : y.cls ≠ "java/lang/invoke/MethodHandle" ∧ y.cls ≠ "java/lang/invoke/VarHandle")
    {g : JFrame} (hg : g.method = m) {a : Addr} {argsL rest : List Value} (hlen : (parseMethodDescriptor y.desc).map (fun d => d.parameters.length) = some argsL.length)
    (hstack : g.stack = argsL.reverse ++ .ref a :: rest) (hdg : decode c.code g.pc = .ok (.invokespecial index, 3)) :
    LandX p l e R s m args below meth c T locs cells slots g rest y (Value.ref a :: argsL).toArray maxL := by
  subst hg
  have hpl : e.platform.magicAccessors = ({} : Platform).magicAccessors := by rw [X.admits.platform]
  have hlen' : ∀ sig, parseMethodDescriptor y.desc = some sig → argsL.length = sig.parameters.length := fun sig h => by rw [h] at hlen; exact (Option.some.inj hlen).symm
  have fin : ∀ (mk : MethodId) (methM : Method) (cM : Code) (vm₁ : Vm), s.methodNamed? y = some mk → s.vm.method? mk = some methM → methM.code = some cM → cM.maxLocals = maxL → s.WarmedH vm₁ →
      (∀ target, (∀ acts, Steps p.tables e below (doInvoke e ((T.setVm vm₁).setTop { g with stack := rest }) acts mk (Value.ref a :: argsL).toArray).1 target) → Steps p.tables e below (T.setTop g) target) →
      LandX p l e R s g.method args below meth c T locs cells slots g rest y (Value.ref a :: argsL).toArray maxL := by
    intro mk methM cM vm₁ h1 h2 h3 h4 h5 h6
    have X₁ := X.noted h5
    refine ⟨vm₁, mk, methM, cM, h5, X₁, X₁.named h1, ?_, h3, h4, fun target h => h6 _ fun acts => by rw [doInvoke_state]; exact h⟩
    have h7 : s.vm.Alike vm₁ := h5.alike
    rw [h7.method?]
    exact h2
  rcases hlink with hl | hl
  · obtain ⟨mk, methM, cM, kP, vm₁, hnamed, hmethM, hcodeM, -, hlocalsM, -, -, -, hW₁, hstep₁⟩ := Steps.initColdArgs (e := e) X.here hexec X.warmed hpl hown hy1 hy hl hinst hcode (f := g) rfl hlen' hstack hdg
    exact fin mk methM cM vm₁ hnamed hmethM hcodeM hlocalsM hW₁ hstep₁
  · obtain ⟨mk, methM, cM, kP, vm₁, hnamed, hmethM, hcodeM, -, hlocalsM, -, -, -, hW₁, hstep₁⟩ := Steps.initColdArgsNest (e := e) X.here hexec X.warmed hpl hown hy1 hy hl hinst hcode (f := g) rfl hlen' hstack hdg
    exact fin mk methM cM vm₁ hnamed hmethM hcodeM hlocalsM hW₁ hstep₁
end LX
def MiI (i : Mi) : Prop := MiB i ∧ Cond.code (iy i) (ib i) (il i) none ∈ LW ∧ Cond.instanceMethod (iy i) ∈ LW ∧ (iy i).name = "<init>" ∧ ir i = none
section CI
variable {K : Kx} {G : Gl} {cc : ByteArray} {own : String} {nL : Nat} {rm : Room} {pc : Nat} {lv : List (Nat × Av)} {st : List Value} {μ : Mem} {a b a' b' : Nat}
theorem r_cI (C : Cx K G cc own nL rm) {i : Mi} {host : String} {rr idx : Nat} {As : List Av} {stk : List Value} {po : Mem → Prop} (hM : Ct (kl K) G i (.inr (.inl (some rr)) :: As) μ (poV po) noX) (hi : MiI i)
    (hlk : (Cond.methodLink own idx (iy i)).before (ka K) (ks K) = true ∨ (Cond.methodLinkNest own idx (iy i) host).before (ka K) (ks K) = true) (hn : As.length = ia i) (hrm : (im i).frames + 1 ≤ rm.frames ∧ 8 + (il i + 11) + (im i).locals ≤ rm.locals ∧ a + (im i).cells ≤ rm.cells ∧ b + (im i).slots ≤ rm.slots) (ha : a + (im i).cells = a') (hb : b + (im i).slots = b')
    (hw : (st.map fun v => v.category).sum ≤ 8) (hd : decode cc pc = .ok (.invokespecial idx, 3)) (hstk : stk = (avl G As).reverse ++ rv G (some rr) :: st) (kr : ∀ μ1, po μ1 → Rn K G nL (pc + 3) lv st μ1 a' b') : Rn K G nL pc lv stk μ a b := by
  intro H locs ls hH hS hl
  subst ha; subst hb
  obtain ⟨⟨i1, i2, i3⟩, i4, i5, i6, i7⟩ := hi
  have i8 : Cond.code (iy i) (ib i) (il i) (ir i) ∈ LW := by rw [i7]; exact i4
  have hR := C.r
  refine overX (g := F0 (km K) pc ls stk) (rest := st) (avs := (avl G (.inr (.inl (some rr)) :: As)).toArray) C.b hM rfl rfl (by rw [hR]; exact hrm.1) (by rw [hR]; exact hrm.2.1) rfl (hl.1.trans C.n.symm) hd (st_room rfl hw) (ws_in C i8) (fun a' U hU => lw_ok _ i1 hU (C.w _ i1)) ?_ (by rw [hR]; exact hrm.2.2.1) (by rw [hR]; exact hrm.2.2.2) (pc_in C hH hS rfl) (k_ret hS hl (fun v μ1 h => by obtain ⟨rfl, h⟩ := h; exact kr μ1 h)) ?_
  · intro T0 hT0 X
    exact landI X C.x C.o i6 hlk (C.w _ i5) (C.w _ i4) i2 rfl (argsL := avl G As) (by rw [i3, ← hn]; simp [avl]) hstk (by rw [C.b]; exact hd)
  · intro x st0 t L _ _ hq _
    obtain ⟨-, ⟨v, μ1, h3, -⟩ | ⟨q, x, μ1, -, h3, -⟩⟩ := hq
    · cases h3
    · exact h3.elim
end CI
/-- into a constructor -/
theorem ct_ofI {l : Launch} {G : Gl} {i : Mi} {avs : List Av} {μ : Mem} {post : Option Value → Mem → Prop} {pe : Nat → Mem → Prop} (hl : l.stackTraces = false) (hy : plainName (iy i).cls = true) (hn : avs.length ≤ il i)
    (body : ∀ K : Kx, kl K = l → Cx K G (ib i) (iy i).cls (il i) (im i) → Cq K G (im i) (ir i) post pe → (kh K).name = (iy i).name → Rn K G (il i) 0 ((avs.zipIdx 0).map (fun q => (q.2, q.1))) [] μ 0 0) : Ct l G i avs μ post pe := by
  refine MetX.ofW (cc := ib i) (maxL := il i) (ret := ir i) hy rfl ?_
  intro p e s m args below meth c s₁ B hml hv
  obtain ⟨rfl, hH, hK, hX⟩ := hv
  have hts : ∀ w ∈ (Cond.code (iy i) (ib i) (il i) (ir i) :: LW), w.before (avl G avs).toArray s = true := atoms_spec B.pre
  have hent := lv_entry (avl G avs) (n := il i) (by rw [lg_len]; exact hn)
  rw [lg_entry_eq]
  rw [lv_args_eq] at hent
  exact body (p, l, e, im i, s, m, (avl G avs).toArray, below, meth, c, MQX below (Qe G post pe) (avl G avs).toArray s (im i).cells (im i).slots (gF G)) rfl
    ⟨B.exec, B.bytes, hml, findClass_of_methodNamed B.named, fun w hw => hts w (List.mem_cons_of_mem _ hw), hK, hX, rfl, B.notSynchronized, ⟨μ, hH.2⟩, hl⟩ ⟨B.returns, rfl⟩ (name_of_methodNamed B.named B.method).1 s.heap [] _ hH va_S.rf hent
theorem ok_n {μ μ1 : Mem} {k' x k : Nat} (e : μ1 = newO μ k') (h : okO μ x k) : okO μ1 x k := by
  subst e
  exact ⟨by rw [mN_newO]; exact Nat.lt_succ_of_lt h.1, by rw [mK_newO, if_neg (Nat.ne_of_lt h.1)]; exact h.2⟩
theorem ok_m {μ μ1 : Mem} {k' n x k : Nat} (e : μ1 = newA μ k' n) (h : okO μ x k) : okO μ1 x k := by
  subst e
  exact ⟨by rw [mN_newA]; exact Nat.lt_succ_of_lt h.1, by rw [mK_newA, if_neg (Nat.ne_of_lt h.1)]; exact h.2⟩
theorem ok_y {μ μ1 : Mem} {y k : Nat} (ey : y = mN μ) (e : μ1 = newO μ k) : okO μ1 y k := by
  subst e; subst ey
  exact ⟨by rw [mN_newO]; omega, by rw [mK_newO, if_pos rfl]⟩
theorem ok_z {μ μ1 : Mem} {y k n : Nat} (ey : y = mN μ) (e : μ1 = newA μ k n) : okO μ1 y k := by
  subst e; subst ey
  exact ⟨by rw [mN_newA]; omega, by rw [mK_newA, if_pos rfl]⟩
theorem ok_f {μ μ1 : Mem} {r ci : Nat} (h : finOk μ r ci) (e : μ1 = finO μ r ci) : okO μ1 r ci := by
  subst e
  exact ⟨h.1.1, by rw [mK_finO, if_pos rfl]⟩
section SX
variable {K : Kx} {G : Gl} {cc : ByteArray} {own : String} {nL : Nat} {rm : Room} {pc : Nat} {lv : List (Nat × Av)} {st : List Value} {μ : Mem} {a b : Nat}
theorem ga_lt (C : Cx K G cc own nL rm) : ga G < (ks K).heap.size := Nat.lt_of_lt_of_le C.e.2.1 (base_le C.d)
theorem r_sld (C : Cx K G cc own nL rm) {i : Int32} (hin : vp_in i (gL G)) (hd : decode cc pc = .ok (.iaload, 1)) (k : Rn K G nL (pc + 1) lv (.int (gx G i.toNatClampNeg) :: st) μ a b) : Rn K G nL pc lv (.int i :: .ref (ga G) :: st) μ a b := by
  intro H locs ls hH hS hl
  exact va_sld C.x C.b C.e.1 (ga_lt C) (fun h => absurd C.e.2.1 (Nat.not_lt.mpr h)) hS hin hd (k H locs ls hH hS hl)
theorem r_slen (C : Cx K G cc own nL rm) (hd : decode cc pc = .ok (.arraylength, 1)) (k : Rn K G nL (pc + 1) lv (.int (Int32.ofNat (gL G)) :: st) μ a b) : Rn K G nL pc lv (.ref (ga G) :: st) μ a b := by
  intro H locs ls hH hS hl
  exact va_slen C.x C.b C.e.1 (ga_lt C) (fun h => absurd C.e.2.1 (Nat.not_lt.mpr h)) hS hd (k H locs ls hH hS hl)
end SX
