/-! The tables' words that stay true when the tables grow warmer -/
def wk : Cond → Bool
  | .declares _ => true
  | .castable _ _ => true
  | .not (.castable _ _) => true
  | .methodLinkNest .. => true
  | .arrayClass _ => true
  | c => c.onTables && c.keeps
theorem castable_warm {C T : String} {args a' : Array Value} {s U : State} (hW : s.WarmedH U.vm) (h : (Cond.castable C T).before args s = true) : (Cond.castable C T).before a' U = true := by
  obtain ⟨c, t, h1, h2, h3⟩ := Cond.castable_spec h
  have hal := hW.alike
  have g1 : U.vm.findClass C = some c := by rw [hal.findClass]; exact h1
  have g2 : U.vm.findClass T = some t := by rw [hal.findClass]; exact h2
  have g3 : U.vm.assignable c t = true := by rw [hal.assignable]; exact h3
  simp [Cond.before, Cond.holds, Cond.value, g1, g2, g3]
theorem notcast_warm {C T : String} {args a' : Array Value} {s U : State} (hW : s.WarmedH U.vm) (h : (Cond.not (.castable C T)).before args s = true) : (Cond.not (.castable C T)).before a' U = true := by
  obtain ⟨c, t, h1, h2, h3⟩ := va_Nc.of h
  have hal := hW.alike
  have g1 : U.vm.findClass C = some c := by rw [hal.findClass]; exact h1
  have g2 : U.vm.findClass T = some t := by rw [hal.findClass]; exact h2
  have g3 : U.vm.assignable c t = false := by rw [hal.assignable]; exact h3
  simp [Cond.before, Cond.holds, Cond.value, g1, g2, g3]
theorem wk_ok {w : Cond} (hk : wk w = true) {args a' : Array Value} {s U : State} (hW : s.WarmedH U.vm) (h : w.before args s = true) : w.before a' U = true := by
  unfold wk at hk
  split at hk
  · exact va_Nw.use rfl (va_Nw.warmD hW (va_Nw.of rfl h))
  · exact castable_warm hW h
  · exact notcast_warm hW h
  · exact va_Nw.use rfl (va_Nw.warmM hW (va_Nw.of rfl h))
  · exact word_at hW (Or.inr ⟨_, rfl⟩) h
  · exact word_at hW (Or.inl hk) h
def LW : List Cond := lw_tbl.filter wk
theorem lw_ok (w : Cond) (h : w ∈ LW) {args a' : Array Value} {s U : State} (hW : s.WarmedH U.vm) (hb : w.before args s = true) : w.before a' U = true := wk_ok (List.mem_filter.mp h).2 hW hb
theorem tb (i : Nat) {w : Cond} (h : tables_1[i]? = some w) (hk : wk w = true) : w ∈ LW := List.mem_filter.mpr ⟨List.mem_append_right _ (List.mem_of_getElem? h), hk⟩
theorem tp {q : MethodName × Nat} (i : Nat) (h : lw_privs[i]? = some q) (hk : wk (.selects q.1.cls q.1 q.1) = true) : Cond.selects q.1.cls q.1 q.1 ∈ LW := List.mem_filter.mpr ⟨List.mem_append_left _ (List.mem_map.mpr ⟨q, List.mem_of_getElem? h, rfl⟩), hk⟩
theorem lw_sub {args : Array Value} {s : State} (h : ∀ w ∈ lw_tbl, w.before args s = true) : ∀ w ∈ LW, w.before args s = true := fun w hw => h w (List.mem_filter.mp hw).1
theorem cl_in_ok : ∀ w ∈ (u_ws "LineCollector" fT_C 11 ++ (u_ws "LineCollector$Places" fT_P 5 ++ (u_ws "LineCollector$Span" fT_S 3 ++ (u_ws "LineCollector$Log" fT_G 4 ++ (u_ws "LineCollector$Row" fT_W 3 ++ (u_ws "LineCollector$Item" fT_I 7 ++ u_ws "LineCollectorModel" fT_M 31)))))), w ∈ tables_1 ∧ wk w = true := by decide +kernel
theorem cl_in_w {w : Cond} (h : w ∈ (u_ws "LineCollector" fT_C 11 ++ (u_ws "LineCollector$Places" fT_P 5 ++ (u_ws "LineCollector$Span" fT_S 3 ++ (u_ws "LineCollector$Log" fT_G 4 ++ (u_ws "LineCollector$Row" fT_W 3 ++ (u_ws "LineCollector$Item" fT_I 7 ++ u_ws "LineCollectorModel" fT_M 31))))))) : w ∈ LW := List.mem_filter.mpr ⟨List.mem_append_right _ (cl_in_ok w h).1, (cl_in_ok w h).2⟩
theorem cl_in {ci : Nat} {q : vw_C} (h : CL[ci]? = some q) : ∀ w ∈ u_ws q.1 q.2.1 q.2.2, w ∈ LW := by
  refine cl_ind (P := fun _ q => ∀ w ∈ u_ws q.1 q.2.1 q.2.2, w ∈ LW) ?_ ?_ ?_ ?_ ?_ ?_ ?_ (fun _ _ _ w hw => by cases hw) h
  · exact fun w hw => cl_in_w (List.mem_append_left _ hw)
  · exact fun w hw => cl_in_w (List.mem_append_right _ (List.mem_append_left _ hw))
  · exact fun w hw => cl_in_w (List.mem_append_right _ (List.mem_append_right _ (List.mem_append_left _ hw)))
  · exact fun w hw => cl_in_w (List.mem_append_right _ (List.mem_append_right _ (List.mem_append_right _ (List.mem_append_left _ hw))))
  · exact fun w hw => cl_in_w (List.mem_append_right _ (List.mem_append_right _ (List.mem_append_right _ (List.mem_append_right _ (List.mem_append_left _ hw)))))
  · exact fun w hw => cl_in_w (List.mem_append_right _ (List.mem_append_right _ (List.mem_append_right _ (List.mem_append_right _ (List.mem_append_right _ (List.mem_append_left _ hw))))))
  · exact fun w hw => cl_in_w (List.mem_append_right _ (List.mem_append_right _ (List.mem_append_right _ (List.mem_append_right _ (List.mem_append_right _ (List.mem_append_right _ hw))))))
set_option maxRecDepth 20000 in
theorem k_17 {a : Array Value} {s : State} (h : ∀ w ∈ LW, w.before a s = true) : (Jvm.Cond.classLink "LineCollectorLaw" 8 "LineCollector").before a s = true := h _ (tb 17 rfl rfl)
set_option maxRecDepth 20000 in
theorem k_19 {a : Array Value} {s : State} (h : ∀ w ∈ LW, w.before a s = true) : (Jvm.Cond.methodLink "LineCollectorLaw" 61 ⟨"LineCollector", "<init>", "()V"⟩).before a s = true := h _ (tb 19 rfl rfl)
set_option maxRecDepth 20000 in
theorem k_22 {a : Array Value} {s : State} (h : ∀ w ∈ LW, w.before a s = true) : (Jvm.Cond.methodLink "LineCollector" 3 ⟨"java/lang/Object", "<init>", "()V"⟩).before a s = true := h _ (tb 22 rfl rfl)
set_option maxRecDepth 20000 in
theorem k_25 {a : Array Value} {s : State} (h : ∀ w ∈ LW, w.before a s = true) : (Jvm.Cond.classLink "LineCollector" 9 "LineCollector$Item").before a s = true := h _ (tb 25 rfl rfl)
set_option maxRecDepth 20000 in
theorem k_27 {a : Array Value} {s : State} (h : ∀ w ∈ LW, w.before a s = true) : (Jvm.Cond.classLink "LineCollector" 21 "LineCollector$Places").before a s = true := h _ (tb 27 rfl rfl)
set_option maxRecDepth 20000 in
theorem k_29 {a : Array Value} {s : State} (h : ∀ w ∈ LW, w.before a s = true) : (Jvm.Cond.methodLinkNest "LineCollector" 23 ⟨"LineCollector$Places", "<init>", "()V"⟩ "LineCollector").before a s = true := h _ (tb 29 rfl rfl)
set_option maxRecDepth 20000 in
theorem k_32 {a : Array Value} {s : State} (h : ∀ w ∈ LW, w.before a s = true) : (Jvm.Cond.methodLink "LineCollector$Places" 3 ⟨"java/lang/Object", "<init>", "()V"⟩).before a s = true := h _ (tb 32 rfl rfl)
set_option maxRecDepth 20000 in
theorem k_33 {a : Array Value} {s : State} (h : ∀ w ∈ LW, w.before a s = true) : (Jvm.Cond.classLink "LineCollector$Places" 19 "LineCollector$Span").before a s = true := h _ (tb 33 rfl rfl)
set_option maxRecDepth 20000 in
theorem k_35 {a : Array Value} {s : State} (h : ∀ w ∈ LW, w.before a s = true) : (Jvm.Cond.methodLinkNest "LineCollector$Places" 21 ⟨"LineCollector$Span", "<init>", "()V"⟩ "LineCollector").before a s = true := h _ (tb 35 rfl rfl)
set_option maxRecDepth 20000 in
theorem k_38 {a : Array Value} {s : State} (h : ∀ w ∈ LW, w.before a s = true) : (Jvm.Cond.methodLink "LineCollector$Span" 3 ⟨"java/lang/Object", "<init>", "()V"⟩).before a s = true := h _ (tb 38 rfl rfl)
set_option maxRecDepth 20000 in
theorem k_39 {a : Array Value} {s : State} (h : ∀ w ∈ LW, w.before a s = true) : (Jvm.Cond.fieldLink "LineCollector$Span" 9 "LineCollector$Span" "start" "I").before a s = true := h _ (tb 39 rfl rfl)
set_option maxRecDepth 20000 in
theorem k_40 {a : Array Value} {s : State} (h : ∀ w ∈ LW, w.before a s = true) : (Jvm.Cond.fieldLink "LineCollector$Span" 15 "LineCollector$Span" "cursor" "I").before a s = true := h _ (tb 40 rfl rfl)
set_option maxRecDepth 20000 in
theorem k_41 {a : Array Value} {s : State} (h : ∀ w ∈ LW, w.before a s = true) : (Jvm.Cond.fieldLink "LineCollector$Span" 18 "LineCollector$Span" "end" "I").before a s = true := h _ (tb 41 rfl rfl)
set_option maxRecDepth 20000 in
theorem k_51 {a : Array Value} {s : State} (h : ∀ w ∈ LW, w.before a s = true) : (Jvm.Cond.fieldLink "LineCollector$Places" 9 "LineCollector$Places" "cellsOwned" "[I").before a s = true := h _ (tb 51 rfl rfl)
set_option maxRecDepth 20000 in
theorem k_52 {a : Array Value} {s : State} (h : ∀ w ∈ LW, w.before a s = true) : (Jvm.Cond.fieldLink "LineCollector$Places" 15 "LineCollector$Places" "movedOut" "[Z").before a s = true := h _ (tb 52 rfl rfl)
set_option maxRecDepth 20000 in
theorem k_53 {a : Array Value} {s : State} (h : ∀ w ∈ LW, w.before a s = true) : (Jvm.Cond.fieldLink "LineCollector$Places" 22 "LineCollector$Places" "hole" "LLineCollector$Span;").before a s = true := h _ (tb 53 rfl rfl)
set_option maxRecDepth 20000 in
theorem k_54 {a : Array Value} {s : State} (h : ∀ w ∈ LW, w.before a s = true) : (Jvm.Cond.fieldLink "LineCollector$Places" 26 "LineCollector$Places" "overflow" "LLineCollector$Span;").before a s = true := h _ (tb 54 rfl rfl)
set_option maxRecDepth 20000 in
theorem k_55 {a : Array Value} {s : State} (h : ∀ w ∈ LW, w.before a s = true) : (Jvm.Cond.fieldLink "LineCollector$Places" 29 "LineCollector$Places" "shutBlock" "I").before a s = true := h _ (tb 55 rfl rfl)
set_option maxRecDepth 20000 in
theorem k_67 {a : Array Value} {s : State} (h : ∀ w ∈ LW, w.before a s = true) : (Jvm.Cond.classLink "LineCollector" 28 "LineCollector$Log").before a s = true := h _ (tb 67 rfl rfl)
set_option maxRecDepth 20000 in
theorem k_69 {a : Array Value} {s : State} (h : ∀ w ∈ LW, w.before a s = true) : (Jvm.Cond.methodLinkNest "LineCollector" 30 ⟨"LineCollector$Log", "<init>", "()V"⟩ "LineCollector").before a s = true := h _ (tb 69 rfl rfl)
set_option maxRecDepth 20000 in
theorem k_72 {a : Array Value} {s : State} (h : ∀ w ∈ LW, w.before a s = true) : (Jvm.Cond.methodLink "LineCollector$Log" 3 ⟨"java/lang/Object", "<init>", "()V"⟩).before a s = true := h _ (tb 72 rfl rfl)
set_option maxRecDepth 20000 in
theorem k_73 {a : Array Value} {s : State} (h : ∀ w ∈ LW, w.before a s = true) : (Jvm.Cond.classLink "LineCollector$Log" 9 "LineCollector$Item").before a s = true := h _ (tb 73 rfl rfl)
set_option maxRecDepth 20000 in
theorem k_74 {a : Array Value} {s : State} (h : ∀ w ∈ LW, w.before a s = true) : (Jvm.Cond.fieldLink "LineCollector$Log" 11 "LineCollector$Log" "items" "[LLineCollector$Item;").before a s = true := h _ (tb 74 rfl rfl)
set_option maxRecDepth 20000 in
theorem k_75 {a : Array Value} {s : State} (h : ∀ w ∈ LW, w.before a s = true) : (Jvm.Cond.fieldLink "LineCollector$Log" 17 "LineCollector$Log" "fields" "[I").before a s = true := h _ (tb 75 rfl rfl)
set_option maxRecDepth 20000 in
theorem k_76 {a : Array Value} {s : State} (h : ∀ w ∈ LW, w.before a s = true) : (Jvm.Cond.fieldLink "LineCollector$Log" 21 "LineCollector$Log" "before" "[LLineCollector$Item;").before a s = true := h _ (tb 76 rfl rfl)
set_option maxRecDepth 20000 in
theorem k_77 {a : Array Value} {s : State} (h : ∀ w ∈ LW, w.before a s = true) : (Jvm.Cond.fieldLink "LineCollector$Log" 24 "LineCollector$Log" "length" "I").before a s = true := h _ (tb 77 rfl rfl)
set_option maxRecDepth 20000 in
theorem k_78 {a : Array Value} {s : State} (h : ∀ w ∈ LW, w.before a s = true) : (Jvm.Cond.fieldLink "LineCollector" 184 "LineCollector$Log" "length" "I").before a s = true := h _ (tb 78 rfl rfl)
set_option maxRecDepth 20000 in
theorem k_88 {a : Array Value} {s : State} (h : ∀ w ∈ LW, w.before a s = true) : (Jvm.Cond.classLink "LineCollector" 35 "LineCollector$Row").before a s = true := h _ (tb 88 rfl rfl)
set_option maxRecDepth 20000 in
theorem k_90 {a : Array Value} {s : State} (h : ∀ w ∈ LW, w.before a s = true) : (Jvm.Cond.methodLinkNest "LineCollector" 37 ⟨"LineCollector$Row", "<init>", "()V"⟩ "LineCollector").before a s = true := h _ (tb 90 rfl rfl)
set_option maxRecDepth 20000 in
theorem k_93 {a : Array Value} {s : State} (h : ∀ w ∈ LW, w.before a s = true) : (Jvm.Cond.methodLink "LineCollector$Row" 3 ⟨"java/lang/Object", "<init>", "()V"⟩).before a s = true := h _ (tb 93 rfl rfl)
set_option maxRecDepth 20000 in
theorem k_94 {a : Array Value} {s : State} (h : ∀ w ∈ LW, w.before a s = true) : (Jvm.Cond.classLink "LineCollector$Row" 9 "LineCollector$Item").before a s = true := h _ (tb 94 rfl rfl)
set_option maxRecDepth 20000 in
theorem k_95 {a : Array Value} {s : State} (h : ∀ w ∈ LW, w.before a s = true) : (Jvm.Cond.fieldLink "LineCollector$Row" 11 "LineCollector$Row" "items" "[LLineCollector$Item;").before a s = true := h _ (tb 95 rfl rfl)
set_option maxRecDepth 20000 in
theorem k_96 {a : Array Value} {s : State} (h : ∀ w ∈ LW, w.before a s = true) : (Jvm.Cond.fieldLink "LineCollector$Row" 21 "LineCollector$Row" "first" "I").before a s = true := h _ (tb 96 rfl rfl)
set_option maxRecDepth 20000 in
theorem k_97 {a : Array Value} {s : State} (h : ∀ w ∈ LW, w.before a s = true) : (Jvm.Cond.fieldLink "LineCollector$Row" 17 "LineCollector$Row" "length" "I").before a s = true := h _ (tb 97 rfl rfl)
set_option maxRecDepth 20000 in
theorem k_98 {a : Array Value} {s : State} (h : ∀ w ∈ LW, w.before a s = true) : (Jvm.Cond.fieldLink "LineCollector" 95 "LineCollector$Row" "length" "I").before a s = true := h _ (tb 98 rfl rfl)
set_option maxRecDepth 20000 in
theorem k_106 {a : Array Value} {s : State} (h : ∀ w ∈ LW, w.before a s = true) : (Jvm.Cond.fieldLink "LineCollector" 11 "LineCollector" "roots" "[LLineCollector$Item;").before a s = true := h _ (tb 106 rfl rfl)
set_option maxRecDepth 20000 in
theorem k_107 {a : Array Value} {s : State} (h : ∀ w ∈ LW, w.before a s = true) : (Jvm.Cond.fieldLink "LineCollector" 15 "LineCollector" "rootsAtLastPause" "[LLineCollector$Item;").before a s = true := h _ (tb 107 rfl rfl)
set_option maxRecDepth 20000 in
theorem k_108 {a : Array Value} {s : State} (h : ∀ w ∈ LW, w.before a s = true) : (Jvm.Cond.fieldLink "LineCollector" 18 "LineCollector" "itemAt" "[LLineCollector$Item;").before a s = true := h _ (tb 108 rfl rfl)
set_option maxRecDepth 20000 in
theorem k_109 {a : Array Value} {s : State} (h : ∀ w ∈ LW, w.before a s = true) : (Jvm.Cond.fieldLink "LineCollector" 24 "LineCollector" "places" "LLineCollector$Places;").before a s = true := h _ (tb 109 rfl rfl)
set_option maxRecDepth 20000 in
theorem k_110 {a : Array Value} {s : State} (h : ∀ w ∈ LW, w.before a s = true) : (Jvm.Cond.fieldLink "LineCollector" 31 "LineCollector" "log" "LLineCollector$Log;").before a s = true := h _ (tb 110 rfl rfl)
set_option maxRecDepth 20000 in
theorem k_111 {a : Array Value} {s : State} (h : ∀ w ∈ LW, w.before a s = true) : (Jvm.Cond.fieldLink "LineCollector" 38 "LineCollector" "waiting" "LLineCollector$Row;").before a s = true := h _ (tb 111 rfl rfl)
set_option maxRecDepth 20000 in
theorem k_112 {a : Array Value} {s : State} (h : ∀ w ∈ LW, w.before a s = true) : (Jvm.Cond.fieldLink "LineCollector" 42 "LineCollector" "slots" "LLineCollector$Row;").before a s = true := h _ (tb 112 rfl rfl)
set_option maxRecDepth 20000 in
theorem k_113 {a : Array Value} {s : State} (h : ∀ w ∈ LW, w.before a s = true) : (Jvm.Cond.fieldLink "LineCollector" 99 "LineCollector" "traceRuns" "Z").before a s = true := h _ (tb 113 rfl rfl)
set_option maxRecDepth 20000 in
theorem k_114 {a : Array Value} {s : State} (h : ∀ w ∈ LW, w.before a s = true) : (Jvm.Cond.fieldLink "LineCollector" 113 "LineCollector" "pauses" "I").before a s = true := h _ (tb 114 rfl rfl)
set_option maxRecDepth 20000 in
theorem k_115 {a : Array Value} {s : State} (h : ∀ w ∈ LW, w.before a s = true) : (Jvm.Cond.fieldLink "LineCollector" 185 "LineCollector" "moves" "I").before a s = true := h _ (tb 115 rfl rfl)
set_option maxRecDepth 20000 in
theorem k_116 {a : Array Value} {s : State} (h : ∀ w ∈ LW, w.before a s = true) : (Jvm.Cond.fieldLink "LineCollector" 188 "LineCollector" "goneAsWhite" "I").before a s = true := h _ (tb 116 rfl rfl)
set_option maxRecDepth 20000 in
theorem k_140 {a : Array Value} {s : State} (h : ∀ w ∈ LW, w.before a s = true) : (Jvm.Cond.methodLink "LineCollectorLaw" 97 ⟨"LineCollector", "pause", "(Z)I"⟩).before a s = true := h _ (tb 140 rfl rfl)
set_option maxRecDepth 20000 in
theorem k_144 {a : Array Value} {s : State} (h : ∀ w ∈ LW, w.before a s = true) : (Jvm.Cond.constant "LineCollector" 116 (1000000 : Int32)).before a s = true := h _ (tb 144 rfl rfl)
set_option maxRecDepth 20000 in
theorem k_145 {a : Array Value} {s : State} (h : ∀ w ∈ LW, w.before a s = true) : (Jvm.Cond.methodLink "LineCollector" 91 ⟨"LineCollector", "drainUpTo", "(I)V"⟩).before a s = true := h _ (tb 145 rfl rfl)
set_option maxRecDepth 20000 in
theorem k_149 {a : Array Value} {s : State} (h : ∀ w ∈ LW, w.before a s = true) : (Jvm.Cond.methodLink "LineCollector" 207 ⟨"LineCollector$Row", "takeFirst", "()LLineCollector$Item;"⟩).before a s = true := h _ (tb 149 rfl rfl)
set_option maxRecDepth 20000 in
theorem k_153 {a : Array Value} {s : State} (h : ∀ w ∈ LW, w.before a s = true) : (Jvm.Cond.methodLink "LineCollector" 211 ⟨"LineCollector", "letGo", "(LLineCollector$Item;)V"⟩).before a s = true := h _ (tb 153 rfl rfl)
set_option maxRecDepth 20000 in
theorem k_157 {a : Array Value} {s : State} (h : ∀ w ∈ LW, w.before a s = true) : (Jvm.Cond.methodLink "LineCollector" 215 ⟨"LineCollector", "remove", "(LLineCollector$Item;)V"⟩).before a s = true := h _ (tb 157 rfl rfl)
set_option maxRecDepth 20000 in
theorem k_161 {a : Array Value} {s : State} (h : ∀ w ∈ LW, w.before a s = true) : (Jvm.Cond.methodLink "LineCollector" 200 ⟨"LineCollector$Places", "vacate", "(II)V"⟩).before a s = true := h _ (tb 161 rfl rfl)
set_option maxRecDepth 20000 in
theorem k_165 {a : Array Value} {s : State} (h : ∀ w ∈ LW, w.before a s = true) : (Jvm.Cond.methodLink "LineCollector" 218 ⟨"LineCollector$Row", "add", "(LLineCollector$Item;)V"⟩).before a s = true := h _ (tb 165 rfl rfl)
set_option maxRecDepth 20000 in
theorem k_169 {a : Array Value} {s : State} (h : ∀ w ∈ LW, w.before a s = true) : (Jvm.Cond.methodLink "LineCollector" 220 ⟨"LineCollector$Item", "turnGreyIfWhite", "()V"⟩).before a s = true := h _ (tb 169 rfl rfl)
set_option maxRecDepth 20000 in
theorem k_173 {a : Array Value} {s : State} (h : ∀ w ∈ LW, w.before a s = true) : (Jvm.Cond.methodLink "LineCollector$Item" 36 ⟨"LineCollector$Item", "isWhite", "()Z"⟩).before a s = true := h _ (tb 173 rfl rfl)
set_option maxRecDepth 20000 in
theorem k_177 {a : Array Value} {s : State} (h : ∀ w ∈ LW, w.before a s = true) : (Jvm.Cond.methodLink "LineCollector$Item" 29 ⟨"LineCollector$Item", "isOld", "()Z"⟩).before a s = true := h _ (tb 177 rfl rfl)
set_option maxRecDepth 20000 in
theorem k_181 {a : Array Value} {s : State} (h : ∀ w ∈ LW, w.before a s = true) : (Jvm.Cond.methodLink "LineCollector" 117 ⟨"LineCollector$Places", "close", "()V"⟩).before a s = true := h _ (tb 181 rfl rfl)
set_option maxRecDepth 20000 in
theorem k_185 {a : Array Value} {s : State} (h : ∀ w ∈ LW, w.before a s = true) : (Jvm.Cond.methodLink "LineCollector$Places" 37 ⟨"LineCollector$Span", "open", "(II)V"⟩).before a s = true := h _ (tb 185 rfl rfl)
set_option maxRecDepth 20000 in
theorem k_189 {a : Array Value} {s : State} (h : ∀ w ∈ LW, w.before a s = true) : (Jvm.Cond.methodLink "LineCollector" 120 ⟨"LineCollector", "countSlots", "()I"⟩).before a s = true := h _ (tb 189 rfl rfl)
set_option maxRecDepth 20000 in
theorem k_193 {a : Array Value} {s : State} (h : ∀ w ∈ LW, w.before a s = true) : (Jvm.Cond.methodLink "LineCollector" 229 ⟨"LineCollector", "gatherSlots", "()V"⟩).before a s = true := h _ (tb 193 rfl rfl)
set_option maxRecDepth 20000 in
theorem k_197 {a : Array Value} {s : State} (h : ∀ w ∈ LW, w.before a s = true) : (Jvm.Cond.methodLink "LineCollector" 253 ⟨"LineCollector$Row", "clear", "()V"⟩).before a s = true := h _ (tb 197 rfl rfl)
set_option maxRecDepth 20000 in
theorem k_201 {a : Array Value} {s : State} (h : ∀ w ∈ LW, w.before a s = true) : (Jvm.Cond.methodLink "LineCollector" 256 ⟨"LineCollector$Log", "heldNow", "(I)LLineCollector$Item;"⟩).before a s = true := h _ (tb 201 rfl rfl)
set_option maxRecDepth 20000 in
theorem k_205 {a : Array Value} {s : State} (h : ∀ w ∈ LW, w.before a s = true) : (Jvm.Cond.methodLink "LineCollector" 232 ⟨"LineCollector$Row", "get", "(I)LLineCollector$Item;"⟩).before a s = true := h _ (tb 205 rfl rfl)
set_option maxRecDepth 20000 in
theorem k_209 {a : Array Value} {s : State} (h : ∀ w ∈ LW, w.before a s = true) : (Jvm.Cond.methodLink "LineCollector" 80 ⟨"LineCollector$Item", "isOld", "()Z"⟩).before a s = true := h _ (tb 209 rfl rfl)
set_option maxRecDepth 20000 in
theorem k_210 {a : Array Value} {s : State} (h : ∀ w ∈ LW, w.before a s = true) : (Jvm.Cond.methodLink "LineCollector" 235 ⟨"java/lang/Math", "min", "(II)I"⟩).before a s = true := h _ (tb 210 rfl rfl)
set_option maxRecDepth 20000 in
theorem k_213 {a : Array Value} {s : State} (h : ∀ w ∈ LW, w.before a s = true) : (Jvm.Cond.methodLink "LineCollector" 241 ⟨"LineCollector$Item", "growOld", "(I)V"⟩).before a s = true := h _ (tb 213 rfl rfl)
set_option maxRecDepth 20000 in
theorem k_217 {a : Array Value} {s : State} (h : ∀ w ∈ LW, w.before a s = true) : (Jvm.Cond.methodLink "LineCollector" 52 ⟨"LineCollector$Places", "find", "(I)I"⟩).before a s = true := h _ (tb 217 rfl rfl)
set_option maxRecDepth 20000 in
theorem k_221 {a : Array Value} {s : State} (h : ∀ w ∈ LW, w.before a s = true) : (Jvm.Cond.methodLink "LineCollector$Places" 41 ⟨"LineCollector$Span", "has", "(I)Z"⟩).before a s = true := h _ (tb 221 rfl rfl)
set_option maxRecDepth 20000 in
theorem k_225 {a : Array Value} {s : State} (h : ∀ w ∈ LW, w.before a s = true) : (Jvm.Cond.methodLink "LineCollector$Places" 44 ⟨"LineCollector$Span", "take", "(I)I"⟩).before a s = true := h _ (tb 225 rfl rfl)
set_option maxRecDepth 20000 in
theorem k_229 {a : Array Value} {s : State} (h : ∀ w ∈ LW, w.before a s = true) : (Jvm.Cond.methodLink "LineCollector$Places" 48 ⟨"LineCollector$Places", "openHole", "()Z"⟩).before a s = true := h _ (tb 229 rfl rfl)
set_option maxRecDepth 20000 in
theorem k_233 {a : Array Value} {s : State} (h : ∀ w ∈ LW, w.before a s = true) : (Jvm.Cond.methodLink "LineCollector$Places" 55 ⟨"LineCollector$Span", "endLine", "()I"⟩).before a s = true := h _ (tb 233 rfl rfl)
set_option maxRecDepth 20000 in
theorem k_237 {a : Array Value} {s : State} (h : ∀ w ∈ LW, w.before a s = true) : (Jvm.Cond.methodLink "LineCollector$Places" 59 ⟨"LineCollector$Places", "isFree", "(I)Z"⟩).before a s = true := h _ (tb 237 rfl rfl)
set_option maxRecDepth 20000 in
theorem k_241 {a : Array Value} {s : State} (h : ∀ w ∈ LW, w.before a s = true) : (Jvm.Cond.methodLink "LineCollector$Places" 33 ⟨"LineCollector$Span", "covers", "(I)Z"⟩).before a s = true := h _ (tb 241 rfl rfl)
set_option maxRecDepth 20000 in
theorem k_245 {a : Array Value} {s : State} (h : ∀ w ∈ LW, w.before a s = true) : (Jvm.Cond.methodLink "LineCollector$Places" 52 ⟨"LineCollector$Places", "openOverflow", "()Z"⟩).before a s = true := h _ (tb 245 rfl rfl)
set_option maxRecDepth 20000 in
theorem k_249 {a : Array Value} {s : State} (h : ∀ w ∈ LW, w.before a s = true) : (Jvm.Cond.methodLink "LineCollector" 244 ⟨"LineCollector", "moveTo", "(LLineCollector$Item;I)V"⟩).before a s = true := h _ (tb 249 rfl rfl)
set_option maxRecDepth 20000 in
theorem k_253 {a : Array Value} {s : State} (h : ∀ w ∈ LW, w.before a s = true) : (Jvm.Cond.methodLink "LineCollector" 197 ⟨"LineCollector$Places", "moveOut", "(II)V"⟩).before a s = true := h _ (tb 253 rfl rfl)
set_option maxRecDepth 20000 in
theorem k_257 {a : Array Value} {s : State} (h : ∀ w ∈ LW, w.before a s = true) : (Jvm.Cond.methodLink "LineCollector" 65 ⟨"LineCollector", "settle", "(LLineCollector$Item;I)V"⟩).before a s = true := h _ (tb 257 rfl rfl)
set_option maxRecDepth 20000 in
theorem k_261 {a : Array Value} {s : State} (h : ∀ w ∈ LW, w.before a s = true) : (Jvm.Cond.methodLink "LineCollector" 194 ⟨"LineCollector$Places", "occupy", "(II)V"⟩).before a s = true := h _ (tb 261 rfl rfl)
set_option maxRecDepth 20000 in
theorem k_265 {a : Array Value} {s : State} (h : ∀ w ∈ LW, w.before a s = true) : (Jvm.Cond.methodLink "LineCollector" 247 ⟨"LineCollector", "addFieldsToSlots", "(LLineCollector$Item;)V"⟩).before a s = true := h _ (tb 265 rfl rfl)
set_option maxRecDepth 20000 in
theorem k_269 {a : Array Value} {s : State} (h : ∀ w ∈ LW, w.before a s = true) : (Jvm.Cond.methodLink "LineCollector" 250 ⟨"LineCollector$Places", "forgetMovedOut", "()V"⟩).before a s = true := h _ (tb 269 rfl rfl)
set_option maxRecDepth 20000 in
theorem k_273 {a : Array Value} {s : State} (h : ∀ w ∈ LW, w.before a s = true) : (Jvm.Cond.methodLink "LineCollector" 123 ⟨"LineCollector", "loseYoung", "()V"⟩).before a s = true := h _ (tb 273 rfl rfl)
set_option maxRecDepth 20000 in
theorem k_277 {a : Array Value} {s : State} (h : ∀ w ∈ LW, w.before a s = true) : (Jvm.Cond.methodLink "LineCollector" 126 ⟨"LineCollector", "queueRootsAndLog", "()V"⟩).before a s = true := h _ (tb 277 rfl rfl)
set_option maxRecDepth 20000 in
theorem k_281 {a : Array Value} {s : State} (h : ∀ w ∈ LW, w.before a s = true) : (Jvm.Cond.methodLink "LineCollector" 259 ⟨"LineCollector$Log", "heldBefore", "(I)LLineCollector$Item;"⟩).before a s = true := h _ (tb 281 rfl rfl)
set_option maxRecDepth 20000 in
theorem k_285 {a : Array Value} {s : State} (h : ∀ w ∈ LW, w.before a s = true) : (Jvm.Cond.methodLink "LineCollector" 262 ⟨"LineCollector$Log", "clear", "()V"⟩).before a s = true := h _ (tb 285 rfl rfl)
set_option maxRecDepth 20000 in
theorem k_289 {a : Array Value} {s : State} (h : ∀ w ∈ LW, w.before a s = true) : (Jvm.Cond.methodLink "LineCollector" 109 ⟨"LineCollector", "countGrey", "()I"⟩).before a s = true := h _ (tb 289 rfl rfl)
set_option maxRecDepth 20000 in
theorem k_293 {a : Array Value} {s : State} (h : ∀ w ∈ LW, w.before a s = true) : (Jvm.Cond.methodLink "LineCollector" 129 ⟨"LineCollector", "loseWhite", "()V"⟩).before a s = true := h _ (tb 293 rfl rfl)
set_option maxRecDepth 20000 in
theorem k_297 {a : Array Value} {s : State} (h : ∀ w ∈ LW, w.before a s = true) : (Jvm.Cond.methodLink "LineCollector" 263 ⟨"LineCollector$Item", "isWhite", "()Z"⟩).before a s = true := h _ (tb 297 rfl rfl)
set_option maxRecDepth 20000 in
theorem k_298 {a : Array Value} {s : State} (h : ∀ w ∈ LW, w.before a s = true) : (Jvm.Cond.methodLink "LineCollector" 132 ⟨"LineCollector", "recountStuck", "()V"⟩).before a s = true := h _ (tb 298 rfl rfl)
set_option maxRecDepth 20000 in
theorem k_302 {a : Array Value} {s : State} (h : ∀ w ∈ LW, w.before a s = true) : (Jvm.Cond.methodLink "LineCollector" 266 ⟨"LineCollector", "countHolders", "(LLineCollector$Item;)I"⟩).before a s = true := h _ (tb 302 rfl rfl)
set_option maxRecDepth 20000 in
theorem k_306 {a : Array Value} {s : State} (h : ∀ w ∈ LW, w.before a s = true) : (Jvm.Cond.methodLink "LineCollector" 269 ⟨"LineCollector$Row", "countOf", "(LLineCollector$Item;)I"⟩).before a s = true := h _ (tb 306 rfl rfl)
set_option maxRecDepth 20000 in
theorem k_310 {a : Array Value} {s : State} (h : ∀ w ∈ LW, w.before a s = true) : (Jvm.Cond.methodLink "LineCollector" 272 ⟨"LineCollector$Item", "countFieldsHolding", "(LLineCollector$Item;)I"⟩).before a s = true := h _ (tb 310 rfl rfl)
set_option maxRecDepth 20000 in
theorem k_314 {a : Array Value} {s : State} (h : ∀ w ∈ LW, w.before a s = true) : (Jvm.Cond.methodLink "LineCollector" 135 ⟨"LineCollector", "whitenAll", "()V"⟩).before a s = true := h _ (tb 314 rfl rfl)
set_option maxRecDepth 20000 in
theorem k_318 {a : Array Value} {s : State} (h : ∀ w ∈ LW, w.before a s = true) : (Jvm.Cond.methodLink "LineCollector" 138 ⟨"LineCollector", "clearSparsestBlock", "()V"⟩).before a s = true := h _ (tb 318 rfl rfl)
set_option maxRecDepth 20000 in
theorem k_322 {a : Array Value} {s : State} (h : ∀ w ∈ LW, w.before a s = true) : (Jvm.Cond.methodLink "LineCollector" 275 ⟨"LineCollector$Places", "sparsestBlock", "()I"⟩).before a s = true := h _ (tb 322 rfl rfl)
set_option maxRecDepth 20000 in
theorem k_326 {a : Array Value} {s : State} (h : ∀ w ∈ LW, w.before a s = true) : (Jvm.Cond.methodLink "LineCollector$Places" 62 ⟨"LineCollector$Places", "usedLines", "(I)I"⟩).before a s = true := h _ (tb 326 rfl rfl)
set_option maxRecDepth 20000 in
theorem k_330 {a : Array Value} {s : State} (h : ∀ w ∈ LW, w.before a s = true) : (Jvm.Cond.methodLink "LineCollector$Places" 65 ⟨"LineCollector$Places", "isUsed", "(I)Z"⟩).before a s = true := h _ (tb 330 rfl rfl)
set_option maxRecDepth 20000 in
theorem k_334 {a : Array Value} {s : State} (h : ∀ w ∈ LW, w.before a s = true) : (Jvm.Cond.methodLink "LineCollector" 278 ⟨"LineCollector$Places", "shut", "(I)V"⟩).before a s = true := h _ (tb 334 rfl rfl)
set_option maxRecDepth 20000 in
theorem k_338 {a : Array Value} {s : State} (h : ∀ w ∈ LW, w.before a s = true) : (Jvm.Cond.methodLink "LineCollector" 141 ⟨"LineCollector", "beginTrace", "()V"⟩).before a s = true := h _ (tb 338 rfl rfl)
set_option maxRecDepth 20000 in
theorem k_342 {a : Array Value} {s : State} (h : ∀ w ∈ LW, w.before a s = true) : (Jvm.Cond.methodLink "LineCollector" 144 ⟨"LineCollector", "rememberRoots", "()V"⟩).before a s = true := h _ (tb 342 rfl rfl)
set_option maxRecDepth 20000 in
theorem k_346 {a : Array Value} {s : State} (h : ∀ w ∈ LW, w.before a s = true) : (Jvm.Cond.methodLink "LineCollectorLaw" 65 ⟨"LineCollectorLaw", "allocate", "(LLineCollector;III[J)I"⟩).before a s = true := h _ (tb 346 rfl rfl)
set_option maxRecDepth 20000 in
theorem k_349 {a : Array Value} {s : State} (h : ∀ w ∈ LW, w.before a s = true) : (Jvm.Cond.classLink "LineCollectorLaw" 13 "java/lang/IllegalArgumentException").before a s = true := h _ (tb 349 rfl rfl)
set_option maxRecDepth 20000 in
theorem k_350 {a : Array Value} {s : State} (h : ∀ w ∈ LW, w.before a s = true) : (Jvm.Cond.classLink "LineCollectorLaw" 15 "java/lang/UnsupportedOperationException").before a s = true := h _ (tb 350 rfl rfl)
set_option maxRecDepth 20000 in
theorem k_351 {a : Array Value} {s : State} (h : ∀ w ∈ LW, w.before a s = true) : (Jvm.Cond.methodLink "LineCollectorLaw" 7 ⟨"LineCollector", "allocate", "(III)I"⟩).before a s = true := h _ (tb 351 rfl rfl)
set_option maxRecDepth 20000 in
theorem k_355 {a : Array Value} {s : State} (h : ∀ w ∈ LW, w.before a s = true) : (Jvm.Cond.methodLink "LineCollector" 45 ⟨"LineCollector", "isRoot", "(I)Z"⟩).before a s = true := h _ (tb 355 rfl rfl)
set_option maxRecDepth 20000 in
theorem k_358 {a : Array Value} {s : State} (h : ∀ w ∈ LW, w.before a s = true) : (Jvm.Cond.classLink "LineCollector" 49 "java/lang/IllegalArgumentException").before a s = true := h _ (tb 358 rfl rfl)
set_option maxRecDepth 20000 in
theorem k_360 {a : Array Value} {s : State} (h : ∀ w ∈ LW, w.before a s = true) : (Jvm.Cond.castable "java/lang/IllegalArgumentException" "java/lang/IllegalArgumentException").before a s = true := h _ (tb 360 rfl rfl)
set_option maxRecDepth 20000 in
theorem k_423 {a : Array Value} {s : State} (h : ∀ w ∈ LW, w.before a s = true) : (Jvm.Cond.methodLink "LineCollector" 56 ⟨"LineCollector", "collect", "()V"⟩).before a s = true := h _ (tb 423 rfl rfl)
set_option maxRecDepth 20000 in
theorem k_427 {a : Array Value} {s : State} (h : ∀ w ∈ LW, w.before a s = true) : (Jvm.Cond.methodLink "LineCollector" 203 ⟨"LineCollector", "pause", "(Z)I"⟩).before a s = true := h _ (tb 427 rfl rfl)
set_option maxRecDepth 20000 in
theorem k_428 {a : Array Value} {s : State} (h : ∀ w ∈ LW, w.before a s = true) : (Jvm.Cond.methodLink "LineCollector" 106 ⟨"LineCollector", "stepUpTo", "(I)V"⟩).before a s = true := h _ (tb 428 rfl rfl)
set_option maxRecDepth 20000 in
theorem k_432 {a : Array Value} {s : State} (h : ∀ w ∈ LW, w.before a s = true) : (Jvm.Cond.methodLink "LineCollector" 223 ⟨"LineCollector", "blackenFirstGrey", "()Z"⟩).before a s = true := h _ (tb 432 rfl rfl)
set_option maxRecDepth 20000 in
theorem k_436 {a : Array Value} {s : State} (h : ∀ w ∈ LW, w.before a s = true) : (Jvm.Cond.methodLink "LineCollector" 226 ⟨"LineCollector", "blacken", "(LLineCollector$Item;)V"⟩).before a s = true := h _ (tb 436 rfl rfl)
set_option maxRecDepth 20000 in
theorem k_439 {a : Array Value} {s : State} (h : ∀ w ∈ LW, w.before a s = true) : (Jvm.Cond.classLink "LineCollector" 59 "java/lang/UnsupportedOperationException").before a s = true := h _ (tb 439 rfl rfl)
set_option maxRecDepth 20000 in
theorem k_441 {a : Array Value} {s : State} (h : ∀ w ∈ LW, w.before a s = true) : (Jvm.Cond.castable "java/lang/UnsupportedOperationException" "java/lang/UnsupportedOperationException").before a s = true := h _ (tb 441 rfl rfl)
set_option maxRecDepth 20000 in
theorem k_455 {a : Array Value} {s : State} (h : ∀ w ∈ LW, w.before a s = true) : (Jvm.Cond.methodLink "LineCollector" 62 ⟨"LineCollector$Item", "<init>", "(II)V"⟩).before a s = true := h _ (tb 455 rfl rfl)
set_option maxRecDepth 20000 in
theorem k_458 {a : Array Value} {s : State} (h : ∀ w ∈ LW, w.before a s = true) : (Jvm.Cond.methodLink "LineCollector$Item" 3 ⟨"java/lang/Object", "<init>", "()V"⟩).before a s = true := h _ (tb 458 rfl rfl)
set_option maxRecDepth 20000 in
theorem k_459 {a : Array Value} {s : State} (h : ∀ w ∈ LW, w.before a s = true) : (Jvm.Cond.classLink "LineCollector$Item" 10 "LineCollector$Item").before a s = true := h _ (tb 459 rfl rfl)
set_option maxRecDepth 20000 in
theorem k_460 {a : Array Value} {s : State} (h : ∀ w ∈ LW, w.before a s = true) : (Jvm.Cond.fieldLink "LineCollector$Item" 9 "LineCollector$Item" "size" "I").before a s = true := h _ (tb 460 rfl rfl)
set_option maxRecDepth 20000 in
theorem k_461 {a : Array Value} {s : State} (h : ∀ w ∈ LW, w.before a s = true) : (Jvm.Cond.fieldLink "LineCollector" 160 "LineCollector$Item" "size" "I").before a s = true := h _ (tb 461 rfl rfl)
set_option maxRecDepth 20000 in
theorem k_462 {a : Array Value} {s : State} (h : ∀ w ∈ LW, w.before a s = true) : (Jvm.Cond.fieldLink "LineCollector$Item" 15 "LineCollector$Item" "tag" "I").before a s = true := h _ (tb 462 rfl rfl)
set_option maxRecDepth 20000 in
theorem k_463 {a : Array Value} {s : State} (h : ∀ w ∈ LW, w.before a s = true) : (Jvm.Cond.fieldLink "LineCollector" 163 "LineCollector$Item" "tag" "I").before a s = true := h _ (tb 463 rfl rfl)
set_option maxRecDepth 20000 in
theorem k_464 {a : Array Value} {s : State} (h : ∀ w ∈ LW, w.before a s = true) : (Jvm.Cond.fieldLink "LineCollector$Item" 18 "LineCollector$Item" "held" "[LLineCollector$Item;").before a s = true := h _ (tb 464 rfl rfl)
set_option maxRecDepth 20000 in
theorem k_465 {a : Array Value} {s : State} (h : ∀ w ∈ LW, w.before a s = true) : (Jvm.Cond.fieldLink "LineCollector$Log" 28 "LineCollector$Item" "held" "[LLineCollector$Item;").before a s = true := h _ (tb 465 rfl rfl)
set_option maxRecDepth 20000 in
theorem k_466 {a : Array Value} {s : State} (h : ∀ w ∈ LW, w.before a s = true) : (Jvm.Cond.fieldLink "LineCollector" 73 "LineCollector$Item" "held" "[LLineCollector$Item;").before a s = true := h _ (tb 466 rfl rfl)
set_option maxRecDepth 20000 in
theorem k_467 {a : Array Value} {s : State} (h : ∀ w ∈ LW, w.before a s = true) : (Jvm.Cond.fieldLink "LineCollector$Item" 22 "LineCollector$Item" "logged" "[Z").before a s = true := h _ (tb 467 rfl rfl)
set_option maxRecDepth 20000 in
theorem k_468 {a : Array Value} {s : State} (h : ∀ w ∈ LW, w.before a s = true) : (Jvm.Cond.fieldLink "LineCollector$Log" 31 "LineCollector$Item" "logged" "[Z").before a s = true := h _ (tb 468 rfl rfl)
set_option maxRecDepth 20000 in
theorem k_469 {a : Array Value} {s : State} (h : ∀ w ∈ LW, w.before a s = true) : (Jvm.Cond.fieldLink "LineCollector" 84 "LineCollector$Item" "logged" "[Z").before a s = true := h _ (tb 469 rfl rfl)
set_option maxRecDepth 20000 in
theorem k_470 {a : Array Value} {s : State} (h : ∀ w ∈ LW, w.before a s = true) : (Jvm.Cond.fieldLink "LineCollector" 191 "LineCollector$Item" "address" "I").before a s = true := h _ (tb 470 rfl rfl)
set_option maxRecDepth 20000 in
theorem k_471 {a : Array Value} {s : State} (h : ∀ w ∈ LW, w.before a s = true) : (Jvm.Cond.fieldLink "LineCollector$Item" 26 "LineCollector$Item" "count" "I").before a s = true := h _ (tb 471 rfl rfl)
set_option maxRecDepth 20000 in
theorem k_472 {a : Array Value} {s : State} (h : ∀ w ∈ LW, w.before a s = true) : (Jvm.Cond.fieldLink "LineCollector" 166 "LineCollector$Item" "count" "I").before a s = true := h _ (tb 472 rfl rfl)
set_option maxRecDepth 20000 in
theorem k_473 {a : Array Value} {s : State} (h : ∀ w ∈ LW, w.before a s = true) : (Jvm.Cond.fieldLink "LineCollector$Item" 33 "LineCollector$Item" "colour" "I").before a s = true := h _ (tb 473 rfl rfl)
set_option maxRecDepth 20000 in
theorem k_474 {a : Array Value} {s : State} (h : ∀ w ∈ LW, w.before a s = true) : (Jvm.Cond.fieldLink "LineCollector" 169 "LineCollector$Item" "colour" "I").before a s = true := h _ (tb 474 rfl rfl)
set_option maxRecDepth 20000 in
theorem k_490 {a : Array Value} {s : State} (h : ∀ w ∈ LW, w.before a s = true) : (Jvm.Cond.methodLink "LineCollectorLaw" 75 ⟨"LineCollectorLaw", "drop", "(LLineCollector;I)I"⟩).before a s = true := h _ (tb 490 rfl rfl)
set_option maxRecDepth 20000 in
theorem k_493 {a : Array Value} {s : State} (h : ∀ w ∈ LW, w.before a s = true) : (Jvm.Cond.methodLink "LineCollectorLaw" 17 ⟨"LineCollector", "drop", "(I)V"⟩).before a s = true := h _ (tb 493 rfl rfl)
set_option maxRecDepth 20000 in
theorem k_497 {a : Array Value} {s : State} (h : ∀ w ∈ LW, w.before a s = true) : (Jvm.Cond.methodLink "LineCollectorLaw" 79 ⟨"LineCollectorLaw", "copy", "(LLineCollector;II)I"⟩).before a s = true := h _ (tb 497 rfl rfl)
set_option maxRecDepth 20000 in
theorem k_500 {a : Array Value} {s : State} (h : ∀ w ∈ LW, w.before a s = true) : (Jvm.Cond.methodLink "LineCollectorLaw" 21 ⟨"LineCollector", "copy", "(II)V"⟩).before a s = true := h _ (tb 500 rfl rfl)
set_option maxRecDepth 20000 in
theorem k_504 {a : Array Value} {s : State} (h : ∀ w ∈ LW, w.before a s = true) : (Jvm.Cond.methodLink "LineCollectorLaw" 83 ⟨"LineCollectorLaw", "load", "(LLineCollector;III[J)I"⟩).before a s = true := h _ (tb 504 rfl rfl)
set_option maxRecDepth 20000 in
theorem k_507 {a : Array Value} {s : State} (h : ∀ w ∈ LW, w.before a s = true) : (Jvm.Cond.classLink "LineCollectorLaw" 28 "java/lang/IllegalStateException").before a s = true := h _ (tb 507 rfl rfl)
set_option maxRecDepth 20000 in
theorem k_508 {a : Array Value} {s : State} (h : ∀ w ∈ LW, w.before a s = true) : (Jvm.Cond.classLink "LineCollectorLaw" 30 "java/lang/IndexOutOfBoundsException").before a s = true := h _ (tb 508 rfl rfl)
set_option maxRecDepth 20000 in
theorem k_509 {a : Array Value} {s : State} (h : ∀ w ∈ LW, w.before a s = true) : (Jvm.Cond.methodLink "LineCollectorLaw" 25 ⟨"LineCollector", "load", "(III)I"⟩).before a s = true := h _ (tb 509 rfl rfl)
set_option maxRecDepth 20000 in
theorem k_513 {a : Array Value} {s : State} (h : ∀ w ∈ LW, w.before a s = true) : (Jvm.Cond.methodLink "LineCollector" 69 ⟨"LineCollector", "itemWithField", "(III)LLineCollector$Item;"⟩).before a s = true := h _ (tb 513 rfl rfl)
set_option maxRecDepth 20000 in
theorem k_517 {a : Array Value} {s : State} (h : ∀ w ∈ LW, w.before a s = true) : (Jvm.Cond.classLink "LineCollector" 103 "java/lang/IllegalStateException").before a s = true := h _ (tb 517 rfl rfl)
set_option maxRecDepth 20000 in
theorem k_519 {a : Array Value} {s : State} (h : ∀ w ∈ LW, w.before a s = true) : (Jvm.Cond.castable "java/lang/IllegalStateException" "java/lang/IllegalStateException").before a s = true := h _ (tb 519 rfl rfl)
set_option maxRecDepth 20000 in
theorem k_532 {a : Array Value} {s : State} (h : ∀ w ∈ LW, w.before a s = true) : (Jvm.Cond.methodLink "LineCollector" 154 ⟨"LineCollector$Item", "hasField", "(I)Z"⟩).before a s = true := h _ (tb 532 rfl rfl)
set_option maxRecDepth 20000 in
theorem k_536 {a : Array Value} {s : State} (h : ∀ w ∈ LW, w.before a s = true) : (Jvm.Cond.classLink "LineCollector" 157 "java/lang/IndexOutOfBoundsException").before a s = true := h _ (tb 536 rfl rfl)
set_option maxRecDepth 20000 in
theorem k_538 {a : Array Value} {s : State} (h : ∀ w ∈ LW, w.before a s = true) : (Jvm.Cond.castable "java/lang/IndexOutOfBoundsException" "java/lang/IndexOutOfBoundsException").before a s = true := h _ (tb 538 rfl rfl)
set_option maxRecDepth 20000 in
theorem k_551 {a : Array Value} {s : State} (h : ∀ w ∈ LW, w.before a s = true) : (Jvm.Cond.methodLink "LineCollector" 76 ⟨"LineCollector", "addressOf", "(LLineCollector$Item;)I"⟩).before a s = true := h _ (tb 551 rfl rfl)
set_option maxRecDepth 20000 in
theorem k_554 {a : Array Value} {s : State} (h : ∀ w ∈ LW, w.before a s = true) : (Jvm.Cond.methodLink "LineCollectorLaw" 86 ⟨"LineCollectorLaw", "store", "(LLineCollector;III)I"⟩).before a s = true := h _ (tb 554 rfl rfl)
set_option maxRecDepth 20000 in
theorem k_557 {a : Array Value} {s : State} (h : ∀ w ∈ LW, w.before a s = true) : (Jvm.Cond.methodLink "LineCollectorLaw" 32 ⟨"LineCollector", "store", "(III)V"⟩).before a s = true := h _ (tb 557 rfl rfl)
set_option maxRecDepth 20000 in
theorem k_561 {a : Array Value} {s : State} (h : ∀ w ∈ LW, w.before a s = true) : (Jvm.Cond.methodLink "LineCollector" 88 ⟨"LineCollector$Log", "add", "(LLineCollector$Item;I)V"⟩).before a s = true := h _ (tb 561 rfl rfl)
set_option maxRecDepth 20000 in
theorem k_565 {a : Array Value} {s : State} (h : ∀ w ∈ LW, w.before a s = true) : (Jvm.Cond.methodLink "LineCollectorLaw" 90 ⟨"LineCollectorLaw", "drain", "(LLineCollector;I[J)I"⟩).before a s = true := h _ (tb 565 rfl rfl)
set_option maxRecDepth 20000 in
theorem k_568 {a : Array Value} {s : State} (h : ∀ w ∈ LW, w.before a s = true) : (Jvm.Cond.methodLink "LineCollectorLaw" 36 ⟨"LineCollector", "drain", "(I)I"⟩).before a s = true := h _ (tb 568 rfl rfl)
set_option maxRecDepth 20000 in
theorem k_572 {a : Array Value} {s : State} (h : ∀ w ∈ LW, w.before a s = true) : (Jvm.Cond.methodLink "LineCollectorLaw" 94 ⟨"LineCollectorLaw", "trace", "(LLineCollector;I[J)I"⟩).before a s = true := h _ (tb 572 rfl rfl)
set_option maxRecDepth 20000 in
theorem k_575 {a : Array Value} {s : State} (h : ∀ w ∈ LW, w.before a s = true) : (Jvm.Cond.methodLink "LineCollectorLaw" 40 ⟨"LineCollector", "trace", "(I)I"⟩).before a s = true := h _ (tb 575 rfl rfl)
set_option maxRecDepth 20000 in
theorem k_579 {a : Array Value} {s : State} (h : ∀ w ∈ LW, w.before a s = true) : (Jvm.Cond.methodLink "LineCollectorLaw" 102 ⟨"LineCollectorLaw", "root", "(LLineCollector;I[J)I"⟩).before a s = true := h _ (tb 579 rfl rfl)
set_option maxRecDepth 20000 in
theorem k_582 {a : Array Value} {s : State} (h : ∀ w ∈ LW, w.before a s = true) : (Jvm.Cond.methodLink "LineCollectorLaw" 43 ⟨"LineCollector", "root", "(I)I"⟩).before a s = true := h _ (tb 582 rfl rfl)
set_option maxRecDepth 20000 in
theorem k_586 {a : Array Value} {s : State} (h : ∀ w ∈ LW, w.before a s = true) : (Jvm.Cond.methodLink "LineCollectorLaw" 105 ⟨"LineCollectorLaw", "field", "(LLineCollector;II[J)I"⟩).before a s = true := h _ (tb 586 rfl rfl)
set_option maxRecDepth 20000 in
theorem k_589 {a : Array Value} {s : State} (h : ∀ w ∈ LW, w.before a s = true) : (Jvm.Cond.classLink "LineCollectorLaw" 50 "java/util/NoSuchElementException").before a s = true := h _ (tb 589 rfl rfl)
set_option maxRecDepth 20000 in
theorem k_590 {a : Array Value} {s : State} (h : ∀ w ∈ LW, w.before a s = true) : (Jvm.Cond.methodLink "LineCollectorLaw" 46 ⟨"LineCollector", "field", "(II)I"⟩).before a s = true := h _ (tb 590 rfl rfl)
set_option maxRecDepth 20000 in
theorem k_594 {a : Array Value} {s : State} (h : ∀ w ∈ LW, w.before a s = true) : (Jvm.Cond.methodLink "LineCollector" 147 ⟨"LineCollector", "itemOrNull", "(I)LLineCollector$Item;"⟩).before a s = true := h _ (tb 594 rfl rfl)
set_option maxRecDepth 20000 in
theorem k_598 {a : Array Value} {s : State} (h : ∀ w ∈ LW, w.before a s = true) : (Jvm.Cond.classLink "LineCollector" 151 "java/util/NoSuchElementException").before a s = true := h _ (tb 598 rfl rfl)
set_option maxRecDepth 20000 in
theorem k_600 {a : Array Value} {s : State} (h : ∀ w ∈ LW, w.before a s = true) : (Jvm.Cond.castable "java/util/NoSuchElementException" "java/util/NoSuchElementException").before a s = true := h _ (tb 600 rfl rfl)
set_option maxRecDepth 20000 in
theorem k_613 {a : Array Value} {s : State} (h : ∀ w ∈ LW, w.before a s = true) : (Jvm.Cond.methodLink "LineCollectorLaw" 109 ⟨"LineCollectorLaw", "object", "(LLineCollector;II[J)I"⟩).before a s = true := h _ (tb 613 rfl rfl)
set_option maxRecDepth 20000 in
theorem k_616 {a : Array Value} {s : State} (h : ∀ w ∈ LW, w.before a s = true) : (Jvm.Cond.methodLink "LineCollectorLaw" 52 ⟨"LineCollector", "object", "(II)I"⟩).before a s = true := h _ (tb 616 rfl rfl)
set_option maxRecDepth 20000 in
theorem k_620 {a : Array Value} {s : State} (h : ∀ w ∈ LW, w.before a s = true) : (Jvm.Cond.methodLink "LineCollectorLaw" 112 ⟨"LineCollectorLaw", "line", "(LLineCollector;I[J)I"⟩).before a s = true := h _ (tb 620 rfl rfl)
set_option maxRecDepth 20000 in
theorem k_623 {a : Array Value} {s : State} (h : ∀ w ∈ LW, w.before a s = true) : (Jvm.Cond.methodLink "LineCollectorLaw" 55 ⟨"LineCollector", "line", "(I)I"⟩).before a s = true := h _ (tb 623 rfl rfl)
set_option maxRecDepth 20000 in
theorem k_627 {a : Array Value} {s : State} (h : ∀ w ∈ LW, w.before a s = true) : (Jvm.Cond.methodLink "LineCollector" 172 ⟨"LineCollector$Places", "isUsed", "(I)Z"⟩).before a s = true := h _ (tb 627 rfl rfl)
set_option maxRecDepth 20000 in
theorem k_628 {a : Array Value} {s : State} (h : ∀ w ∈ LW, w.before a s = true) : (Jvm.Cond.methodLink "LineCollector" 175 ⟨"LineCollector$Places", "isFree", "(I)Z"⟩).before a s = true := h _ (tb 628 rfl rfl)
set_option maxRecDepth 20000 in
theorem k_629 {a : Array Value} {s : State} (h : ∀ w ∈ LW, w.before a s = true) : (Jvm.Cond.methodLink "LineCollectorLaw" 115 ⟨"LineCollectorLaw", "figure", "(LLineCollector;I[J)I"⟩).before a s = true := h _ (tb 629 rfl rfl)
set_option maxRecDepth 20000 in
theorem k_632 {a : Array Value} {s : State} (h : ∀ w ∈ LW, w.before a s = true) : (Jvm.Cond.methodLink "LineCollectorLaw" 58 ⟨"LineCollector", "figure", "(I)I"⟩).before a s = true := h _ (tb 632 rfl rfl)
set_option maxRecDepth 20000 in
theorem k_636 {a : Array Value} {s : State} (h : ∀ w ∈ LW, w.before a s = true) : (Jvm.Cond.methodLink "LineCollector" 178 ⟨"LineCollector", "countItems", "()I"⟩).before a s = true := h _ (tb 636 rfl rfl)
set_option maxRecDepth 20000 in
theorem k_640 {a : Array Value} {s : State} (h : ∀ w ∈ LW, w.before a s = true) : (Jvm.Cond.methodLink "LineCollector" 181 ⟨"LineCollector", "countYoung", "()I"⟩).before a s = true := h _ (tb 640 rfl rfl)
set_option maxRecDepth 20000 in
theorem k_644 {a : Array Value} {s : State} (h : ∀ w ∈ LW, w.before a s = true) : (Jvm.Cond.classLink "LineCollectorLaw" 62 "LineCollectorModel").before a s = true := h _ (tb 644 rfl rfl)
set_option maxRecDepth 20000 in
theorem k_646 {a : Array Value} {s : State} (h : ∀ w ∈ LW, w.before a s = true) : (Jvm.Cond.methodLink "LineCollectorLaw" 64 ⟨"LineCollectorModel", "<init>", "()V"⟩).before a s = true := h _ (tb 646 rfl rfl)
set_option maxRecDepth 20000 in
theorem k_649 {a : Array Value} {s : State} (h : ∀ w ∈ LW, w.before a s = true) : (Jvm.Cond.methodLink "LineCollectorModel" 1 ⟨"java/lang/Object", "<init>", "()V"⟩).before a s = true := h _ (tb 649 rfl rfl)
set_option maxRecDepth 20000 in
theorem k_650 {a : Array Value} {s : State} (h : ∀ w ∈ LW, w.before a s = true) : (Jvm.Cond.fieldLink "LineCollectorModel" 69 "LineCollectorModel" "code" "I").before a s = true := h _ (tb 650 rfl rfl)
set_option maxRecDepth 20000 in
theorem k_651 {a : Array Value} {s : State} (h : ∀ w ∈ LW, w.before a s = true) : (Jvm.Cond.fieldLink "LineCollectorModel" 7 "LineCollectorModel" "cells" "[I").before a s = true := h _ (tb 651 rfl rfl)
set_option maxRecDepth 20000 in
theorem k_652 {a : Array Value} {s : State} (h : ∀ w ∈ LW, w.before a s = true) : (Jvm.Cond.fieldLink "LineCollectorModel" 13 "LineCollectorModel" "state" "[I").before a s = true := h _ (tb 652 rfl rfl)
set_option maxRecDepth 20000 in
theorem k_653 {a : Array Value} {s : State} (h : ∀ w ∈ LW, w.before a s = true) : (Jvm.Cond.fieldLink "LineCollectorModel" 16 "LineCollectorModel" "at" "[I").before a s = true := h _ (tb 653 rfl rfl)
set_option maxRecDepth 20000 in
theorem k_654 {a : Array Value} {s : State} (h : ∀ w ∈ LW, w.before a s = true) : (Jvm.Cond.fieldLink "LineCollectorModel" 19 "LineCollectorModel" "size" "[I").before a s = true := h _ (tb 654 rfl rfl)
set_option maxRecDepth 20000 in
theorem k_655 {a : Array Value} {s : State} (h : ∀ w ∈ LW, w.before a s = true) : (Jvm.Cond.fieldLink "LineCollectorModel" 22 "LineCollectorModel" "tag" "[I").before a s = true := h _ (tb 655 rfl rfl)
set_option maxRecDepth 20000 in
theorem k_656 {a : Array Value} {s : State} (h : ∀ w ∈ LW, w.before a s = true) : (Jvm.Cond.fieldLink "LineCollectorModel" 25 "LineCollectorModel" "count" "[I").before a s = true := h _ (tb 656 rfl rfl)
set_option maxRecDepth 20000 in
theorem k_657 {a : Array Value} {s : State} (h : ∀ w ∈ LW, w.before a s = true) : (Jvm.Cond.fieldLink "LineCollectorModel" 28 "LineCollectorModel" "colour" "[I").before a s = true := h _ (tb 657 rfl rfl)
set_option maxRecDepth 20000 in
theorem k_658 {a : Array Value} {s : State} (h : ∀ w ∈ LW, w.before a s = true) : (Jvm.Cond.fieldLink "LineCollectorModel" 31 "LineCollectorModel" "fields" "[I").before a s = true := h _ (tb 658 rfl rfl)
set_option maxRecDepth 20000 in
theorem k_659 {a : Array Value} {s : State} (h : ∀ w ∈ LW, w.before a s = true) : (Jvm.Cond.fieldLink "LineCollectorModel" 34 "LineCollectorModel" "logged" "[Z").before a s = true := h _ (tb 659 rfl rfl)
set_option maxRecDepth 20000 in
theorem k_660 {a : Array Value} {s : State} (h : ∀ w ∈ LW, w.before a s = true) : (Jvm.Cond.fieldLink "LineCollectorModel" 115 "LineCollectorModel" "next" "I").before a s = true := h _ (tb 660 rfl rfl)
set_option maxRecDepth 20000 in
theorem k_661 {a : Array Value} {s : State} (h : ∀ w ∈ LW, w.before a s = true) : (Jvm.Cond.fieldLink "LineCollectorModel" 38 "LineCollectorModel" "roots" "[I").before a s = true := h _ (tb 661 rfl rfl)
set_option maxRecDepth 20000 in
theorem k_662 {a : Array Value} {s : State} (h : ∀ w ∈ LW, w.before a s = true) : (Jvm.Cond.fieldLink "LineCollectorModel" 41 "LineCollectorModel" "before" "[I").before a s = true := h _ (tb 662 rfl rfl)
set_option maxRecDepth 20000 in
theorem k_663 {a : Array Value} {s : State} (h : ∀ w ∈ LW, w.before a s = true) : (Jvm.Cond.fieldLink "LineCollectorModel" 44 "LineCollectorModel" "holeFrom" "I").before a s = true := h _ (tb 663 rfl rfl)
set_option maxRecDepth 20000 in
theorem k_664 {a : Array Value} {s : State} (h : ∀ w ∈ LW, w.before a s = true) : (Jvm.Cond.fieldLink "LineCollectorModel" 72 "LineCollectorModel" "holeEnd" "I").before a s = true := h _ (tb 664 rfl rfl)
set_option maxRecDepth 20000 in
theorem k_665 {a : Array Value} {s : State} (h : ∀ w ∈ LW, w.before a s = true) : (Jvm.Cond.fieldLink "LineCollectorModel" 85 "LineCollectorModel" "holeCursor" "I").before a s = true := h _ (tb 665 rfl rfl)
set_option maxRecDepth 20000 in
theorem k_666 {a : Array Value} {s : State} (h : ∀ w ∈ LW, w.before a s = true) : (Jvm.Cond.fieldLink "LineCollectorModel" 48 "LineCollectorModel" "overflow" "I").before a s = true := h _ (tb 666 rfl rfl)
set_option maxRecDepth 20000 in
theorem k_667 {a : Array Value} {s : State} (h : ∀ w ∈ LW, w.before a s = true) : (Jvm.Cond.fieldLink "LineCollectorModel" 95 "LineCollectorModel" "overflowCursor" "I").before a s = true := h _ (tb 667 rfl rfl)
set_option maxRecDepth 20000 in
theorem k_668 {a : Array Value} {s : State} (h : ∀ w ∈ LW, w.before a s = true) : (Jvm.Cond.fieldLink "LineCollectorModel" 51 "LineCollectorModel" "left" "[Z").before a s = true := h _ (tb 668 rfl rfl)
set_option maxRecDepth 20000 in
theorem k_669 {a : Array Value} {s : State} (h : ∀ w ∈ LW, w.before a s = true) : (Jvm.Cond.fieldLink "LineCollectorModel" 54 "LineCollectorModel" "cleared" "I").before a s = true := h _ (tb 669 rfl rfl)
set_option maxRecDepth 20000 in
theorem k_670 {a : Array Value} {s : State} (h : ∀ w ∈ LW, w.before a s = true) : (Jvm.Cond.fieldLink "LineCollectorModel" 57 "LineCollectorModel" "row" "[I").before a s = true := h _ (tb 670 rfl rfl)
set_option maxRecDepth 20000 in
theorem k_671 {a : Array Value} {s : State} (h : ∀ w ∈ LW, w.before a s = true) : (Jvm.Cond.fieldLink "LineCollectorModel" 118 "LineCollectorModel" "waiting" "I").before a s = true := h _ (tb 671 rfl rfl)
set_option maxRecDepth 20000 in
theorem k_672 {a : Array Value} {s : State} (h : ∀ w ∈ LW, w.before a s = true) : (Jvm.Cond.fieldLink "LineCollectorModel" 60 "LineCollectorModel" "logField" "[I").before a s = true := h _ (tb 672 rfl rfl)
set_option maxRecDepth 20000 in
theorem k_673 {a : Array Value} {s : State} (h : ∀ w ∈ LW, w.before a s = true) : (Jvm.Cond.fieldLink "LineCollectorModel" 63 "LineCollectorModel" "logOld" "[I").before a s = true := h _ (tb 673 rfl rfl)
set_option maxRecDepth 20000 in
theorem k_674 {a : Array Value} {s : State} (h : ∀ w ∈ LW, w.before a s = true) : (Jvm.Cond.fieldLink "LineCollectorModel" 153 "LineCollectorModel" "logs" "I").before a s = true := h _ (tb 674 rfl rfl)
set_option maxRecDepth 20000 in
theorem k_675 {a : Array Value} {s : State} (h : ∀ w ∈ LW, w.before a s = true) : (Jvm.Cond.fieldLink "LineCollectorModel" 66 "LineCollectorModel" "slots" "[I").before a s = true := h _ (tb 675 rfl rfl)
set_option maxRecDepth 20000 in
theorem k_676 {a : Array Value} {s : State} (h : ∀ w ∈ LW, w.before a s = true) : (Jvm.Cond.fieldLink "LineCollectorModel" 140 "LineCollectorModel" "slotted" "I").before a s = true := h _ (tb 676 rfl rfl)
set_option maxRecDepth 20000 in
theorem k_677 {a : Array Value} {s : State} (h : ∀ w ∈ LW, w.before a s = true) : (Jvm.Cond.fieldLink "LineCollectorModel" 143 "LineCollectorModel" "traces" "Z").before a s = true := h _ (tb 677 rfl rfl)
set_option maxRecDepth 20000 in
theorem k_678 {a : Array Value} {s : State} (h : ∀ w ∈ LW, w.before a s = true) : (Jvm.Cond.fieldLink "LineCollectorModel" 196 "LineCollectorModel" "pauses" "I").before a s = true := h _ (tb 678 rfl rfl)
set_option maxRecDepth 20000 in
theorem k_679 {a : Array Value} {s : State} (h : ∀ w ∈ LW, w.before a s = true) : (Jvm.Cond.fieldLink "LineCollectorModel" 112 "LineCollectorModel" "moves" "I").before a s = true := h _ (tb 679 rfl rfl)
set_option maxRecDepth 20000 in
theorem k_680 {a : Array Value} {s : State} (h : ∀ w ∈ LW, w.before a s = true) : (Jvm.Cond.fieldLink "LineCollectorModel" 159 "LineCollectorModel" "whites" "I").before a s = true := h _ (tb 680 rfl rfl)
set_option maxRecDepth 20000 in
theorem k_744 {a : Array Value} {s : State} (h : ∀ w ∈ LW, w.before a s = true) : (Jvm.Cond.methodLink "LineCollectorLaw" 71 ⟨"LineCollectorModel", "thrown", "()I"⟩).before a s = true := h _ (tb 744 rfl rfl)
set_option maxRecDepth 20000 in
theorem k_748 {a : Array Value} {s : State} (h : ∀ w ∈ LW, w.before a s = true) : (Jvm.Cond.methodLink "LineCollectorLaw" 70 ⟨"LineCollectorModel", "allocate", "(III)I"⟩).before a s = true := h _ (tb 748 rfl rfl)
set_option maxRecDepth 20000 in
theorem k_752 {a : Array Value} {s : State} (h : ∀ w ∈ LW, w.before a s = true) : (Jvm.Cond.methodLink "LineCollectorModel" 206 ⟨"LineCollectorModel", "isRoot", "(I)Z"⟩).before a s = true := h _ (tb 752 rfl rfl)
set_option maxRecDepth 20000 in
theorem k_755 {a : Array Value} {s : State} (h : ∀ w ∈ LW, w.before a s = true) : (Jvm.Cond.methodLink "LineCollectorModel" 101 ⟨"LineCollectorModel", "place", "(I)I"⟩).before a s = true := h _ (tb 755 rfl rfl)
set_option maxRecDepth 20000 in
theorem k_759 {a : Array Value} {s : State} (h : ∀ w ∈ LW, w.before a s = true) : (Jvm.Cond.methodLink "LineCollectorModel" 88 ⟨"LineCollectorModel", "placeInLines", "(I)I"⟩).before a s = true := h _ (tb 759 rfl rfl)
set_option maxRecDepth 20000 in
theorem k_763 {a : Array Value} {s : State} (h : ∀ w ∈ LW, w.before a s = true) : (Jvm.Cond.methodLink "LineCollectorModel" 82 ⟨"LineCollectorModel", "isFree", "(I)Z"⟩).before a s = true := h _ (tb 763 rfl rfl)
set_option maxRecDepth 20000 in
theorem k_767 {a : Array Value} {s : State} (h : ∀ w ∈ LW, w.before a s = true) : (Jvm.Cond.methodLink "LineCollectorModel" 75 ⟨"LineCollectorModel", "isUsed", "(I)Z"⟩).before a s = true := h _ (tb 767 rfl rfl)
set_option maxRecDepth 20000 in
theorem k_771 {a : Array Value} {s : State} (h : ∀ w ∈ LW, w.before a s = true) : (Jvm.Cond.methodLink "LineCollectorModel" 79 ⟨"LineCollectorModel", "isTaken", "(I)Z"⟩).before a s = true := h _ (tb 771 rfl rfl)
set_option maxRecDepth 20000 in
theorem k_775 {a : Array Value} {s : State} (h : ∀ w ∈ LW, w.before a s = true) : (Jvm.Cond.methodLink "LineCollectorModel" 92 ⟨"LineCollectorModel", "placeInBlock", "(I)I"⟩).before a s = true := h _ (tb 775 rfl rfl)
set_option maxRecDepth 20000 in
theorem k_779 {a : Array Value} {s : State} (h : ∀ w ∈ LW, w.before a s = true) : (Jvm.Cond.methodLink "LineCollectorModel" 98 ⟨"LineCollectorModel", "isFreeBlock", "(I)Z"⟩).before a s = true := h _ (tb 779 rfl rfl)
set_option maxRecDepth 20000 in
theorem k_783 {a : Array Value} {s : State} (h : ∀ w ∈ LW, w.before a s = true) : (Jvm.Cond.methodLink "LineCollectorModel" 209 ⟨"LineCollectorModel", "collect", "()V"⟩).before a s = true := h _ (tb 783 rfl rfl)
set_option maxRecDepth 20000 in
theorem k_787 {a : Array Value} {s : State} (h : ∀ w ∈ LW, w.before a s = true) : (Jvm.Cond.methodLink "LineCollectorModel" 199 ⟨"LineCollectorModel", "halt", "(Z)I"⟩).before a s = true := h _ (tb 787 rfl rfl)
set_option maxRecDepth 20000 in
theorem k_791 {a : Array Value} {s : State} (h : ∀ w ∈ LW, w.before a s = true) : (Jvm.Cond.methodLink "LineCollectorModel" 174 ⟨"LineCollectorModel", "drainAll", "()V"⟩).before a s = true := h _ (tb 791 rfl rfl)
set_option maxRecDepth 20000 in
theorem k_795 {a : Array Value} {s : State} (h : ∀ w ∈ LW, w.before a s = true) : (Jvm.Cond.methodLink "LineCollectorModel" 134 ⟨"LineCollectorModel", "drainOne", "()V"⟩).before a s = true := h _ (tb 795 rfl rfl)
set_option maxRecDepth 20000 in
theorem k_799 {a : Array Value} {s : State} (h : ∀ w ∈ LW, w.before a s = true) : (Jvm.Cond.methodLink "LineCollectorModel" 131 ⟨"LineCollectorModel", "vanish", "(I)V"⟩).before a s = true := h _ (tb 799 rfl rfl)
set_option maxRecDepth 20000 in
theorem k_803 {a : Array Value} {s : State} (h : ∀ w ∈ LW, w.before a s = true) : (Jvm.Cond.methodLink "LineCollectorModel" 121 ⟨"LineCollectorModel", "wait", "(I)V"⟩).before a s = true := h _ (tb 803 rfl rfl)
set_option maxRecDepth 20000 in
theorem k_807 {a : Array Value} {s : State} (h : ∀ w ∈ LW, w.before a s = true) : (Jvm.Cond.methodLink "LineCollectorModel" 125 ⟨"LineCollectorModel", "isWhite", "(I)Z"⟩).before a s = true := h _ (tb 807 rfl rfl)
set_option maxRecDepth 20000 in
theorem k_811 {a : Array Value} {s : State} (h : ∀ w ∈ LW, w.before a s = true) : (Jvm.Cond.methodLink "LineCollectorModel" 128 ⟨"LineCollectorModel", "lose", "(I)V"⟩).before a s = true := h _ (tb 811 rfl rfl)
set_option maxRecDepth 20000 in
theorem k_815 {a : Array Value} {s : State} (h : ∀ w ∈ LW, w.before a s = true) : (Jvm.Cond.methodLink "LineCollectorModel" 104 ⟨"LineCollectorModel", "lift", "(IZ)V"⟩).before a s = true := h _ (tb 815 rfl rfl)
set_option maxRecDepth 20000 in
theorem k_819 {a : Array Value} {s : State} (h : ∀ w ∈ LW, w.before a s = true) : (Jvm.Cond.methodLink "LineCollectorModel" 168 ⟨"LineCollectorModel", "forget", "()V"⟩).before a s = true := h _ (tb 819 rfl rfl)
set_option maxRecDepth 20000 in
theorem k_823 {a : Array Value} {s : State} (h : ∀ w ∈ LW, w.before a s = true) : (Jvm.Cond.methodLink "LineCollectorModel" 177 ⟨"LineCollectorModel", "countSlots", "()I"⟩).before a s = true := h _ (tb 823 rfl rfl)
set_option maxRecDepth 20000 in
theorem k_827 {a : Array Value} {s : State} (h : ∀ w ∈ LW, w.before a s = true) : (Jvm.Cond.methodLink "LineCollectorModel" 150 ⟨"LineCollectorModel", "addSlot", "(I)V"⟩).before a s = true := h _ (tb 827 rfl rfl)
set_option maxRecDepth 20000 in
theorem k_831 {a : Array Value} {s : State} (h : ∀ w ∈ LW, w.before a s = true) : (Jvm.Cond.methodLink "LineCollectorModel" 156 ⟨"LineCollectorModel", "survive", "(I)V"⟩).before a s = true := h _ (tb 831 rfl rfl)
set_option maxRecDepth 20000 in
theorem k_835 {a : Array Value} {s : State} (h : ∀ w ∈ LW, w.before a s = true) : (Jvm.Cond.methodLink "LineCollectorModel" 147 ⟨"LineCollectorModel", "shift", "(I)V"⟩).before a s = true := h _ (tb 835 rfl rfl)
set_option maxRecDepth 20000 in
theorem k_839 {a : Array Value} {s : State} (h : ∀ w ∈ LW, w.before a s = true) : (Jvm.Cond.methodLink "LineCollectorModel" 108 ⟨"LineCollectorModel", "lay", "(II)V"⟩).before a s = true := h _ (tb 839 rfl rfl)
set_option maxRecDepth 20000 in
theorem k_843 {a : Array Value} {s : State} (h : ∀ w ∈ LW, w.before a s = true) : (Jvm.Cond.methodLink "LineCollectorModel" 171 ⟨"LineCollectorModel", "endStep", "()V"⟩).before a s = true := h _ (tb 843 rfl rfl)
set_option maxRecDepth 20000 in
theorem k_847 {a : Array Value} {s : State} (h : ∀ w ∈ LW, w.before a s = true) : (Jvm.Cond.methodLink "LineCollectorModel" 181 ⟨"LineCollectorModel", "settle", "()V"⟩).before a s = true := h _ (tb 847 rfl rfl)
set_option maxRecDepth 20000 in
theorem k_851 {a : Array Value} {s : State} (h : ∀ w ∈ LW, w.before a s = true) : (Jvm.Cond.methodLink "LineCollectorModel" 184 ⟨"LineCollectorModel", "greys", "()I"⟩).before a s = true := h _ (tb 851 rfl rfl)
set_option maxRecDepth 20000 in
theorem k_855 {a : Array Value} {s : State} (h : ∀ w ∈ LW, w.before a s = true) : (Jvm.Cond.methodLink "LineCollectorModel" 187 ⟨"LineCollectorModel", "sweep", "()V"⟩).before a s = true := h _ (tb 855 rfl rfl)
set_option maxRecDepth 20000 in
theorem k_859 {a : Array Value} {s : State} (h : ∀ w ∈ LW, w.before a s = true) : (Jvm.Cond.methodLink "LineCollectorModel" 137 ⟨"LineCollectorModel", "objectAt", "(I)I"⟩).before a s = true := h _ (tb 859 rfl rfl)
set_option maxRecDepth 20000 in
theorem k_863 {a : Array Value} {s : State} (h : ∀ w ∈ LW, w.before a s = true) : (Jvm.Cond.methodLink "LineCollectorModel" 190 ⟨"LineCollectorModel", "countAnew", "()V"⟩).before a s = true := h _ (tb 863 rfl rfl)
set_option maxRecDepth 20000 in
theorem k_867 {a : Array Value} {s : State} (h : ∀ w ∈ LW, w.before a s = true) : (Jvm.Cond.methodLink "LineCollectorModel" 162 ⟨"LineCollectorModel", "holders", "(I)I"⟩).before a s = true := h _ (tb 867 rfl rfl)
set_option maxRecDepth 20000 in
theorem k_871 {a : Array Value} {s : State} (h : ∀ w ∈ LW, w.before a s = true) : (Jvm.Cond.methodLink "LineCollectorModel" 193 ⟨"LineCollectorModel", "clearBlock", "()V"⟩).before a s = true := h _ (tb 871 rfl rfl)
set_option maxRecDepth 20000 in
theorem k_875 {a : Array Value} {s : State} (h : ∀ w ∈ LW, w.before a s = true) : (Jvm.Cond.methodLink "LineCollectorModel" 165 ⟨"LineCollectorModel", "usedLines", "(I)I"⟩).before a s = true := h _ (tb 875 rfl rfl)
set_option maxRecDepth 20000 in
theorem k_879 {a : Array Value} {s : State} (h : ∀ w ∈ LW, w.before a s = true) : (Jvm.Cond.methodLink "LineCollectorModel" 203 ⟨"LineCollectorModel", "step", "()V"⟩).before a s = true := h _ (tb 879 rfl rfl)
set_option maxRecDepth 20000 in
theorem k_883 {a : Array Value} {s : State} (h : ∀ w ∈ LW, w.before a s = true) : (Jvm.Cond.methodLink "LineCollectorModel" 212 ⟨"LineCollectorModel", "make", "(II)I"⟩).before a s = true := h _ (tb 883 rfl rfl)
set_option maxRecDepth 20000 in
theorem k_887 {a : Array Value} {s : State} (h : ∀ w ∈ LW, w.before a s = true) : (Jvm.Cond.methodLink "LineCollectorLaw" 78 ⟨"LineCollectorModel", "drop", "(I)V"⟩).before a s = true := h _ (tb 887 rfl rfl)
set_option maxRecDepth 20000 in
theorem k_891 {a : Array Value} {s : State} (h : ∀ w ∈ LW, w.before a s = true) : (Jvm.Cond.methodLink "LineCollectorLaw" 82 ⟨"LineCollectorModel", "copy", "(II)V"⟩).before a s = true := h _ (tb 891 rfl rfl)
set_option maxRecDepth 20000 in
theorem k_895 {a : Array Value} {s : State} (h : ∀ w ∈ LW, w.before a s = true) : (Jvm.Cond.methodLink "LineCollectorLaw" 85 ⟨"LineCollectorModel", "load", "(III)I"⟩).before a s = true := h _ (tb 895 rfl rfl)
set_option maxRecDepth 20000 in
theorem k_899 {a : Array Value} {s : State} (h : ∀ w ∈ LW, w.before a s = true) : (Jvm.Cond.methodLink "LineCollectorModel" 216 ⟨"LineCollectorModel", "reach", "(III)V"⟩).before a s = true := h _ (tb 899 rfl rfl)
set_option maxRecDepth 20000 in
theorem k_903 {a : Array Value} {s : State} (h : ∀ w ∈ LW, w.before a s = true) : (Jvm.Cond.methodLink "LineCollectorModel" 220 ⟨"LineCollectorModel", "addressOf", "(I)I"⟩).before a s = true := h _ (tb 903 rfl rfl)
set_option maxRecDepth 20000 in
theorem k_907 {a : Array Value} {s : State} (h : ∀ w ∈ LW, w.before a s = true) : (Jvm.Cond.methodLink "LineCollectorLaw" 89 ⟨"LineCollectorModel", "store", "(III)V"⟩).before a s = true := h _ (tb 907 rfl rfl)
set_option maxRecDepth 20000 in
theorem k_911 {a : Array Value} {s : State} (h : ∀ w ∈ LW, w.before a s = true) : (Jvm.Cond.methodLink "LineCollectorLaw" 93 ⟨"LineCollectorModel", "drain", "(I)I"⟩).before a s = true := h _ (tb 911 rfl rfl)
set_option maxRecDepth 20000 in
theorem k_915 {a : Array Value} {s : State} (h : ∀ w ∈ LW, w.before a s = true) : (Jvm.Cond.methodLink "LineCollectorLaw" 96 ⟨"LineCollectorModel", "trace", "(I)I"⟩).before a s = true := h _ (tb 915 rfl rfl)
set_option maxRecDepth 20000 in
theorem k_919 {a : Array Value} {s : State} (h : ∀ w ∈ LW, w.before a s = true) : (Jvm.Cond.methodLink "LineCollectorLaw" 101 ⟨"LineCollectorModel", "pause", "(Z)I"⟩).before a s = true := h _ (tb 919 rfl rfl)
set_option maxRecDepth 20000 in
theorem k_923 {a : Array Value} {s : State} (h : ∀ w ∈ LW, w.before a s = true) : (Jvm.Cond.methodLink "LineCollectorLaw" 104 ⟨"LineCollectorModel", "root", "(I)I"⟩).before a s = true := h _ (tb 923 rfl rfl)
set_option maxRecDepth 20000 in
theorem k_927 {a : Array Value} {s : State} (h : ∀ w ∈ LW, w.before a s = true) : (Jvm.Cond.methodLink "LineCollectorLaw" 108 ⟨"LineCollectorModel", "field", "(II)I"⟩).before a s = true := h _ (tb 927 rfl rfl)
set_option maxRecDepth 20000 in
theorem k_931 {a : Array Value} {s : State} (h : ∀ w ∈ LW, w.before a s = true) : (Jvm.Cond.methodLink "LineCollectorLaw" 111 ⟨"LineCollectorModel", "object", "(II)I"⟩).before a s = true := h _ (tb 931 rfl rfl)
set_option maxRecDepth 20000 in
theorem k_935 {a : Array Value} {s : State} (h : ∀ w ∈ LW, w.before a s = true) : (Jvm.Cond.methodLink "LineCollectorLaw" 114 ⟨"LineCollectorModel", "line", "(I)I"⟩).before a s = true := h _ (tb 935 rfl rfl)
set_option maxRecDepth 20000 in
theorem k_939 {a : Array Value} {s : State} (h : ∀ w ∈ LW, w.before a s = true) : (Jvm.Cond.methodLink "LineCollectorLaw" 117 ⟨"LineCollectorModel", "figure", "(I)I"⟩).before a s = true := h _ (tb 939 rfl rfl)
set_option maxRecDepth 20000 in
theorem k_943 {a : Array Value} {s : State} (h : ∀ w ∈ LW, w.before a s = true) : (Jvm.Cond.methodLink "LineCollectorModel" 223 ⟨"LineCollectorModel", "objects", "(I)I"⟩).before a s = true := h _ (tb 943 rfl rfl)
set_option maxRecDepth 20000 in
theorem x_ins7 : Cond.instantiable "java/lang/IllegalArgumentException" 6 ∈ LW := tb 359 rfl rfl
set_option maxRecDepth 20000 in
theorem x_ini7 : Cond.initialized "java/lang/IllegalArgumentException" ∈ LW := tb 10 rfl rfl
set_option maxRecDepth 20000 in
theorem x_ins8 : Cond.instantiable "java/lang/IllegalStateException" 6 ∈ LW := tb 518 rfl rfl
set_option maxRecDepth 20000 in
theorem x_ini8 : Cond.initialized "java/lang/IllegalStateException" ∈ LW := tb 14 rfl rfl
set_option maxRecDepth 20000 in
theorem x_ins9 : Cond.instantiable "java/lang/IndexOutOfBoundsException" 6 ∈ LW := tb 537 rfl rfl
set_option maxRecDepth 20000 in
theorem x_ini9 : Cond.initialized "java/lang/IndexOutOfBoundsException" ∈ LW := tb 15 rfl rfl
set_option maxRecDepth 20000 in
theorem x_ins10 : Cond.instantiable "java/lang/UnsupportedOperationException" 6 ∈ LW := tb 440 rfl rfl
set_option maxRecDepth 20000 in
theorem x_ini10 : Cond.initialized "java/lang/UnsupportedOperationException" ∈ LW := tb 12 rfl rfl
set_option maxRecDepth 20000 in
theorem x_ins11 : Cond.instantiable "java/util/NoSuchElementException" 6 ∈ LW := tb 599 rfl rfl
set_option maxRecDepth 20000 in
theorem x_ini11 : Cond.initialized "java/util/NoSuchElementException" ∈ LW := tb 16 rfl rfl
set_option maxRecDepth 20000 in
theorem x_io0 : Cond.instantiable "LineCollector" 11 ∈ LW := tb 18 rfl rfl
set_option maxRecDepth 20000 in
theorem x_ii0 : Cond.initialized "LineCollector" ∈ LW := tb 1 rfl rfl
set_option maxRecDepth 20000 in
theorem x_io1 : Cond.instantiable "LineCollector$Places" 5 ∈ LW := tb 28 rfl rfl
set_option maxRecDepth 20000 in
theorem x_ii1 : Cond.initialized "LineCollector$Places" ∈ LW := tb 2 rfl rfl
set_option maxRecDepth 20000 in
theorem x_io2 : Cond.instantiable "LineCollector$Span" 3 ∈ LW := tb 34 rfl rfl
set_option maxRecDepth 20000 in
theorem x_ii2 : Cond.initialized "LineCollector$Span" ∈ LW := tb 3 rfl rfl
set_option maxRecDepth 20000 in
theorem x_io3 : Cond.instantiable "LineCollector$Log" 4 ∈ LW := tb 68 rfl rfl
set_option maxRecDepth 20000 in
theorem x_ii3 : Cond.initialized "LineCollector$Log" ∈ LW := tb 4 rfl rfl
set_option maxRecDepth 20000 in
theorem x_io4 : Cond.instantiable "LineCollector$Row" 3 ∈ LW := tb 89 rfl rfl
set_option maxRecDepth 20000 in
theorem x_ii4 : Cond.initialized "LineCollector$Row" ∈ LW := tb 5 rfl rfl
set_option maxRecDepth 20000 in
theorem x_io5 : Cond.instantiable "LineCollector$Item" 7 ∈ LW := tb 454 rfl rfl
set_option maxRecDepth 20000 in
theorem x_ii5 : Cond.initialized "LineCollector$Item" ∈ LW := tb 13 rfl rfl
set_option maxRecDepth 20000 in
theorem x_io6 : Cond.instantiable "LineCollectorModel" 31 ∈ LW := tb 645 rfl rfl
set_option maxRecDepth 20000 in
theorem x_ii6 : Cond.initialized "LineCollectorModel" ∈ LW := tb 6 rfl rfl
set_option maxRecDepth 20000 in
theorem x_acI : Cond.arrayClass .int ∈ LW := tb 49 rfl rfl
set_option maxRecDepth 20000 in
theorem x_acZ : Cond.arrayClass .boolean ∈ LW := tb 50 rfl rfl
set_option maxRecDepth 20000 in
theorem x_acJ : Cond.arrayClass .long ∈ LW := tb 947 rfl rfl
set_option maxRecDepth 20000 in
theorem x_objI {a : Array Value} {s : State} (h : ∀ w ∈ LW, w.before a s = true) : (Cond.instanceMethod Lib.objectInit).before a s = true := h _ (tb 23 rfl rfl)
set_option maxRecDepth 20000 in
theorem x_objC {a : Array Value} {s : State} (h : ∀ w ∈ LW, w.before a s = true) : (Cond.code Lib.objectInit ⟨#[0xb1]⟩ 1 none).before a s = true := h _ (tb 24 rfl rfl)
set_option maxRecDepth 20000 in
theorem x_minS {a : Array Value} {s : State} (h : ∀ w ∈ LW, w.before a s = true) : (Cond.static Lib.Math.min.name).before a s = true := h _ (tb 211 rfl rfl)
set_option maxRecDepth 20000 in
theorem x_minI {a : Array Value} {s : State} (h : ∀ w ∈ LW, w.before a s = true) : (Cond.initialized "java/lang/Math").before a s = true := h _ (tb 11 rfl rfl)
set_option maxRecDepth 20000 in
theorem x_minC {a : Array Value} {s : State} (h : ∀ w ∈ LW, w.before a s = true) : (Cond.code Lib.Math.min.name Lib.Math.min.code 2 (some .int)).before a s = true := h _ (tb 212 rfl rfl)
theorem p_I : parseFieldDescriptor "I" = some .int := by decide +kernel
theorem p_Z : parseFieldDescriptor "Z" = some .boolean := by decide +kernel
