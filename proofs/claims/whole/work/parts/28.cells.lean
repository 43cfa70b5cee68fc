/-! Cells: taken, left, given -/
def spl (s : St) (A : Gs) : St := uoc (uov (uhc (uhe (uhf s (A 17 13)) (A 17 14)) (A 17 15)) (A 17 16)) (A 17 17)
noncomputable def plc (s : St) (n : Nat) : Int32 × St := ((placeG (pg s) n).1, spl s (placeG (pg s) n).2)
theorem pg_spl {s : St} {A : Gs} (h : ∀ r j, ¬ (r = 17 ∧ 13 ≤ j ∧ j ≤ 17) → A r j = pg s r j) : pg (spl s A) = A := by
  funext r j
  by_cases e : r = 17 ∧ 13 ≤ j ∧ j ≤ 17
  · obtain ⟨rfl, h1, h2⟩ := e
    have : j = 13 ∨ j = 14 ∨ j = 15 ∨ j = 16 ∨ j = 17 := by omega
    rcases this with rfl | rfl | rfl | rfl | rfl <;> rfl
  · rw [h r j e]
    unfold pg
    by_cases h18 : r = 18
    · rw [if_pos h18, if_pos h18]; rfl
    rw [if_neg h18, if_neg h18]
    by_cases h29 : r = 29
    · rw [if_pos h29, if_pos h29]; rfl
    rw [if_neg h29, if_neg h29]
    by_cases h17 : r = 17
    · rw [if_pos h17, if_pos h17]
      have q : ¬ (13 ≤ j ∧ j ≤ 17) := fun z => e ⟨h17, z⟩
      have n3 : ¬ j = 13 := by omega
      have n4 : ¬ j = 14 := by omega
      have n5 : ¬ j = 15 := by omega
      have n6 : ¬ j = 16 := by omega
      have n7 : ¬ j = 17 := by omega
      rw [if_neg n3, if_neg n3, if_neg n4, if_neg n4, if_neg n5, if_neg n5, if_neg n6, if_neg n6, if_neg n7, if_neg n7]
      rfl
    · rw [if_neg h17, if_neg h17]
theorem placeG_far (A : Gs) (n : Nat) : ∀ r j, ¬ (r = 17 ∧ 13 ≤ j ∧ j ≤ 17) → (placeG A n).2 r j = A r j := by
  intro r j h
  have k : ∀ (i : Nat) (B : Gs) (v : Int32), 13 ≤ i → i ≤ 17 → uI B 17 i v r j = B r j := fun i B v h1 h2 => uI_no (fun z => h ⟨z.1, by omega, by omega⟩)
  unfold placeG
  split
  · exact k 15 _ _ (by omega) (by omega)
  · split
    · unfold lineG
      split
      · rfl
      · exact ((k 15 _ _ (by omega) (by omega)).trans (k 14 _ _ (by omega) (by omega))).trans (k 13 _ _ (by omega) (by omega))
    · split
      · exact k 17 _ _ (by omega) (by omega)
      · unfold blockG
        split
        · rfl
        · exact (k 17 _ _ (by omega) (by omega)).trans (k 16 _ _ (by omega) (by omega))
theorem plc_pg (s : St) (n : Nat) : pg (plc s n).2 = (placeG (pg s) n).2 := pg_spl (placeG_far (pg s) n)
theorem spl_same (s : St) (A : Gs) : sz (spl s A) = sz s ∧ tg (spl s A) = tg s ∧ ad (spl s A) = ad s ∧ ct (spl s A) = ct s ∧ co (spl s A) = co s ∧ fl (spl s A) = fl s ∧ lg (spl s A) = lg s ∧ cel (spl s A) = cel s ∧ rt (spl s A) = rt s ∧ bf (spl s A) = bf s ∧ row (spl s A) = row s ∧ log (spl s A) = log s ∧ tr (spl s A) = tr s ∧ ps (spl s A) = ps s ∧ mv (spl s A) = mv s ∧ wh (spl s A) = wh s ∧ lf (spl s A) = lf s ∧ cl (spl s A) = cl s ∧ sta (spl s A) = sta s ∧ nx (spl s A) = nx s := by
  simp only [spl, q_cel_uhf, q_sta_uhf, q_ad_uhf, q_sz_uhf, q_tg_uhf, q_ct_uhf, q_co_uhf, q_fl_uhf, q_lg_uhf, q_nx_uhf, q_rt_uhf, q_bf_uhf, q_hf_uhf, q_he_uhf, q_hc_uhf, q_ov_uhf, q_oc_uhf, q_cl_uhf, q_lf_uhf, q_row_uhf, q_log_uhf, q_tr_uhf, q_ps_uhf, q_mv_uhf, q_wh_uhf, q_cel_uhe, q_sta_uhe, q_ad_uhe, q_sz_uhe, q_tg_uhe, q_ct_uhe, q_co_uhe, q_fl_uhe, q_lg_uhe, q_nx_uhe, q_rt_uhe, q_bf_uhe, q_hf_uhe, q_he_uhe, q_hc_uhe, q_ov_uhe, q_oc_uhe, q_cl_uhe, q_lf_uhe, q_row_uhe, q_log_uhe, q_tr_uhe, q_ps_uhe, q_mv_uhe, q_wh_uhe, q_cel_uhc, q_sta_uhc, q_ad_uhc, q_sz_uhc, q_tg_uhc, q_ct_uhc, q_co_uhc, q_fl_uhc, q_lg_uhc, q_nx_uhc, q_rt_uhc, q_bf_uhc, q_hf_uhc, q_he_uhc, q_hc_uhc, q_ov_uhc, q_oc_uhc, q_cl_uhc, q_lf_uhc, q_row_uhc, q_log_uhc, q_tr_uhc, q_ps_uhc, q_mv_uhc, q_wh_uhc, q_cel_uov, q_sta_uov, q_ad_uov, q_sz_uov, q_tg_uov, q_ct_uov, q_co_uov, q_fl_uov, q_lg_uov, q_nx_uov, q_rt_uov, q_bf_uov, q_hf_uov, q_he_uov, q_hc_uov, q_ov_uov, q_oc_uov, q_cl_uov, q_lf_uov, q_row_uov, q_log_uov, q_tr_uov, q_ps_uov, q_mv_uov, q_wh_uov, q_cel_uoc, q_sta_uoc, q_ad_uoc, q_sz_uoc, q_tg_uoc, q_ct_uoc, q_co_uoc, q_fl_uoc, q_lg_uoc, q_nx_uoc, q_rt_uoc, q_bf_uoc, q_hf_uoc, q_he_uoc, q_hc_uoc, q_ov_uoc, q_oc_uoc, q_cl_uoc, q_lf_uoc, q_row_uoc, q_log_uoc, q_tr_uoc, q_ps_uoc, q_mv_uoc, q_wh_uoc, and_self]
theorem spl_sz (s : St) (A : Gs) : sz (spl s A) = sz s := (spl_same s A).1
theorem spl_tg (s : St) (A : Gs) : tg (spl s A) = tg s := (spl_same s A).2.1
theorem spl_ad (s : St) (A : Gs) : ad (spl s A) = ad s := (spl_same s A).2.2.1
theorem spl_ct (s : St) (A : Gs) : ct (spl s A) = ct s := (spl_same s A).2.2.2.1
theorem spl_co (s : St) (A : Gs) : co (spl s A) = co s := (spl_same s A).2.2.2.2.1
theorem spl_fl (s : St) (A : Gs) : fl (spl s A) = fl s := (spl_same s A).2.2.2.2.2.1
theorem spl_lg (s : St) (A : Gs) : lg (spl s A) = lg s := (spl_same s A).2.2.2.2.2.2.1
theorem spl_cel (s : St) (A : Gs) : cel (spl s A) = cel s := (spl_same s A).2.2.2.2.2.2.2.1
theorem spl_rt (s : St) (A : Gs) : rt (spl s A) = rt s := (spl_same s A).2.2.2.2.2.2.2.2.1
theorem spl_bf (s : St) (A : Gs) : bf (spl s A) = bf s := (spl_same s A).2.2.2.2.2.2.2.2.2.1
theorem spl_row (s : St) (A : Gs) : row (spl s A) = row s := (spl_same s A).2.2.2.2.2.2.2.2.2.2.1
theorem spl_log (s : St) (A : Gs) : log (spl s A) = log s := (spl_same s A).2.2.2.2.2.2.2.2.2.2.2.1
theorem spl_tr (s : St) (A : Gs) : tr (spl s A) = tr s := (spl_same s A).2.2.2.2.2.2.2.2.2.2.2.2.1
theorem spl_ps (s : St) (A : Gs) : ps (spl s A) = ps s := (spl_same s A).2.2.2.2.2.2.2.2.2.2.2.2.2.1
theorem spl_mv (s : St) (A : Gs) : mv (spl s A) = mv s := (spl_same s A).2.2.2.2.2.2.2.2.2.2.2.2.2.2.1
theorem spl_wh (s : St) (A : Gs) : wh (spl s A) = wh s := (spl_same s A).2.2.2.2.2.2.2.2.2.2.2.2.2.2.2.1
theorem spl_lf (s : St) (A : Gs) : lf (spl s A) = lf s := (spl_same s A).2.2.2.2.2.2.2.2.2.2.2.2.2.2.2.2.1
theorem spl_cl (s : St) (A : Gs) : cl (spl s A) = cl s := (spl_same s A).2.2.2.2.2.2.2.2.2.2.2.2.2.2.2.2.2.1
theorem spl_sta (s : St) (A : Gs) : sta (spl s A) = sta s := (spl_same s A).2.2.2.2.2.2.2.2.2.2.2.2.2.2.2.2.2.2.1
theorem spl_nx (s : St) (A : Gs) : nx (spl s A) = nx s := (spl_same s A).2.2.2.2.2.2.2.2.2.2.2.2.2.2.2.2.2.2.2
theorem spl_obj (s : St) (A : Gs) : obj (spl s A) = obj s := by
  funext a
  unfold obj
  rw [spl_cel, spl_ad]
theorem c_find {n : Nat} {post : Int32 → Mem → Prop} {μ : Mem} {s : St} {ι : Nat → Nat} {d : Int32} {P : Nat → Prop} (h : CR μ s ι d P) (hn1 : 1 ≤ n) (hn : n ≤ 12) (hp : ∀ μ1, CR μ1 (plc s n).2 ι d P → Fr cmS μ μ1 → post (plc s n).1 μ1) : wP_find (nI n) post μ := by
  refine c_findG hn1 hn h.lay h.pl (fun μ1 hP hF => ?_)
  refine hp μ1 ?_ (hF.mono (fun r hr => by unfold spS at hr; unfold cmS; omega))
  have hpg := plc_pg s n
  have e0 : (plc s n).2 = spl s (placeG (pg s) n).2 := rfl
  rw [e0] at hpg ⊢
  rw [← hpg] at hP
  clear hp hpg e0
  generalize (placeG (pg s) n).2 = B at hP ⊢
  have f : ∀ r, r ≠ 7 → r ≠ 8 → mI μ1 r = mI μ r ∧ mR μ1 r = mR μ r := fun r h1 h2 => hF.2.2 r (by unfold spS; omega)
  refine h.mk hF (fun x hx => ?_) ?_ ?_ ?_ ?_ ?_ ?_ ?_ ?_ ?_ ?_
  · have hi := h.it x hx
    have h35 := hi.i35
    exact hi.frame hF (f _ (by omega) (by omega)).1 (f _ (by omega) (by omega)).2 (f _ (by omega) (by omega)).1 (congrFun (spl_sz s B) x) (congrFun (spl_tg s B) x) (congrFun (spl_ad s B) x) (congrFun (spl_ct s B) x) (congrFun (spl_co s B) x) (congrFun (spl_fl s B) x) (congrFun (spl_lg s B) x)
  · rw [(f 3 (by omega) (by omega)).2, spl_obj]; exact h.pat
  · rw [(f 1 (by omega) (by omega)).2, spl_rt]; exact h.prt
  · rw [(f 2 (by omega) (by omega)).2, spl_bf]; exact h.pbf
  · exact hP
  · rw [spl_row]; exact h.wt.frame (f 13 (by omega) (by omega)).1 (f 14 (by omega) (by omega)).2
  · rw [spl_log]; exact h.plo.frame (f 9 (by omega) (by omega)).1 (f 10 (by omega) (by omega)).2 (f 11 (by omega) (by omega)).1 (f 12 (by omega) (by omega)).2
  · rw [(f 0 (by omega) (by omega)).1, spl_tr]; exact h.ptr
  · rw [(f 0 (by omega) (by omega)).1, spl_ps]; exact h.pps
  · rw [(f 0 (by omega) (by omega)).1, spl_mv]; exact h.pmv
  · rw [(f 0 (by omega) (by omega)).1, spl_wh]; exact h.pwh
def clr (f : Nat → Option Nat) (a n : Nat) : Nat → Option Nat := fun j => if a ≤ j ∧ j < a + n then none else f j
def put (f : Nat → Option Nat) (a n x : Nat) : Nat → Option Nat := fun j => if a ≤ j ∧ j < a + n then some x else f j
def mrk (f : Nat → Nat) (a n : Nat) : Nat → Nat := fun l => if 0 < n ∧ a / 4 ≤ l ∧ l ≤ (a + n - 1) / 4 then 1 else f l
theorem clr_0 (f : Nat → Option Nat) (a : Nat) : clr f a 0 = f := by
  funext j
  exact if_neg (by omega)
theorem put_0 (f : Nat → Option Nat) (a x : Nat) : put f a 0 x = f := by
  funext j
  exact if_neg (by omega)
theorem mrk_0 (f : Nat → Nat) (a : Nat) : mrk f a 0 = f := by
  funext j
  exact if_neg (by omega)
theorem clr_s (f : Nat → Option Nat) (a k : Nat) : up (clr f a k) (a + k) none = clr f a (k + 1) := by
  funext j
  unfold up clr
  by_cases e : j = a + k
  · rw [if_pos e, if_pos (by omega)]
  · rw [if_neg e]
    by_cases h : a ≤ j ∧ j < a + k
    · rw [if_pos h, if_pos (by omega)]
    · rw [if_neg h, if_neg (by omega)]
theorem put_s (f : Nat → Option Nat) (a k x : Nat) : up (put f a k x) (a + k) (some x) = put f a (k + 1) x := by
  funext j
  unfold up put
  by_cases e : j = a + k
  · rw [if_pos e, if_pos (by omega)]
  · rw [if_neg e]
    by_cases h : a ≤ j ∧ j < a + k
    · rw [if_pos h, if_pos (by omega)]
    · rw [if_neg h, if_neg (by omega)]
theorem mrk_s (f : Nat → Nat) (a k : Nat) : up (mrk f a k) ((a + k) / 4) 1 = mrk f a (k + 1) := by
  funext j
  unfold up mrk
  by_cases e : j = (a + k) / 4
  · rw [if_pos e, if_pos (by omega)]
  · rw [if_neg e]
    by_cases h : 0 < k ∧ a / 4 ≤ j ∧ j ≤ (a + k - 1) / 4
    · rw [if_pos h, if_pos (by omega)]
    · rw [if_neg h, if_neg (by omega)]
theorem eo_pos {x : Nat} (h : x < 256) : 0 ≤ eo (some x) := nI_pos' (by omega)
theorem eo_neg : ¬ 0 ≤ eo none := by decide
theorem ow_pg {s : St} {j : Nat} (h : ∀ x, cel s j = some x → x < 256) : ow (pg s) j = if cel s j = none then 0 else 1 := by
  have e : pg s 18 j = eo (cel s j) := rfl
  unfold ow
  rw [e]
  cases hc : cel s j with
  | none => rw [if_neg eo_neg, if_pos rfl]
  | some x => rw [if_pos (eo_pos (h x hc)), if_neg (by simp)]
def small (s : St) : Prop := ∀ j x, cel s j = some x → x < 256
theorem ow_up {s : St} {c j : Nat} {v : Option Nat} (hs : small s) (hv : ∀ x, v = some x → x < 256) : ow (pg (ucel s (up (cel s) c v))) j = if j = c then (if v = none then 0 else 1) else ow (pg s) j := by
  have e : cel (ucel s (up (cel s) c v)) j = up (cel s) c v j := rfl
  by_cases h : j = c
  · subst h
    rw [ow_pg, e, up_self, if_pos rfl]
    intro x hx
    rw [e, up_self] at hx
    exact hv x hx
  · rw [ow_pg, e, up_ne h, if_neg h, ow_pg (hs j)]
    intro x hx
    rw [e, up_ne h] at hx
    exact hs j x hx
theorem cnt_clr {s : St} {c y l : Nat} (hs : small s) (hc : cel s c = some y) : cntL (pg s) l = cntL (pg (ucel s (up (cel s) c none))) l + (if l = c / 4 then 1 else 0) := by
  have hn : ∀ x, (none : Option Nat) = some x → x < 256 := fun x h => by cases h
  have h1 : ow (pg s) c = 1 := by rw [ow_pg (hs c), hc, if_neg (by simp)]
  unfold cntL
  rw [ow_up hs hn, ow_up hs hn, ow_up hs hn, ow_up hs hn]
  by_cases e : l = c / 4
  · rw [if_pos e]
    have : c = 4 * l ∨ c = 4 * l + 1 ∨ c = 4 * l + 2 ∨ c = 4 * l + 3 := by omega
    rcases this with q | q | q | q
    · have h2 : ow (pg s) (4 * l) = 1 := by rw [← q]; exact h1
      rw [if_pos (show 4 * l = c by omega), if_neg (show ¬ 4 * l + 1 = c by omega), if_neg (show ¬ 4 * l + 2 = c by omega), if_neg (show ¬ 4 * l + 3 = c by omega), h2, if_pos rfl]
      try omega
    · have h2 : ow (pg s) (4 * l + 1) = 1 := by rw [← q]; exact h1
      rw [if_neg (show ¬ 4 * l = c by omega), if_pos (show 4 * l + 1 = c by omega), if_neg (show ¬ 4 * l + 2 = c by omega), if_neg (show ¬ 4 * l + 3 = c by omega), h2, if_pos rfl]
      try omega
    · have h2 : ow (pg s) (4 * l + 2) = 1 := by rw [← q]; exact h1
      rw [if_neg (show ¬ 4 * l = c by omega), if_neg (show ¬ 4 * l + 1 = c by omega), if_pos (show 4 * l + 2 = c by omega), if_neg (show ¬ 4 * l + 3 = c by omega), h2, if_pos rfl]
      try omega
    · have h2 : ow (pg s) (4 * l + 3) = 1 := by rw [← q]; exact h1
      rw [if_neg (show ¬ 4 * l = c by omega), if_neg (show ¬ 4 * l + 1 = c by omega), if_neg (show ¬ 4 * l + 2 = c by omega), if_pos (show 4 * l + 3 = c by omega), h2, if_pos rfl]
      try omega
  · rw [if_neg e, if_neg (show ¬ 4 * l = c by omega), if_neg (show ¬ 4 * l + 1 = c by omega), if_neg (show ¬ 4 * l + 2 = c by omega), if_neg (show ¬ 4 * l + 3 = c by omega)]
    rfl
theorem cnt_put {s : St} {c x l : Nat} (hs : small s) (hx : x < 256) (hc : cel s c = none) : cntL (pg (ucel s (up (cel s) c (some x)))) l = cntL (pg s) l + (if l = c / 4 then 1 else 0) := by
  have hn : ∀ y, (some x : Option Nat) = some y → y < 256 := fun y h => by cases h; exact hx
  have h1 : ow (pg s) c = 0 := by rw [ow_pg (hs c), hc, if_pos rfl]
  have h3 : ¬ (some x : Option Nat) = none := by simp
  unfold cntL
  rw [ow_up hs hn, ow_up hs hn, ow_up hs hn, ow_up hs hn]
  by_cases e : l = c / 4
  · rw [if_pos e]
    have : c = 4 * l ∨ c = 4 * l + 1 ∨ c = 4 * l + 2 ∨ c = 4 * l + 3 := by omega
    rcases this with q | q | q | q
    · have h2 : ow (pg s) (4 * l) = 0 := by rw [← q]; exact h1
      rw [if_pos (show 4 * l = c by omega), if_neg (show ¬ 4 * l + 1 = c by omega), if_neg (show ¬ 4 * l + 2 = c by omega), if_neg (show ¬ 4 * l + 3 = c by omega), h2, if_neg h3]
      try omega
    · have h2 : ow (pg s) (4 * l + 1) = 0 := by rw [← q]; exact h1
      rw [if_neg (show ¬ 4 * l = c by omega), if_pos (show 4 * l + 1 = c by omega), if_neg (show ¬ 4 * l + 2 = c by omega), if_neg (show ¬ 4 * l + 3 = c by omega), h2, if_neg h3]
      try omega
    · have h2 : ow (pg s) (4 * l + 2) = 0 := by rw [← q]; exact h1
      rw [if_neg (show ¬ 4 * l = c by omega), if_neg (show ¬ 4 * l + 1 = c by omega), if_pos (show 4 * l + 2 = c by omega), if_neg (show ¬ 4 * l + 3 = c by omega), h2, if_neg h3]
      try omega
    · have h2 : ow (pg s) (4 * l + 3) = 0 := by rw [← q]; exact h1
      rw [if_neg (show ¬ 4 * l = c by omega), if_neg (show ¬ 4 * l + 1 = c by omega), if_neg (show ¬ 4 * l + 2 = c by omega), if_pos (show 4 * l + 3 = c by omega), h2, if_neg h3]
      try omega
  · rw [if_neg e, if_neg (show ¬ 4 * l = c by omega), if_neg (show ¬ 4 * l + 1 = c by omega), if_neg (show ¬ 4 * l + 2 = c by omega), if_neg (show ¬ 4 * l + 3 = c by omega)]
    rfl
theorem PR.clr1 {μ : Mem} {s : St} {c y : Nat} (h : PR μ (pg s)) (hs : small s) (hc128 : c < 128) (hc : cel s c = some y) : PR (sI μ 5 (c / 4) (mI μ 5 (c / 4) - 1)) (pg (ucel s (up (cel s) c none))) := by
  obtain ⟨p1, p2, p3, p4, p5⟩ := h
  refine ⟨fun l hl => ?_, ?_, ?_, ?_, ?_⟩
  · have h1 := cnt_clr (l := l) hs hc
    rw [mI_sI]
    by_cases e : l = c / 4
    · rw [if_pos e] at h1
      rw [if_pos ⟨rfl, e⟩, ← e, p1 l hl, h1, li_1, nI_sub (by omega), Nat.add_sub_cancel]
    · rw [if_neg e] at h1
      rw [if_neg (fun z => e z.2), p1 l hl, h1]
      rfl
  · rw [mI_ne (by decide)]; exact p2
  · rw [mI_ne (by decide)]; exact p3
  · exact p4.same (mI_ne (by decide)) rfl rfl rfl
  · exact p5.same (mI_ne (by decide)) rfl rfl
theorem PR.put1 {μ : Mem} {s : St} {c x : Nat} (h : PR μ (pg s)) (hs : small s) (hx : x < 256) (hc128 : c < 128) (hc : cel s c = none) : PR (sI μ 5 (c / 4) (mI μ 5 (c / 4) + 1)) (pg (ucel s (up (cel s) c (some x)))) := by
  obtain ⟨p1, p2, p3, p4, p5⟩ := h
  refine ⟨fun l hl => ?_, ?_, ?_, ?_, ?_⟩
  · have h1 := cnt_put (l := l) hs hx hc
    rw [mI_sI]
    by_cases e : l = c / 4
    · rw [if_pos e] at h1
      rw [if_pos ⟨rfl, e⟩, ← e, p1 l hl, h1, nI_1]
    · rw [if_neg e] at h1
      rw [if_neg (fun z => e z.2), p1 l hl, h1]
      rfl
  · rw [mI_ne (by decide)]; exact p2
  · rw [mI_ne (by decide)]; exact p3
  · exact p4.same (mI_ne (by decide)) rfl rfl rfl
  · exact p5.same (mI_ne (by decide)) rfl rfl
theorem PR.mrk1 {μ : Mem} {s : St} {l : Nat} (h : PR μ (pg s)) (hl : l < 32) : PR (sI μ 6 l 1) (pg (ulf s (up (lf s) l 1))) := by
  obtain ⟨p1, p2, p3, p4, p5⟩ := h
  refine ⟨?_, fun k hk => ?_, ?_, ?_, ?_⟩
  · rw [mI_ne (by decide)]; exact p1
  · have e2 : pg (ulf s (up (lf s) l 1)) 29 k = nI (up (lf s) l 1 k) := rfl
    rw [e2, mI_sI]
    by_cases e : k = l
    · subst e
      rw [if_pos ⟨rfl, rfl⟩, up_self]
      exact ⟨rfl, Or.inr rfl⟩
    · rw [if_neg (fun z => e z.2), up_ne e]
      exact p2 k hk
  · rw [mI_ne (by decide)]; exact p3
  · exact p4.same (mI_ne (by decide)) rfl rfl rfl
  · exact p5.same (mI_ne (by decide)) rfl rfl
theorem small_clr {s : St} {a k : Nat} (h : small s) : small (ucel s (clr (cel s) a k)) := by
  intro j x hx
  have e : cel (ucel s (clr (cel s) a k)) j = clr (cel s) a k j := rfl
  rw [e] at hx
  unfold clr at hx
  split at hx
  · cases hx
  · exact h j x hx
theorem small_put {s : St} {a k x : Nat} (h : small s) (hx : x < 256) : small (ucel s (put (cel s) a k x)) := by
  intro j y hy
  have e : cel (ucel s (put (cel s) a k x)) j = put (cel s) a k x j := rfl
  rw [e] at hy
  unfold put at hy
  split at hy
  · cases hy; exact hx
  · exact h j y hy
theorem cel_u (s : St) (f : Nat → Option Nat) : cel (ucel s f) = f := rfl
theorem cel_l (s : St) (f : Nat → Nat) : cel (ulf s f) = cel s := rfl
theorem lf_l (s : St) (f : Nat → Nat) : lf (ulf s f) = f := rfl
theorem lf_u (s : St) (f : Nat → Option Nat) : lf (ucel s f) = lf s := rfl
theorem uclf (s : St) (f : Nat → Nat) (g : Nat → Option Nat) : ucel (ulf s f) g = ulf (ucel s g) f := rfl
def r5 (r : Nat) : Prop := r = 5
def r56 (r : Nat) : Prop := r = 5 ∨ r = 6
theorem c_vacate_loop {a n x : Nat} (hb : a + n ≤ 128) {s : St} (hs : small s) (ho : ∀ j, a ≤ j → j < a + n → cel s j = some x) {K : Int32 → Mem → Prop} : ∀ (e k : Nat) (μ : Mem), k + e = n → PR μ (pg (ucel s (clr (cel s) a k))) → (∀ μ1, PR μ1 (pg (ucel s (clr (cel s) a n))) → Fr r5 μ μ1 → ∀ l, K l μ1) → wP_vacate_2 (nI a) (nI n) K (e + 1) (nI (a + k)) μ := by
  intro e
  induction e with
  | zero =>
    intro k μ hk hP h
    have : k = n := by omega
    subst this
    unfold wP_vacate_2
    rw [nI_add, nI_leI (by omega) (by omega)]
    exact ⟨fun _ => h μ hP (Fr.refl μ) _, fun q => absurd (by omega) q⟩
  | succ e ih =>
    intro k μ hk hP h
    unfold wP_vacate_2
    have e4 : nI (a + k) / 4 = nI ((a + k) / 4) := nI_div (b := 4) (by omega) (by omega)
    rw [nI_add, nI_leI (by omega) (by omega), e4, nI_clamp (by omega), nI_1]
    refine ⟨fun q => absurd q (by omega), fun _ => ⟨(nI_vp (by omega)).mpr (by omega), ?_⟩⟩
    intro μ2 e2
    subst e2
    refine ih (k + 1) _ (by omega) ?_ (fun μ1 h1 hF l => h μ1 h1 ((Fr.sI (S := r5) rfl).trans hF) l)
    have h2 := hP.clr1 (c := a + k) (y := x) (small_clr hs) (by omega) (by
      show clr (cel s) a k (a + k) = some x
      unfold clr
      rw [if_neg (by omega)]
      exact ho _ (by omega) (by omega))
    rw [qq_ucel, cel_u, clr_s] at h2
    exact h2
theorem c_occupy_loop {a n x : Nat} (hb : a + n ≤ 128) (hx : x < 256) {s : St} (hs : small s) (ho : ∀ j, a ≤ j → j < a + n → cel s j = none) {K : Int32 → Mem → Prop} : ∀ (e k : Nat) (μ : Mem), k + e = n → PR μ (pg (ucel s (put (cel s) a k x))) → (∀ μ1, PR μ1 (pg (ucel s (put (cel s) a n x))) → Fr r5 μ μ1 → ∀ l, K l μ1) → wP_occupy_2 (nI a) (nI n) K (e + 1) (nI (a + k)) μ := by
  intro e
  induction e with
  | zero =>
    intro k μ hk hP h
    have : k = n := by omega
    subst this
    unfold wP_occupy_2
    rw [nI_add, nI_leI (by omega) (by omega)]
    exact ⟨fun _ => h μ hP (Fr.refl μ) _, fun q => absurd (by omega) q⟩
  | succ e ih =>
    intro k μ hk hP h
    unfold wP_occupy_2
    have e4 : nI (a + k) / 4 = nI ((a + k) / 4) := nI_div (b := 4) (by omega) (by omega)
    rw [nI_add, nI_leI (by omega) (by omega), e4, nI_clamp (by omega), nI_1]
    refine ⟨fun q => absurd q (by omega), fun _ => ⟨(nI_vp (by omega)).mpr (by omega), ?_⟩⟩
    intro μ2 e2
    subst e2
    refine ih (k + 1) _ (by omega) ?_ (fun μ1 h1 hF l => h μ1 h1 ((Fr.sI (S := r5) rfl).trans hF) l)
    have h2 := hP.put1 (c := a + k) (x := x) (small_put hs hx) hx (by omega) (by
      show put (cel s) a k x (a + k) = none
      unfold put
      rw [if_neg (by omega)]
      exact ho _ (by omega) (by omega))
    rw [qq_ucel, cel_u, put_s] at h2
    exact h2
theorem c_moveOut_loop {a n x : Nat} (hb : a + n ≤ 128) {s : St} (hs : small s) (ho : ∀ j, a ≤ j → j < a + n → cel s j = some x) {K : Int32 → Mem → Prop} : ∀ (e k : Nat) (μ : Mem), k + e = n → PR μ (pg (ulf (ucel s (clr (cel s) a k)) (mrk (lf s) a k))) → (∀ μ1, PR μ1 (pg (ulf (ucel s (clr (cel s) a n)) (mrk (lf s) a n))) → Fr r56 μ μ1 → ∀ l, K l μ1) → wP_moveOut_2 (nI a) (nI n) K (e + 1) (nI (a + k)) μ := by
  intro e
  induction e with
  | zero =>
    intro k μ hk hP h
    have : k = n := by omega
    subst this
    unfold wP_moveOut_2
    rw [nI_add, nI_leI (by omega) (by omega)]
    exact ⟨fun _ => h μ hP (Fr.refl μ) _, fun q => absurd (by omega) q⟩
  | succ e ih =>
    intro k μ hk hP h
    unfold wP_moveOut_2
    have e4 : nI (a + k) / 4 = nI ((a + k) / 4) := nI_div (b := 4) (by omega) (by omega)
    rw [nI_add, nI_leI (by omega) (by omega), e4, nI_clamp (by omega), nI_1]
    refine ⟨fun q => absurd q (by omega), fun _ => ⟨(nI_vp (by omega)).mpr (by omega), ?_⟩⟩
    intro μ2 e2 μ3 e3
    subst e2; subst e3
    refine ih (k + 1) _ (by omega) ?_ (fun μ1 h1 hF l => h μ1 h1 (((Fr.sI (S := r56) (Or.inl rfl)).trans (Fr.sI (Or.inr rfl))).trans hF) l)
    have h2 := PR.clr1 (s := ulf (ucel s (clr (cel s) a k)) (mrk (lf s) a k)) (c := a + k) (y := x) hP (small_clr (a := a) (k := k) hs : small (ucel s (clr (cel s) a k))) (by omega) (by
      show clr (cel s) a k (a + k) = some x
      unfold clr
      rw [if_neg (by omega)]
      exact ho _ (by omega) (by omega))
    have h3 := h2.mrk1 (l := (a + k) / 4) (by omega)
    rw [cel_l, cel_u, clr_s, uclf, qq_ucel, lf_l, qq_ulf, mrk_s] at h3
    exact h3
