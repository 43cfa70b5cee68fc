/-! A collection: both sides -/
theorem stN_mil {s : St} {β : Nat → Option Nat} (h : Inv s β) {n : Nat} (hn : 512 ≤ n) : stN n s = stN 512 s := stN_more s n (st_512 h) hn
theorem c_stepMany {s : St} {β : Nat → Option Nat} (h : Inv s β) {ι : Nat → Nat} {d : Int32} {μ : Mem} {post : Mem → Prop} (hM : CR μ s ι d (lv s)) (hp : ∀ μ1, CR μ1 (stN 512 s) ι d (lv (stN 512 s)) → Fr clS μ μ1 → post μ1) : wC_stepUpTo 1000000 post μ := by
  unfold wC_stepUpTo
  refine ⟨514, c_steps_loop (I := fun t => Inv t β) inv_stI (N := 1000000) (by omega) (ι := ι) (d := d) 512 0 s μ h (st_512 h) (by omega) hM (fun μ1 h1 hF u v => hp μ1 ?_ hF)⟩
  rw [Nat.sub_zero, stN_mil h (by omega)] at h1
  exact h1
theorem c_collect {s : St} (h : Ok s) {ι : Nat → Nat} {μ : Mem} {post : Mem → Prop} (hM : CR μ s ι 0 (lv s)) (hp : ∀ μ1, CR μ1 (cll s) ι 0 (lv (cll s)) → Fr clS μ μ1 → post μ1) : wC_collect post μ := by
  unfold wC_collect
  have h1 := ok_pz true h
  have h2 := ok_stN h1 512
  have h3 := ok_pz false h2
  refine c_pause (b := true) ⟨fun _ => by decide, fun _ => rfl⟩ h hM (fun μ1 m1 hF1 => ?_)
  refine c_stepMany h1.1 m1 (fun μ3 m3 hF3 => ?_)
  refine c_pause (b := false) ⟨fun q => (by cases q), fun q => absurd rfl q⟩ h2 m3 (fun μ4 m4 hF4 => ?_)
  exact c_drainMany h3.1 m4 (fun μ6 m6 hF6 => hp μ6 m6 (((hF1.trans hF3).trans hF4).trans hF6))
theorem m_collect {s : St} (h : Ok s) {μ : Mem} {post : Mem → Prop} (hM : MR μ s) (hp : ∀ μ1, MR μ1 (cll s) → Fr moS μ μ1 → post μ1) : wM_collect post μ := by
  unfold wM_collect
  have h1 := ok_pz true h
  have h2 := ok_stN h1 512
  have h3 := ok_pz false h2
  refine m_halt (b := true) ⟨fun _ => by decide, fun _ => rfl⟩ h hM (fun μ1 m1 hF1 => ⟨513, ?_⟩)
  refine m_collect_loop (I := fun t => Inv t (bf (pz true s))) inv_stI 512 _ μ1 h1.1 (st_512 h1.1) m1 (fun μ6 m6 hF6 => ?_)
  refine m_halt (b := false) ⟨fun q => (by cases q), fun q => absurd rfl q⟩ h2 m6 (fun μ7 m7 hF7 => ?_)
  unfold wM_drainAll
  exact ⟨263, m_drainAll_loop (I := fun t => Inv t (bf (pz false (stN 512 (pz true s))))) inv_drI 262 _ μ7 h3.1 (dr_262 h3.1) m7 (fun μ9 m9 hF9 => hp μ9 m9 (((hF1.trans hF6).trans hF7).trans hF9))⟩
