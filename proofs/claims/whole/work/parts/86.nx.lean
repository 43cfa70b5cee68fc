/-! The number that is tried next stays below 256 -/
theorem nx_dr1 (s : St) : nx (dr1 s) = nx s := by
  cases hrow : row s with
  | nil =>
    have : dr1 s = s := by unfold dr1; rw [hrow]
    rw [this]
  | cons x l =>
    by_cases h3 : ct s x = 3
    · rw [dr1_3 hrow h3]; rfl
    · by_cases h1 : ct s x = 1
      · rw [dr1_1 hrow h1]; rfl
      · rw [dr1_2 hrow h3 h1]; rfl
theorem nx_drN : ∀ (n : Nat) (s : St), nx (drN n s) = nx s := by
  intro n
  induction n with
  | zero => intro s; rfl
  | succ n ih =>
    intro s
    by_cases e : row s = []
    · rw [drN_nil e]
    · rw [drN_s e]
      exact (ih (dr1 s)).trans (nx_dr1 s)
theorem nx_st1 (s : St) : nx (st1 s) = nx s := by
  cases hl : lst (gry s) 128 0 with
  | none => rw [st1_none hl]
  | some a =>
    obtain ⟨x, ho, h2, h1⟩ := (lst_some hl).1
    rw [st1_some hl ho]
    rfl
theorem nx_stN : ∀ (n : Nat) (s : St), nx (stN n s) = nx s := by
  intro n
  induction n with
  | zero => intro s; rfl
  | succ n ih =>
    intro s
    by_cases e : noG s
    · rw [stN_nil e]
    · rw [stN_s e]
      exact (ih (st1 s)).trans (nx_st1 s)
theorem nx_cs1 (s : St) (v : Option Nat) : nx (cs1 s v) = nx s := by
  cases v with
  | none => rfl
  | some x =>
    by_cases h : sta s x = 1
    · rw [show cs1 s (some x) = sv s x from if_pos h]
      exact (shf_same (svA s x) x).2.2.2.2.2.2.2.1
    · rw [show cs1 s (some x) = uct s (up (ct s) x (if ct s x < 3 then ct s x + 1 else 3)) from if_neg h]
      rfl
theorem nx_csN : ∀ (f : Nat) (s : St) (r : List (Option Nat)) (n : Nat), nx (csN f s r n).1 = nx s := by
  intro f
  induction f with
  | zero => intro s r n; rfl
  | succ f ih =>
    intro s r n
    cases r with
    | nil => rfl
    | cons v l => exact (ih (cs1 s v) (l ++ nsl s v) (n + ny s v)).trans (nx_cs1 s v)
theorem nx_clb (s : St) (b k : Nat) : nx (clb s b k) = nx s := by
  induction k with
  | zero => rfl
  | succ k ih =>
    cases e : obj (clb s b k) (32 * b + k) with
    | none => rw [clb_n e]; exact ih
    | some x =>
      rw [clb_y e]
      exact (shf_same (clb s b k) x).2.2.2.2.2.2.2.1.trans ih
theorem nx_clear (s : St) : nx (clear s) = nx s := by
  unfold clear
  cases e : cB (uu s) 4 with
  | none => rfl
  | some b => exact nx_clb (ucl (fgt s) (nI b)) b 32
theorem nx_rc1 (s : St) (x : Nat) : nx (rc1 s x) = nx s := by
  unfold rc1
  split <;> rfl
theorem nx_rcN (s : St) (k : Nat) : nx (rcN s k) = nx s := by
  induction k with
  | zero => rfl
  | succ k ih =>
    cases e : obj (rcN s k) k with
    | none => rw [rcN_none e]; exact ih
    | some x =>
      rw [rcN_some e]
      split
      · exact (nx_rc1 _ x).trans ih
      · exact ih
theorem nx_bgn (t : St) : nx (bgn t) = nx t := rfl
theorem nx_pzE (t : St) : nx (pzE t) = nx t := rfl
theorem nx_wht (t : St) : nx (wht t) = nx t := rfl
theorem nx_swp (t : St) : nx (swp t) = nx t := rfl
theorem nx_utr (t : St) (v : Nat) : nx (utr t v) = nx t := rfl
theorem nx_fgt (t : St) : nx (fgt t) = nx t := rfl
theorem nx_elf (t : St) : nx (elf t) = nx t := rfl
theorem nx_lsQ (t : St) (Q : Nat → Prop) : nx (lsQ t Q) = nx t := rfl
theorem nx_qrl (t : St) : nx (qrl t) = nx t := rfl
theorem nx_stl (t : St) : nx (stl t) = nx t := by
  unfold stl cse
  rw [nx_qrl, nx_lsQ, nx_elf, nx_csN]
theorem nx_endT (t : St) : nx (endT t) = nx t := by
  unfold endT
  rw [nx_utr, nx_clear, nx_wht, nx_rcN, nx_swp]
theorem nx_pzC (t : St) : nx (pzC t) = nx t := by
  unfold pzC
  split
  · exact nx_endT t
  · rfl
theorem nx_pzD (b : Bool) (t : St) : nx (pzD b t) = nx t := by
  unfold pzD
  split
  · exact nx_bgn t
  · rfl
theorem nx_pz (b : Bool) (s : St) : nx (pz b s) = nx s := by
  unfold pz pzB pzA
  rw [nx_pzE, nx_pzD, nx_pzC, nx_stl, nx_fgt, nx_drN]
theorem nx_cll (s : St) : nx (cll s) = nx s := by
  unfold cll
  rw [nx_drN, nx_pz, nx_stN, nx_pz]
