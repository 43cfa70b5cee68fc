/-! What each method needs of the memory, and what it does to it: weakest preconditions (written by a program) -/
def wS_init (x : Nat) (post : Mem → Prop) (μ : Mem) : Prop :=
  post μ
def wP_init (x : Nat) (post : Mem → Prop) (μ : Mem) : Prop :=
  ∀ y1 μ2, y1 = mN μ → μ2 = newA μ 20 (32 : Int32).toNatClampNeg →
  okO μ2 x 41 ∧ ∀ μ4, μ4 = sR μ2 x 0 (some y1) →
  ∀ y5 μ6, y5 = mN μ4 → μ6 = newA μ4 21 (32 : Int32).toNatClampNeg →
  ∀ μ7, μ7 = sR μ6 x 1 (some y5) →
  ∀ y8 μ9, y8 = mN μ7 → μ9 = newO μ7 42 →
  wS_init y8 (fun μ10 => finOk μ10 y8 2 ∧ ∀ μ11, μ11 = finO μ10 y8 2 →
  okO μ11 x 41 ∧ ∀ μ14, μ14 = sR μ11 x 2 (some y8) →
  ∀ y15 μ16, y15 = mN μ14 → μ16 = newO μ14 42 →
  wS_init y15 (fun μ17 => finOk μ17 y15 2 ∧ ∀ μ18, μ18 = finO μ17 y15 2 →
  okO μ18 x 41 ∧ ∀ μ21, μ21 = sR μ18 x 3 (some y15) →
  ∀ μ22, μ22 = sI μ21 x 4 (-1) →
  post μ22) μ16) μ9
def wG_init (x : Nat) (post : Mem → Prop) (μ : Mem) : Prop :=
  ∀ y1 μ2, y1 = mN μ → μ2 = newA μ 22 (128 : Int32).toNatClampNeg →
  okO μ2 x 43 ∧ ∀ μ4, μ4 = sR μ2 x 0 (some y1) →
  ∀ y5 μ6, y5 = mN μ4 → μ6 = newA μ4 20 (128 : Int32).toNatClampNeg →
  ∀ μ7, μ7 = sR μ6 x 1 (some y5) →
  ∀ y8 μ9, y8 = mN μ7 → μ9 = newA μ7 22 (128 : Int32).toNatClampNeg →
  ∀ μ10, μ10 = sR μ9 x 2 (some y8) →
  post μ10
def wW_init (x : Nat) (post : Mem → Prop) (μ : Mem) : Prop :=
  ∀ y1 μ2, y1 = mN μ → μ2 = newA μ 22 (262 : Int32).toNatClampNeg →
  okO μ2 x 44 ∧ ∀ μ4, μ4 = sR μ2 x 0 (some y1) →
  post μ4
def wC_init (x : Nat) (post : Mem → Prop) (μ : Mem) : Prop :=
  ∀ y1 μ2, y1 = mN μ → μ2 = newA μ 22 (6 : Int32).toNatClampNeg →
  okO μ2 x 40 ∧ ∀ μ4, μ4 = sR μ2 x 0 (some y1) →
  ∀ y5 μ6, y5 = mN μ4 → μ6 = newA μ4 22 (6 : Int32).toNatClampNeg →
  ∀ μ7, μ7 = sR μ6 x 1 (some y5) →
  ∀ y8 μ9, y8 = mN μ7 → μ9 = newA μ7 22 (128 : Int32).toNatClampNeg →
  ∀ μ10, μ10 = sR μ9 x 2 (some y8) →
  ∀ y11 μ12, y11 = mN μ10 → μ12 = newO μ10 41 →
  wP_init y11 (fun μ13 => finOk μ13 y11 1 ∧ ∀ μ14, μ14 = finO μ13 y11 1 →
  okO μ14 x 40 ∧ ∀ μ17, μ17 = sR μ14 x 3 (some y11) →
  ∀ y18 μ19, y18 = mN μ17 → μ19 = newO μ17 43 →
  wG_init y18 (fun μ20 => finOk μ20 y18 3 ∧ ∀ μ21, μ21 = finO μ20 y18 3 →
  okO μ21 x 40 ∧ ∀ μ24, μ24 = sR μ21 x 4 (some y18) →
  ∀ y25 μ26, y25 = mN μ24 → μ26 = newO μ24 44 →
  wW_init y25 (fun μ27 => finOk μ27 y25 4 ∧ ∀ μ28, μ28 = finO μ27 y25 4 →
  okO μ28 x 40 ∧ ∀ μ31, μ31 = sR μ28 x 5 (some y25) →
  ∀ y32 μ33, y32 = mN μ31 → μ33 = newO μ31 44 →
  wW_init y32 (fun μ34 => finOk μ34 y32 4 ∧ ∀ μ35, μ35 = finO μ34 y32 4 →
  okO μ35 x 40 ∧ ∀ μ38, μ38 = sR μ35 x 6 (some y32) →
  post μ38) μ33) μ26) μ19) μ12
def wC_isRoot (a1 : Int32) (post : Int32 → Mem → Prop) (μ : Mem) : Prop :=
  ((a1 < 0 → post 0 μ) ∧
  (¬ a1 < 0 → ((6 ≤ a1 → post 0 μ) ∧
  (¬ 6 ≤ a1 → post 1 μ))))
def wS_has (x : Nat) (a1 : Int32) (post : Int32 → Mem → Prop) (μ : Mem) : Prop :=
  okO μ x 2 ∧ ((((mI μ x 2) - (mI μ x 1)) < a1 → post 0 μ) ∧
  (¬ ((mI μ x 2) - (mI μ x 1)) < a1 → post 1 μ))
def wS_take (x : Nat) (a1 : Int32) (post : Int32 → Mem → Prop) (μ : Mem) : Prop :=
  okO μ x 2 ∧ ∀ μ2, μ2 = sI μ x 1 ((mI μ x 1) + a1) →
  post (mI μ x 1) μ2
def wS_covers (x : Nat) (a1 : Int32) (post : Int32 → Mem → Prop) (μ : Mem) : Prop :=
  okO μ x 2 ∧ (((a1 * 4) < (mI μ x 0) → post 0 μ) ∧
  (¬ (a1 * 4) < (mI μ x 0) → (((mI μ x 2) ≤ (a1 * 4) → post 0 μ) ∧
  (¬ (mI μ x 2) ≤ (a1 * 4) → post 1 μ))))
def wP_isFree (a1 : Int32) (post : Int32 → Mem → Prop) (μ : Mem) : Prop :=
  vp_in a1 32 ∧ (((mI μ 5 (a1).toNatClampNeg) = 0 → (((mI μ 6 (a1).toNatClampNeg) = 0 → (((a1 / 8) = (mI μ 4 4) → post 0 μ) ∧
  (¬ (a1 / 8) = (mI μ 4 4) → wS_covers 7 a1 (fun r3 μ2 => ((r3 = 0 → wS_covers 8 a1 (fun r5 μ4 => ((r5 = 0 → post 1 μ4) ∧
  (¬ r5 = 0 → post 0 μ4))) μ2) ∧
  (¬ r3 = 0 → post 0 μ2))) μ))) ∧
  (¬ (mI μ 6 (a1).toNatClampNeg) = 0 → post 0 μ))) ∧
  (¬ (mI μ 5 (a1).toNatClampNeg) = 0 → post 0 μ))
def wS_open (x : Nat) (a1 : Int32) (a2 : Int32) (post : Mem → Prop) (μ : Mem) : Prop :=
  okO μ x 2 ∧ ∀ μ2, μ2 = sI μ x 0 (a1 * 4) →
  ∀ μ3, μ3 = sI μ2 x 1 (mI μ2 x 0) →
  ∀ μ4, μ4 = sI μ3 x 2 (a2 * 4) →
  post μ4
def wP_openOverflow_14 (l1 : Int32) (k : Int32 → Int32 → Mem → Prop) : Nat → Int32 → Int32 → Mem → Prop
  | 0, _, _, _ => False
  | n + 1, l2, l3, μ =>
  ((((l1 + 1) * 8) ≤ l3 → k l2 l3 μ) ∧
  (¬ ((l1 + 1) * 8) ≤ l3 → wP_isFree l3 (fun r2 μ1 => ((r2 = 0 → wP_openOverflow_14 l1 k n l2 (l3 + 1) μ1) ∧
  (¬ r2 = 0 → wP_openOverflow_14 l1 k n (l2 + 1) (l3 + 1) μ1))) μ))
def wP_openOverflow_2 (k : Int32 → Mem → Prop) (post : Int32 → Mem → Prop) : Nat → Int32 → Mem → Prop
  | 0, _, _ => False
  | n + 1, l1, μ =>
  ((4 ≤ l1 → k l1 μ) ∧
  (¬ 4 ≤ l1 → ∃ n7, wP_openOverflow_14 l1 (fun v4 v5 μ3 => ((v4 = 8 → wS_open 8 (l1 * 8) ((l1 + 1) * 8) (fun μ6 => post 1 μ6) μ3) ∧
  (¬ v4 = 8 → wP_openOverflow_2 k post n (l1 + 1) μ3))) n7 0 (l1 * 8) μ))
def wP_openOverflow (post : Int32 → Mem → Prop) (μ : Mem) : Prop :=
  ∃ n10, wP_openOverflow_2 (fun v9 μ8 => post 0 μ8) post n10 0 μ
def wS_endLine (x : Nat) (post : Int32 → Mem → Prop) (μ : Mem) : Prop :=
  okO μ x 2 ∧ post ((mI μ x 2) / 4) μ
def wP_openHole_47 (l4 : Int32) (k : Int32 → Mem → Prop) : Nat → Int32 → Mem → Prop
  | 0, _, _ => False
  | n + 1, l5, μ =>
  ((l4 ≤ l5 → k l5 μ) ∧
  (¬ l4 ≤ l5 → wP_isFree l5 (fun r6 μ5 => ((r6 = 0 → k l5 μ5) ∧
  (¬ r6 = 0 → wP_openHole_47 l4 k n (l5 + 1) μ5))) μ))
def wP_openHole_10 (l1 : Int32) (k : Int32 → Mem → Prop) (post : Int32 → Mem → Prop) : Nat → Int32 → Mem → Prop
  | 0, _, _ => False
  | n + 1, l2, μ =>
  ((32 ≤ l2 → k l2 μ) ∧
  (¬ 32 ≤ l2 → wP_isFree ((l1 + l2) - (l1 + l2) / 32 * 32) (fun r4 μ3 => ((r4 = 0 → wP_openHole_10 l1 k post n (l2 + 1) μ3) ∧
  (¬ r4 = 0 → ∃ n10, wP_openHole_47 (((((l1 + l2) - (l1 + l2) / 32 * 32) / 8) + 1) * 8) (fun v8 μ7 => wS_open 7 ((l1 + l2) - (l1 + l2) / 32 * 32) v8 (fun μ9 => post 1 μ9) μ7) n10 (((l1 + l2) - (l1 + l2) / 32 * 32) + 1) μ3))) μ))
def wP_openHole (post : Int32 → Mem → Prop) (μ : Mem) : Prop :=
  wS_endLine 7 (fun r2 μ1 => ∃ n13, wP_openHole_10 r2 (fun v12 μ11 => post 0 μ11) post n13 0 μ1) μ
def wP_find (a1 : Int32) (post : Int32 → Mem → Prop) (μ : Mem) : Prop :=
  wS_has 7 a1 (fun r2 μ1 => ((r2 = 0 → ((4 < a1 → wS_has 8 a1 (fun r4 μ3 => ((r4 = 0 → wP_openOverflow (fun r8 μ7 => ((r8 = 0 → post (-1) μ7) ∧
  (¬ r8 = 0 → wS_take 8 a1 (fun r10 μ9 => post r10 μ9) μ7))) μ3) ∧
  (¬ r4 = 0 → wS_take 8 a1 (fun r6 μ5 => post r6 μ5) μ3))) μ1) ∧
  (¬ 4 < a1 → wP_openHole (fun r12 μ11 => ((r12 = 0 → post (-1) μ11) ∧
  (¬ r12 = 0 → wS_take 7 a1 (fun r14 μ13 => post r14 μ13) μ11))) μ1))) ∧
  (¬ r2 = 0 → wS_take 7 a1 (fun r16 μ15 => post r16 μ15) μ1))) μ
def wI_init (x : Nat) (a1 : Int32) (a2 : Int32) (post : Mem → Prop) (μ : Mem) : Prop :=
  okO μ x 45 ∧ ∀ μ2, μ2 = sI μ x 0 a1 →
  ∀ μ3, μ3 = sI μ2 x 1 a2 →
  ¬ a1 < 0 ∧ a1.toNatClampNeg ≤ 12 ∧ ∀ y4 μ5, y4 = mN μ3 → μ5 = newA μ3 22 a1.toNatClampNeg →
  ∀ μ8, μ8 = sR μ5 x 2 (some y4) →
  ¬ a1 < 0 ∧ a1.toNatClampNeg ≤ 12 ∧ ∀ y9 μ10, y9 = mN μ8 → μ10 = newA μ8 21 a1.toNatClampNeg →
  ∀ μ13, μ13 = sR μ10 x 3 (some y9) →
  post μ13
def wP_occupy_2 (l1 : Int32) (l2 : Int32) (k : Int32 → Mem → Prop) : Nat → Int32 → Mem → Prop
  | 0, _, _ => False
  | n + 1, l3, μ =>
  (((l1 + l2) ≤ l3 → k l3 μ) ∧
  (¬ (l1 + l2) ≤ l3 → vp_in (l3 / 4) 32 ∧ ∀ μ2, μ2 = sI μ 5 (l3 / 4).toNatClampNeg ((mI μ 5 (l3 / 4).toNatClampNeg) + 1) →
  wP_occupy_2 l1 l2 k n (l3 + 1) μ2))
def wP_occupy (a1 : Int32) (a2 : Int32) (post : Mem → Prop) (μ : Mem) : Prop :=
  ∃ n5, wP_occupy_2 a1 a2 (fun v4 μ3 => post μ3) n5 a1 μ
def wC_settle (a1 : Nat) (a2 : Int32) (post : Mem → Prop) (μ : Mem) : Prop :=
  okO μ a1 5 ∧ ∀ μ2, μ2 = sI μ a1 4 a2 →
  vp_in a2 128 ∧ ∀ μ4, μ4 = sR μ2 3 (a2).toNatClampNeg (some a1) →
  wP_occupy a2 (mI μ4 a1 0) (fun μ5 => post μ5) μ4
def wW_takeFirst (x : Nat) (post : Option Nat → Mem → Prop) (μ : Mem) : Prop :=
  okO μ x 4 ∧ (((mI μ x 2) = 0 → post none μ) ∧
  (¬ (mI μ x 2) = 0 → okO μ (x + 1) 22 ∧ vp_in (mI μ x 1) (mL μ (x + 1)) ∧ ∀ e4, e4 = mR μ (x + 1) (mI μ x 1).toNatClampNeg →
  ∀ μ5, μ5 = sI μ x 1 (((mI μ x 1) + 1) - ((mI μ x 1) + 1) / 262 * 262) →
  ∀ μ6, μ6 = sI μ5 x 2 ((mI μ5 x 2) - 1) →
  post e4 μ6))
def wP_vacate_2 (l1 : Int32) (l2 : Int32) (k : Int32 → Mem → Prop) : Nat → Int32 → Mem → Prop
  | 0, _, _ => False
  | n + 1, l3, μ =>
  (((l1 + l2) ≤ l3 → k l3 μ) ∧
  (¬ (l1 + l2) ≤ l3 → vp_in (l3 / 4) 32 ∧ ∀ μ2, μ2 = sI μ 5 (l3 / 4).toNatClampNeg ((mI μ 5 (l3 / 4).toNatClampNeg) - 1) →
  wP_vacate_2 l1 l2 k n (l3 + 1) μ2))
def wP_vacate (a1 : Int32) (a2 : Int32) (post : Mem → Prop) (μ : Mem) : Prop :=
  ∃ n5, wP_vacate_2 a1 a2 (fun v4 μ3 => post μ3) n5 a1 μ
def wC_remove (a1 : Nat) (post : Mem → Prop) (μ : Mem) : Prop :=
  okO μ a1 5 ∧ vp_in (mI μ a1 4) 128 ∧ ∀ μ3, μ3 = sR μ 3 (mI μ a1 4).toNatClampNeg none →
  wP_vacate (mI μ3 a1 4) (mI μ3 a1 0) (fun μ4 => post μ4) μ3
def wW_add (x : Nat) (a1 : Option Nat) (post : Mem → Prop) (μ : Mem) : Prop :=
  okO μ x 4 ∧ ((262 ≤ (mI μ x 2) → post μ) ∧
  (¬ 262 ≤ (mI μ x 2) → okO μ (x + 1) 22 ∧ vp_in (((mI μ x 1) + (mI μ x 2)) - ((mI μ x 1) + (mI μ x 2)) / 262 * 262) (mL μ (x + 1)) ∧ (∀ y, a1 = some y → okO μ y 5) ∧ ∀ μ4, μ4 = sR μ (x + 1) (((mI μ x 1) + (mI μ x 2)) - ((mI μ x 1) + (mI μ x 2)) / 262 * 262).toNatClampNeg a1 →
  ∀ μ6, μ6 = sI μ4 x 2 ((mI μ4 x 2) + 1) →
  post μ6))
def wI_isOld (x : Nat) (post : Int32 → Mem → Prop) (μ : Mem) : Prop :=
  okO μ x 5 ∧ (((mI μ x 5) ≤ 0 → post 0 μ) ∧
  (¬ (mI μ x 5) ≤ 0 → post 1 μ))
def wI_isWhite (x : Nat) (post : Int32 → Mem → Prop) (μ : Mem) : Prop :=
  okO μ x 5 ∧ wI_isOld x (fun r3 μ2 => ((r3 = 0 → post 0 μ2) ∧
  (¬ r3 = 0 → okO μ2 x 5 ∧ (((mI μ2 x 6) = 0 → post 1 μ2) ∧
  (¬ (mI μ2 x 6) = 0 → post 0 μ2))))) μ
def wI_turnGreyIfWhite (x : Nat) (post : Mem → Prop) (μ : Mem) : Prop :=
  okO μ x 5 ∧ wI_isWhite x (fun r3 μ2 => ((r3 = 0 → post μ2) ∧
  (¬ r3 = 0 → okO μ2 x 5 ∧ ∀ μ5, μ5 = sI μ2 x 6 1 →
  post μ5))) μ
def wC_letGo_16 (l1 : Nat) (l2 : Nat) (l3 : Int32) (k : Int32 → Mem → Prop) : Nat → Int32 → Mem → Prop
  | 0, _, _ => False
  | n + 1, l4, μ =>
  ((l3 ≤ l4 → k l4 μ) ∧
  (¬ l3 ≤ l4 → okO μ l2 22 ∧ vp_in l4 (mL μ l2) ∧ ∀ e6, e6 = mR μ l2 (l4).toNatClampNeg →
  ((e6 = none → wC_letGo_16 l1 l2 l3 k n (l4 + 1) μ) ∧
  (∀ y7, e6 = some y7 → wW_add 13 (some y7) (fun μ8 => okO μ8 l1 5 ∧ (((mI μ8 l1 6) = 1 → okO μ8 y7 5 ∧ wI_turnGreyIfWhite y7 (fun μ11 => wC_letGo_16 l1 l2 l3 k n (l4 + 1) μ11) μ8) ∧
  (¬ (mI μ8 l1 6) = 1 → wC_letGo_16 l1 l2 l3 k n (l4 + 1) μ8))) μ))))
def wC_letGo (a1 : Nat) (post : Mem → Prop) (μ : Mem) : Prop :=
  wC_remove a1 (fun μ1 => okO μ1 a1 5 ∧ okO μ1 (a1 + 1) 22 ∧ ∃ n14, wC_letGo_16 a1 (a1 + 1) (nI (mL μ1 (a1 + 1))) (fun v13 μ12 => post μ12) n14 0 μ1) μ
def wC_drainUpTo_2 (l1 : Int32) (k : Int32 → Mem → Prop) : Nat → Int32 → Mem → Prop
  | 0, _, _ => False
  | n + 1, l2, μ =>
  ((l1 ≤ l2 → k l2 μ) ∧
  (¬ l1 ≤ l2 → (((mI μ 13 2) ≤ 0 → k l2 μ) ∧
  (¬ (mI μ 13 2) ≤ 0 → wW_takeFirst 13 (fun r2 μ1 => ((r2 = none → wC_drainUpTo_2 l1 k n (l2 + 1) μ1) ∧
  (∀ y3, r2 = some y3 → okO μ1 y3 5 ∧ (((mI μ1 y3 5) = 3 → wC_drainUpTo_2 l1 k n (l2 + 1) μ1) ∧
  (¬ (mI μ1 y3 5) = 3 → ∀ μ5, μ5 = sI μ1 y3 5 ((mI μ1 y3 5) - 1) →
  (((mI μ5 y3 5) = 0 → wC_letGo y3 (fun μ6 => wC_drainUpTo_2 l1 k n (l2 + 1) μ6) μ5) ∧
  (¬ (mI μ5 y3 5) = 0 → wC_drainUpTo_2 l1 k n (l2 + 1) μ5))))))) μ))))
def wC_drainUpTo (a1 : Int32) (post : Mem → Prop) (μ : Mem) : Prop :=
  ∃ n9, wC_drainUpTo_2 a1 (fun v8 μ7 => post μ7) n9 0 μ
def wP_close (post : Mem → Prop) (μ : Mem) : Prop :=
  wS_open 7 0 0 (fun μ1 => wS_open 8 0 0 (fun μ2 => post μ2) μ1) μ
def wW_clear (x : Nat) (post : Mem → Prop) (μ : Mem) : Prop :=
  okO μ x 4 ∧ ∀ μ2, μ2 = sI μ x 1 0 →
  ∀ μ3, μ3 = sI μ2 x 2 0 →
  post μ3
def wG_heldNow (a1 : Int32) (post : Option Nat → Mem → Prop) (μ : Mem) : Prop :=
  vp_in a1 128 ∧ ∀ e2, e2 = mR μ 10 (a1).toNatClampNeg →
  ∃ y3, e2 = some y3 ∧ okO μ y3 5 ∧ okO μ (y3 + 1) 22 ∧ vp_in (mI μ 11 (a1).toNatClampNeg) (mL μ (y3 + 1)) ∧ ∀ e7, e7 = mR μ (y3 + 1) (mI μ 11 (a1).toNatClampNeg).toNatClampNeg →
  post e7 μ
def wC_gatherSlots_17 (l2 : Int32) (k : Int32 → Mem → Prop) : Nat → Int32 → Mem → Prop
  | 0, _, _ => False
  | n + 1, l3, μ =>
  ((l2 ≤ l3 → k l3 μ) ∧
  (¬ l2 ≤ l3 → vp_in l3 6 ∧ ∀ e3, e3 = mR μ 1 (l3).toNatClampNeg →
  wW_add 15 e3 (fun μ4 => wC_gatherSlots_17 l2 k n (l3 + 1) μ4) μ))
def wC_gatherSlots_44 (k : Int32 → Mem → Prop) : Nat → Int32 → Mem → Prop
  | 0, _, _ => False
  | n + 1, l1, μ =>
  (((mI μ 9 3) ≤ l1 → k l1 μ) ∧
  (¬ (mI μ 9 3) ≤ l1 → wG_heldNow l1 (fun r8 μ7 => wW_add 15 r8 (fun μ9 => wC_gatherSlots_44 k n (l1 + 1) μ9) μ7) μ))
def wC_gatherSlots (post : Mem → Prop) (μ : Mem) : Prop :=
  wW_clear 15 (fun μ1 => ∃ n13, wC_gatherSlots_17 6 (fun v6 μ5 => ∃ n12, wC_gatherSlots_44 (fun v11 μ10 => post μ10) n12 0 μ5) n13 0 μ1) μ
def wW_get (x : Nat) (a1 : Int32) (post : Option Nat → Mem → Prop) (μ : Mem) : Prop :=
  ((a1 < 0 → post none μ) ∧
  (¬ a1 < 0 → okO μ x 4 ∧ (((mI μ x 2) ≤ a1 → post none μ) ∧
  (¬ (mI μ x 2) ≤ a1 → okO μ (x + 1) 22 ∧ vp_in (((mI μ x 1) + a1) - ((mI μ x 1) + a1) / 262 * 262) (mL μ (x + 1)) ∧ ∀ e4, e4 = mR μ (x + 1) (((mI μ x 1) + a1) - ((mI μ x 1) + a1) / 262 * 262).toNatClampNeg →
  post e4 μ))))
def wI_growOld (x : Nat) (a1 : Int32) (post : Mem → Prop) (μ : Mem) : Prop :=
  okO μ x 5 ∧ ∀ μ2, μ2 = sI μ x 5 1 →
  ∀ μ3, μ3 = sI μ2 x 6 a1 →
  post μ3
def wP_moveOut_2 (l1 : Int32) (l2 : Int32) (k : Int32 → Mem → Prop) : Nat → Int32 → Mem → Prop
  | 0, _, _ => False
  | n + 1, l3, μ =>
  (((l1 + l2) ≤ l3 → k l3 μ) ∧
  (¬ (l1 + l2) ≤ l3 → vp_in (l3 / 4) 32 ∧ ∀ μ2, μ2 = sI μ 5 (l3 / 4).toNatClampNeg ((mI μ 5 (l3 / 4).toNatClampNeg) - 1) →
  ∀ μ3, μ3 = sI μ2 6 (l3 / 4).toNatClampNeg 1 →
  wP_moveOut_2 l1 l2 k n (l3 + 1) μ3))
def wP_moveOut (a1 : Int32) (a2 : Int32) (post : Mem → Prop) (μ : Mem) : Prop :=
  ∃ n6, wP_moveOut_2 a1 a2 (fun v5 μ4 => post μ4) n6 a1 μ
def wC_moveTo (a1 : Nat) (a2 : Int32) (post : Mem → Prop) (μ : Mem) : Prop :=
  ((a2 = (-1) → post μ) ∧
  (¬ a2 = (-1) → okO μ a1 5 ∧ vp_in (mI μ a1 4) 128 ∧ ∀ μ3, μ3 = sR μ 3 (mI μ a1 4).toNatClampNeg none →
  wP_moveOut (mI μ3 a1 4) (mI μ3 a1 0) (fun μ4 => wC_settle a1 a2 (fun μ5 => ∀ μ6, μ6 = sI μ5 0 9 ((mI μ5 0 9) + 1) →
  post μ6) μ4) μ3))
def wC_addFieldsToSlots_11 (l2 : Nat) (l3 : Int32) (k : Int32 → Mem → Prop) : Nat → Int32 → Mem → Prop
  | 0, _, _ => False
  | n + 1, l4, μ =>
  ((l3 ≤ l4 → k l4 μ) ∧
  (¬ l3 ≤ l4 → okO μ l2 22 ∧ vp_in l4 (mL μ l2) ∧ ∀ e5, e5 = mR μ l2 (l4).toNatClampNeg →
  wW_add 15 e5 (fun μ6 => wC_addFieldsToSlots_11 l2 l3 k n (l4 + 1) μ6) μ))
def wC_addFieldsToSlots (a1 : Nat) (post : Mem → Prop) (μ : Mem) : Prop :=
  okO μ a1 5 ∧ okO μ (a1 + 1) 22 ∧ ∃ n9, wC_addFieldsToSlots_11 (a1 + 1) (nI (mL μ (a1 + 1))) (fun v8 μ7 => post μ7) n9 0 μ
def wP_forgetMovedOut_2 (k : Int32 → Mem → Prop) : Nat → Int32 → Mem → Prop
  | 0, _, _ => False
  | n + 1, l1, μ =>
  ((32 ≤ l1 → k l1 μ) ∧
  (¬ 32 ≤ l1 → vp_in l1 32 ∧ ∀ μ2, μ2 = sI μ 6 (l1).toNatClampNeg 0 →
  wP_forgetMovedOut_2 k n (l1 + 1) μ2))
def wP_forgetMovedOut (post : Mem → Prop) (μ : Mem) : Prop :=
  ∃ n5, wP_forgetMovedOut_2 (fun v4 μ3 => post μ3) n5 0 μ
def wC_countSlots_82 (l1 : Int32) (l2 : Int32) (l3 : Nat) (t0 : Nat) (t1 : Int32) (k8 : Int32 → Int32 → Mem → Prop) (μ : Mem) : Prop :=
  okO μ t0 5 ∧ wI_growOld t0 t1 (fun μ9 => okO μ9 l3 5 ∧ wP_find (mI μ9 l3 0) (fun r12 μ11 => wC_moveTo l3 r12 (fun μ13 => wC_addFieldsToSlots l3 (fun μ14 => k8 l1 (l2 + 1) μ14) μ13) μ11) μ9) μ
def wC_countSlots_8 (k : Int32 → Int32 → Mem → Prop) : Nat → Int32 → Int32 → Mem → Prop
  | 0, _, _, _ => False
  | n + 1, l1, l2, μ =>
  ((262 ≤ l2 → k l1 l2 μ) ∧
  (¬ 262 ≤ l2 → (((mI μ 15 2) ≤ l2 → k l1 l2 μ) ∧
  (¬ (mI μ 15 2) ≤ l2 → wW_get 15 l2 (fun r3 μ2 => ((r3 = none → wC_countSlots_8 k n l1 (l2 + 1) μ2) ∧
  (∀ y4, r3 = some y4 → okO μ2 y4 5 ∧ wI_isOld y4 (fun r7 μ6 => ((r7 = 0 → (((mI μ6 0 7) = 0 → wC_countSlots_82 (l1 + 1) l2 y4 y4 0 (wC_countSlots_8 k n) μ6) ∧
  (¬ (mI μ6 0 7) = 0 → wC_countSlots_82 (l1 + 1) l2 y4 y4 2 (wC_countSlots_8 k n) μ6))) ∧
  (¬ r7 = 0 → okO μ6 y4 5 ∧ ∀ μ16, μ16 = sI μ6 y4 5 (jmin ((mI μ6 y4 5) + 1) 3) →
  wC_countSlots_8 k n l1 (l2 + 1) μ16))) μ2))) μ))))
def wC_countSlots (post : Int32 → Mem → Prop) (μ : Mem) : Prop :=
  wC_gatherSlots (fun μ1 => ∃ n21, wC_countSlots_8 (fun v18 v19 μ17 => wP_forgetMovedOut (fun μ20 => post v18 μ20) μ17) n21 0 0 μ1) μ
def wC_loseYoung_10 (l2 : Int32) (k : Int32 → Mem → Prop) : Nat → Int32 → Mem → Prop
  | 0, _, _ => False
  | n + 1, l3, μ =>
  ((l2 ≤ l3 → k l3 μ) ∧
  (¬ l2 ≤ l3 → vp_in l3 128 ∧ ∀ e2, e2 = mR μ 3 (l3).toNatClampNeg →
  ((e2 = none → wC_loseYoung_10 l2 k n (l3 + 1) μ) ∧
  (∀ y3, e2 = some y3 → okO μ y3 5 ∧ wI_isOld y3 (fun r6 μ5 => ((r6 = 0 → wC_remove y3 (fun μ7 => wC_loseYoung_10 l2 k n (l3 + 1) μ7) μ5) ∧
  (¬ r6 = 0 → wC_loseYoung_10 l2 k n (l3 + 1) μ5))) μ))))
def wC_loseYoung (post : Mem → Prop) (μ : Mem) : Prop :=
  ∃ n10, wC_loseYoung_10 128 (fun v9 μ8 => post μ8) n10 0 μ
def wG_heldBefore (a1 : Int32) (post : Option Nat → Mem → Prop) (μ : Mem) : Prop :=
  vp_in a1 128 ∧ ∀ e2, e2 = mR μ 12 (a1).toNatClampNeg →
  post e2 μ
def wG_clear_2 (k : Int32 → Mem → Prop) : Nat → Int32 → Mem → Prop
  | 0, _, _ => False
  | n + 1, l1, μ =>
  (((mI μ 9 3) ≤ l1 → k l1 μ) ∧
  (¬ (mI μ 9 3) ≤ l1 → vp_in l1 128 ∧ ∀ e2, e2 = mR μ 10 (l1).toNatClampNeg →
  ∃ y3, e2 = some y3 ∧ okO μ y3 5 ∧ okO μ (y3 + 2) 21 ∧ vp_in (mI μ 11 (l1).toNatClampNeg) (mL μ (y3 + 2)) ∧ ∀ μ7, μ7 = sI μ (y3 + 2) (mI μ 11 (l1).toNatClampNeg).toNatClampNeg 0 →
  wG_clear_2 k n (l1 + 1) μ7))
def wG_clear (post : Mem → Prop) (μ : Mem) : Prop :=
  ∃ n11, wG_clear_2 (fun v9 μ8 => ∀ μ10, μ10 = sI μ8 9 3 0 →
  post μ10) n11 0 μ
def wC_queueRootsAndLog_10 (l2 : Int32) (k : Int32 → Mem → Prop) : Nat → Int32 → Mem → Prop
  | 0, _, _ => False
  | n + 1, l3, μ =>
  ((l2 ≤ l3 → k l3 μ) ∧
  (¬ l2 ≤ l3 → vp_in l3 6 ∧ ∀ e2, e2 = mR μ 2 (l3).toNatClampNeg →
  ((e2 = none → wC_queueRootsAndLog_10 l2 k n (l3 + 1) μ) ∧
  (∀ y3, e2 = some y3 → wW_add 13 (some y3) (fun μ4 => wC_queueRootsAndLog_10 l2 k n (l3 + 1) μ4) μ))))
def wC_queueRootsAndLog_42 (k : Int32 → Mem → Prop) : Nat → Int32 → Mem → Prop
  | 0, _, _ => False
  | n + 1, l1, μ =>
  (((mI μ 9 3) ≤ l1 → k l1 μ) ∧
  (¬ (mI μ 9 3) ≤ l1 → wG_heldBefore l1 (fun r8 μ7 => ((r8 = none → wC_queueRootsAndLog_42 k n (l1 + 1) μ7) ∧
  (∀ y9, r8 = some y9 → wW_add 13 (some y9) (fun μ10 => (((mI μ10 0 7) = 0 → wC_queueRootsAndLog_42 k n (l1 + 1) μ10) ∧
  (¬ (mI μ10 0 7) = 0 → okO μ10 y9 5 ∧ wI_turnGreyIfWhite y9 (fun μ12 => wC_queueRootsAndLog_42 k n (l1 + 1) μ12) μ10))) μ7))) μ))
def wC_queueRootsAndLog (post : Mem → Prop) (μ : Mem) : Prop :=
  ∃ n17, wC_queueRootsAndLog_10 6 (fun v6 μ5 => ∃ n16, wC_queueRootsAndLog_42 (fun v14 μ13 => wG_clear (fun μ15 => post μ15) μ13) n16 0 μ5) n17 0 μ
def wC_rememberRoots_2 (k : Int32 → Mem → Prop) : Nat → Int32 → Mem → Prop
  | 0, _, _ => False
  | n + 1, l1, μ =>
  ((6 ≤ l1 → k l1 μ) ∧
  (¬ 6 ≤ l1 → vp_in l1 6 ∧ ∀ e2, e2 = mR μ 1 (l1).toNatClampNeg →
  (∀ y, e2 = some y → okO μ y 5) ∧ ∀ μ3, μ3 = sR μ 2 (l1).toNatClampNeg e2 →
  wC_rememberRoots_2 k n (l1 + 1) μ3))
def wC_rememberRoots (post : Mem → Prop) (μ : Mem) : Prop :=
  ∃ n7, wC_rememberRoots_2 (fun v6 μ5 => post μ5) n7 0 μ
def wC_beginTrace_15 (l2 : Int32) (k : Int32 → Mem → Prop) : Nat → Int32 → Mem → Prop
  | 0, _, _ => False
  | n + 1, l3, μ =>
  ((l2 ≤ l3 → k l3 μ) ∧
  (¬ l2 ≤ l3 → vp_in l3 6 ∧ ∀ e3, e3 = mR μ 1 (l3).toNatClampNeg →
  ((e3 = none → wC_beginTrace_15 l2 k n (l3 + 1) μ) ∧
  (∀ y4, e3 = some y4 → okO μ y4 5 ∧ wI_turnGreyIfWhite y4 (fun μ6 => wC_beginTrace_15 l2 k n (l3 + 1) μ6) μ))))
def wC_beginTrace (post : Mem → Prop) (μ : Mem) : Prop :=
  ∀ μ1, μ1 = sI μ 0 7 1 →
  ∃ n9, wC_beginTrace_15 6 (fun v8 μ7 => post μ7) n9 0 μ1
def wC_countGrey_13 (l3 : Int32) (k : Int32 → Int32 → Mem → Prop) : Nat → Int32 → Int32 → Mem → Prop
  | 0, _, _, _ => False
  | n + 1, l1, l4, μ =>
  ((l3 ≤ l4 → k l1 l4 μ) ∧
  (¬ l3 ≤ l4 → vp_in l4 128 ∧ ∀ e2, e2 = mR μ 3 (l4).toNatClampNeg →
  ((e2 = none → wC_countGrey_13 l3 k n l1 (l4 + 1) μ) ∧
  (∀ y3, e2 = some y3 → okO μ y3 5 ∧ (((mI μ y3 6) = 1 → wC_countGrey_13 l3 k n (l1 + 1) (l4 + 1) μ) ∧
  (¬ (mI μ y3 6) = 1 → wC_countGrey_13 l3 k n l1 (l4 + 1) μ))))))
def wC_countGrey (post : Int32 → Mem → Prop) (μ : Mem) : Prop :=
  ∃ n8, wC_countGrey_13 128 (fun v6 v7 μ5 => post v6 μ5) n8 0 0 μ
def wC_loseWhite_67 (l5 : Nat) (l6 : Int32) (k : Int32 → Mem → Prop) : Nat → Int32 → Mem → Prop
  | 0, _, _ => False
  | n + 1, l7, μ =>
  ((l6 ≤ l7 → k l7 μ) ∧
  (¬ l6 ≤ l7 → okO μ l5 22 ∧ vp_in l7 (mL μ l5) ∧ ∀ e13, e13 = mR μ l5 (l7).toNatClampNeg →
  ((e13 = none → wC_loseWhite_67 l5 l6 k n (l7 + 1) μ) ∧
  (∀ y14, e13 = some y14 → okO μ y14 5 ∧ wI_isWhite y14 (fun r17 μ16 => ((r17 = 0 → wW_add 13 (some y14) (fun μ18 => wC_loseWhite_67 l5 l6 k n (l7 + 1) μ18) μ16) ∧
  (¬ r17 = 0 → wC_loseWhite_67 l5 l6 k n (l7 + 1) μ16))) μ))))
def wC_loseWhite_10 (l2 : Int32) (k : Int32 → Mem → Prop) : Nat → Int32 → Mem → Prop
  | 0, _, _ => False
  | n + 1, l3, μ =>
  ((l2 ≤ l3 → k l3 μ) ∧
  (¬ l2 ≤ l3 → vp_in l3 128 ∧ ∀ e2, e2 = mR μ 3 (l3).toNatClampNeg →
  ((e2 = none → wC_loseWhite_10 l2 k n (l3 + 1) μ) ∧
  (∀ y3, e2 = some y3 → okO μ y3 5 ∧ wI_isWhite y3 (fun r6 μ5 => ((r6 = 0 → wC_loseWhite_10 l2 k n (l3 + 1) μ5) ∧
  (¬ r6 = 0 → wC_remove y3 (fun μ7 => ∀ μ8, μ8 = sI μ7 0 10 ((mI μ7 0 10) + 1) →
  okO μ8 y3 5 ∧ okO μ8 (y3 + 1) 22 ∧ ∃ n21, wC_loseWhite_67 (y3 + 1) (nI (mL μ8 (y3 + 1))) (fun v20 μ19 => wC_loseWhite_10 l2 k n (l3 + 1) μ19) n21 0 μ8) μ5))) μ))))
def wC_loseWhite (post : Mem → Prop) (μ : Mem) : Prop :=
  ∃ n24, wC_loseWhite_10 128 (fun v23 μ22 => post μ22) n24 0 μ
def wW_countOf_4 (l0 : Nat) (l1 : Nat) (k : Int32 → Int32 → Mem → Prop) : Nat → Int32 → Int32 → Mem → Prop
  | 0, _, _, _ => False
  | n + 1, l2, l3, μ =>
  okO μ l0 4 ∧ (((mI μ l0 2) ≤ l3 → k l2 l3 μ) ∧
  (¬ (mI μ l0 2) ≤ l3 → okO μ (l0 + 1) 22 ∧ vp_in (((mI μ l0 1) + l3) - ((mI μ l0 1) + l3) / 262 * 262) (mL μ (l0 + 1)) ∧ ∀ e4, e4 = mR μ (l0 + 1) (((mI μ l0 1) + l3) - ((mI μ l0 1) + l3) / 262 * 262).toNatClampNeg →
  ((e4 = (some l1) → wW_countOf_4 l0 l1 k n (l2 + 1) (l3 + 1) μ) ∧
  (¬ e4 = (some l1) → wW_countOf_4 l0 l1 k n l2 (l3 + 1) μ))))
def wW_countOf (x : Nat) (a1 : Nat) (post : Int32 → Mem → Prop) (μ : Mem) : Prop :=
  ∃ n8, wW_countOf_4 x a1 (fun v6 v7 μ5 => post v6 μ5) n8 0 0 μ
def wI_countFieldsHolding_14 (l1 : Nat) (l3 : Nat) (l4 : Int32) (k : Int32 → Int32 → Mem → Prop) : Nat → Int32 → Int32 → Mem → Prop
  | 0, _, _, _ => False
  | n + 1, l2, l5, μ =>
  ((l4 ≤ l5 → k l2 l5 μ) ∧
  (¬ l4 ≤ l5 → okO μ l3 22 ∧ vp_in l5 (mL μ l3) ∧ ∀ e5, e5 = mR μ l3 (l5).toNatClampNeg →
  ((e5 = (some l1) → wI_countFieldsHolding_14 l1 l3 l4 k n (l2 + 1) (l5 + 1) μ) ∧
  (¬ e5 = (some l1) → wI_countFieldsHolding_14 l1 l3 l4 k n l2 (l5 + 1) μ))))
def wI_countFieldsHolding (x : Nat) (a1 : Nat) (post : Int32 → Mem → Prop) (μ : Mem) : Prop :=
  okO μ x 5 ∧ okO μ (x + 1) 22 ∧ ∃ n9, wI_countFieldsHolding_14 a1 (x + 1) (nI (mL μ (x + 1))) (fun v7 v8 μ6 => post v7 μ6) n9 0 0 μ
def wC_countHolders_21 (l1 : Nat) (l4 : Int32) (k : Int32 → Int32 → Mem → Prop) : Nat → Int32 → Int32 → Mem → Prop
  | 0, _, _, _ => False
  | n + 1, l2, l5, μ =>
  ((l4 ≤ l5 → k l2 l5 μ) ∧
  (¬ l4 ≤ l5 → vp_in l5 6 ∧ ∀ e4, e4 = mR μ 1 (l5).toNatClampNeg →
  ((e4 = (some l1) → wC_countHolders_21 l1 l4 k n (l2 + 1) (l5 + 1) μ) ∧
  (¬ e4 = (some l1) → wC_countHolders_21 l1 l4 k n l2 (l5 + 1) μ))))
def wC_countHolders_61 (l1 : Nat) (l4 : Int32) (k : Int32 → Int32 → Mem → Prop) : Nat → Int32 → Int32 → Mem → Prop
  | 0, _, _, _ => False
  | n + 1, l2, l5, μ =>
  ((l4 ≤ l5 → k l2 l5 μ) ∧
  (¬ l4 ≤ l5 → vp_in l5 128 ∧ ∀ e9, e9 = mR μ 3 (l5).toNatClampNeg →
  ((e9 = none → wC_countHolders_61 l1 l4 k n l2 (l5 + 1) μ) ∧
  (∀ y10, e9 = some y10 → okO μ y10 5 ∧ wI_countFieldsHolding y10 l1 (fun r13 μ12 => wC_countHolders_61 l1 l4 k n (l2 + r13) (l5 + 1) μ12) μ))))
def wC_countHolders (a1 : Nat) (post : Int32 → Mem → Prop) (μ : Mem) : Prop :=
  wW_countOf 13 a1 (fun r2 μ1 => ∃ n18, wC_countHolders_21 a1 6 (fun v6 v7 μ5 => ∃ n17, wC_countHolders_61 a1 128 (fun v15 v16 μ14 => post v15 μ14) n17 v6 0 μ5) n18 r2 0 μ1) μ
def wC_recountStuck_10 (l2 : Int32) (k : Int32 → Mem → Prop) : Nat → Int32 → Mem → Prop
  | 0, _, _ => False
  | n + 1, l3, μ =>
  ((l2 ≤ l3 → k l3 μ) ∧
  (¬ l2 ≤ l3 → vp_in l3 128 ∧ ∀ e2, e2 = mR μ 3 (l3).toNatClampNeg →
  ((e2 = none → wC_recountStuck_10 l2 k n (l3 + 1) μ) ∧
  (∀ y3, e2 = some y3 → okO μ y3 5 ∧ (((mI μ y3 5) = 3 → wC_countHolders y3 (fun r6 μ5 => okO μ5 y3 5 ∧ ∀ μ8, μ8 = sI μ5 y3 5 (jmin r6 3) →
  (((mI μ8 y3 5) = 0 → wC_letGo y3 (fun μ9 => wC_recountStuck_10 l2 k n (l3 + 1) μ9) μ8) ∧
  (¬ (mI μ8 y3 5) = 0 → wC_recountStuck_10 l2 k n (l3 + 1) μ8))) μ) ∧
  (¬ (mI μ y3 5) = 3 → wC_recountStuck_10 l2 k n (l3 + 1) μ))))))
def wC_recountStuck (post : Mem → Prop) (μ : Mem) : Prop :=
  ∃ n12, wC_recountStuck_10 128 (fun v11 μ10 => post μ10) n12 0 μ
def wC_whitenAll_10 (l2 : Int32) (k : Int32 → Mem → Prop) : Nat → Int32 → Mem → Prop
  | 0, _, _ => False
  | n + 1, l3, μ =>
  ((l2 ≤ l3 → k l3 μ) ∧
  (¬ l2 ≤ l3 → vp_in l3 128 ∧ ∀ e2, e2 = mR μ 3 (l3).toNatClampNeg →
  ((e2 = none → wC_whitenAll_10 l2 k n (l3 + 1) μ) ∧
  (∀ y3, e2 = some y3 → okO μ y3 5 ∧ ∀ μ5, μ5 = sI μ y3 6 0 →
  wC_whitenAll_10 l2 k n (l3 + 1) μ5))))
def wC_whitenAll (post : Mem → Prop) (μ : Mem) : Prop :=
  ∃ n8, wC_whitenAll_10 128 (fun v7 μ6 => post μ6) n8 0 μ
def wP_isUsed (a1 : Int32) (post : Int32 → Mem → Prop) (μ : Mem) : Prop :=
  vp_in a1 32 ∧ ((0 < (mI μ 5 (a1).toNatClampNeg) → post 1 μ) ∧
  (¬ 0 < (mI μ 5 (a1).toNatClampNeg) → (((mI μ 6 (a1).toNatClampNeg) = 0 → post 0 μ) ∧
  (¬ (mI μ 6 (a1).toNatClampNeg) = 0 → post 1 μ))))
def wP_usedLines_7 (l1 : Int32) (k : Int32 → Int32 → Mem → Prop) : Nat → Int32 → Int32 → Mem → Prop
  | 0, _, _, _ => False
  | n + 1, l2, l3, μ =>
  ((((l1 + 1) * 8) ≤ l3 → k l2 l3 μ) ∧
  (¬ ((l1 + 1) * 8) ≤ l3 → wP_isUsed l3 (fun r2 μ1 => ((r2 = 0 → wP_usedLines_7 l1 k n l2 (l3 + 1) μ1) ∧
  (¬ r2 = 0 → wP_usedLines_7 l1 k n (l2 + 1) (l3 + 1) μ1))) μ))
def wP_usedLines (a1 : Int32) (post : Int32 → Mem → Prop) (μ : Mem) : Prop :=
  ∃ n6, wP_usedLines_7 a1 (fun v4 v5 μ3 => post v4 μ3) n6 0 (a1 * 8) μ
def wP_sparsestBlock_6 (k : Int32 → Int32 → Int32 → Mem → Prop) : Nat → Int32 → Int32 → Int32 → Mem → Prop
  | 0, _, _, _, _ => False
  | n + 1, l1, l2, l3, μ =>
  ((4 ≤ l3 → k l1 l2 l3 μ) ∧
  (¬ 4 ≤ l3 → wP_usedLines l3 (fun r2 μ1 => ((r2 ≤ 0 → wP_sparsestBlock_6 k n l1 l2 (l3 + 1) μ1) ∧
  (¬ r2 ≤ 0 → ((l2 ≤ r2 → wP_sparsestBlock_6 k n l1 l2 (l3 + 1) μ1) ∧
  (¬ l2 ≤ r2 → wP_sparsestBlock_6 k n l3 r2 (l3 + 1) μ1))))) μ))
def wP_sparsestBlock (post : Int32 → Mem → Prop) (μ : Mem) : Prop :=
  ∃ n7, wP_sparsestBlock_6 (fun v4 v5 v6 μ3 => post v4 μ3) n7 (-1) 4 0 μ
def wP_shut (a1 : Int32) (post : Mem → Prop) (μ : Mem) : Prop :=
  ∀ μ1, μ1 = sI μ 4 4 a1 →
  post μ1
def wC_clearSparsestBlock_31 (l1 : Int32) (k : Int32 → Mem → Prop) : Nat → Int32 → Mem → Prop
  | 0, _, _ => False
  | n + 1, l2, μ =>
  ((32 ≤ l2 → k l2 μ) ∧
  (¬ 32 ≤ l2 → vp_in ((l1 * 32) + l2) 128 ∧ ∀ e6, e6 = mR μ 3 ((l1 * 32) + l2).toNatClampNeg →
  ((e6 = none → wC_clearSparsestBlock_31 l1 k n (l2 + 1) μ) ∧
  (∀ y7, e6 = some y7 → okO μ y7 5 ∧ wP_find (mI μ y7 0) (fun r10 μ9 => wC_moveTo y7 r10 (fun μ11 => wC_clearSparsestBlock_31 l1 k n (l2 + 1) μ11) μ9) μ))))
def wC_clearSparsestBlock (post : Mem → Prop) (μ : Mem) : Prop :=
  wP_sparsestBlock (fun r2 μ1 => ((r2 = (-1) → post μ1) ∧
  (¬ r2 = (-1) → wP_close (fun μ3 => wP_shut r2 (fun μ4 => ∃ n16, wC_clearSparsestBlock_31 r2 (fun v13 μ12 => wP_shut (-1) (fun μ14 => wP_forgetMovedOut (fun μ15 => post μ15) μ14) μ12) n16 0 μ4) μ3) μ1))) μ
def wC_pause_71 (l1 : Int32) (l2 : Int32) (post : Int32 → Mem → Prop) (μ : Mem) : Prop :=
  ((l1 = 0 → wP_close (fun μ8 => wC_rememberRoots (fun μ9 => post l2 μ9) μ8) μ) ∧
  (¬ l1 = 0 → (((mI μ 0 7) = 0 → wC_beginTrace (fun μ12 => wP_close (fun μ13 => wC_rememberRoots (fun μ14 => post l2 μ14) μ13) μ12) μ) ∧
  (¬ (mI μ 0 7) = 0 → wP_close (fun μ10 => wC_rememberRoots (fun μ11 => post l2 μ11) μ10) μ))))
def wC_pause (a1 : Int32) (post : Int32 → Mem → Prop) (μ : Mem) : Prop :=
  ∀ μ1, μ1 = sI μ 0 8 ((mI μ 0 8) + 1) →
  wC_drainUpTo 1000000 (fun μ2 => wP_close (fun μ3 => wC_countSlots (fun r5 μ4 => wC_loseYoung (fun μ6 => wC_queueRootsAndLog (fun μ7 => (((mI μ7 0 7) = 0 → wC_pause_71 a1 r5 post μ7) ∧
  (¬ (mI μ7 0 7) = 0 → wC_countGrey (fun r16 μ15 => ((r16 = 0 → wC_loseWhite (fun μ17 => wC_recountStuck (fun μ18 => wC_whitenAll (fun μ19 => wC_clearSparsestBlock (fun μ20 => ∀ μ21, μ21 = sI μ20 0 7 0 →
  wC_pause_71 a1 r5 post μ21) μ19) μ18) μ17) μ15) ∧
  (¬ r16 = 0 → wC_pause_71 a1 r5 post μ15))) μ7))) μ6) μ4) μ3) μ2) μ1
def wC_blacken_15 (l1 : Nat) (l2 : Int32) (k : Int32 → Mem → Prop) : Nat → Int32 → Mem → Prop
  | 0, _, _ => False
  | n + 1, l3, μ =>
  ((l2 ≤ l3 → k l3 μ) ∧
  (¬ l2 ≤ l3 → okO μ l1 22 ∧ vp_in l3 (mL μ l1) ∧ ∀ e6, e6 = mR μ l1 (l3).toNatClampNeg →
  ((e6 = none → wC_blacken_15 l1 l2 k n (l3 + 1) μ) ∧
  (∀ y7, e6 = some y7 → okO μ y7 5 ∧ wI_turnGreyIfWhite y7 (fun μ9 => wC_blacken_15 l1 l2 k n (l3 + 1) μ9) μ))))
def wC_blacken (a1 : Nat) (post : Mem → Prop) (μ : Mem) : Prop :=
  okO μ a1 5 ∧ ∀ μ2, μ2 = sI μ a1 6 2 →
  okO μ2 (a1 + 1) 22 ∧ ∃ n12, wC_blacken_15 (a1 + 1) (nI (mL μ2 (a1 + 1))) (fun v11 μ10 => post μ10) n12 0 μ2
def wC_blackenFirstGrey_10 (l2 : Int32) (k : Int32 → Mem → Prop) (post : Int32 → Mem → Prop) : Nat → Int32 → Mem → Prop
  | 0, _, _ => False
  | n + 1, l3, μ =>
  ((l2 ≤ l3 → k l3 μ) ∧
  (¬ l2 ≤ l3 → vp_in l3 128 ∧ ∀ e2, e2 = mR μ 3 (l3).toNatClampNeg →
  ((e2 = none → wC_blackenFirstGrey_10 l2 k post n (l3 + 1) μ) ∧
  (∀ y3, e2 = some y3 → okO μ y3 5 ∧ (((mI μ y3 6) = 1 → wC_blacken y3 (fun μ5 => post 1 μ5) μ) ∧
  (¬ (mI μ y3 6) = 1 → wC_blackenFirstGrey_10 l2 k post n (l3 + 1) μ))))))
def wC_blackenFirstGrey (post : Int32 → Mem → Prop) (μ : Mem) : Prop :=
  ∃ n8, wC_blackenFirstGrey_10 128 (fun v7 μ6 => post 0 μ6) post n8 0 μ
def wC_stepUpTo_4 (l1 : Int32) (k : Int32 → Int32 → Mem → Prop) : Nat → Int32 → Int32 → Mem → Prop
  | 0, _, _, _ => False
  | n + 1, l2, l3, μ =>
  ((l1 ≤ l3 → k l2 l3 μ) ∧
  (¬ l1 ≤ l3 → ((l2 = 0 → k l2 l3 μ) ∧
  (¬ l2 = 0 → wC_blackenFirstGrey (fun r2 μ1 => wC_stepUpTo_4 l1 k n r2 (l3 + 1) μ1) μ))))
def wC_stepUpTo (a1 : Int32) (post : Mem → Prop) (μ : Mem) : Prop :=
  ∃ n6, wC_stepUpTo_4 a1 (fun v4 v5 μ3 => post μ3) n6 1 0 μ
def wC_collect (post : Mem → Prop) (μ : Mem) : Prop :=
  wC_pause 1 (fun r2 μ1 => wC_stepUpTo 1000000 (fun μ3 => wC_pause 0 (fun r5 μ4 => wC_drainUpTo 1000000 (fun μ6 => post μ6) μ4) μ3) μ1) μ
def wC_allocate_56 (l1 : Int32) (l2 : Int32) (l3 : Int32) (l4 : Int32) (pe : Nat → Mem → Prop) (post : Int32 → Mem → Prop) (μ : Mem) : Prop :=
  ((l4 = (-1) → pe 10 (bump μ 10)) ∧
  (¬ l4 = (-1) → ∀ y5 μ6, y5 = mN μ → μ6 = newO μ 45 →
  wI_init y5 l2 l3 (fun μ7 => finOk μ7 y5 5 ∧ ∀ μ8, μ8 = finO μ7 y5 5 →
  wC_settle y5 l4 (fun μ10 => vp_in l1 6 ∧ okO μ10 y5 5 ∧ ∀ μ12, μ12 = sR μ10 1 (l1).toNatClampNeg (some y5) →
  post l4 μ12) μ8) μ6))
def wC_allocate (a1 : Int32) (a2 : Int32) (a3 : Int32) (pe : Nat → Mem → Prop) (post : Int32 → Mem → Prop) (μ : Mem) : Prop :=
  wC_isRoot a1 (fun r2 μ1 => ((r2 = 0 → pe 7 (bump μ1 7)) ∧
  (¬ r2 = 0 → ((a2 < 1 → pe 7 (bump μ1 7)) ∧
  (¬ a2 < 1 → ((a2 ≤ 12 → wP_find a2 (fun r4 μ3 => ((r4 = (-1) → wC_collect (fun μ14 => wP_find a2 (fun r16 μ15 => wC_allocate_56 a1 a2 a3 r16 pe post μ15) μ14) μ3) ∧
  (¬ r4 = (-1) → wC_allocate_56 a1 a2 a3 r4 pe post μ3))) μ1) ∧
  (¬ a2 ≤ 12 → pe 7 (bump μ1 7)))))))) μ
def wC_drop (a1 : Int32) (pe : Nat → Mem → Prop) (post : Mem → Prop) (μ : Mem) : Prop :=
  wC_isRoot a1 (fun r2 μ1 => ((r2 = 0 → pe 7 (bump μ1 7)) ∧
  (¬ r2 = 0 → vp_in a1 6 ∧ ∀ μ4, μ4 = sR μ1 1 (a1).toNatClampNeg none →
  post μ4))) μ
def wC_copy (a1 : Int32) (a2 : Int32) (pe : Nat → Mem → Prop) (post : Mem → Prop) (μ : Mem) : Prop :=
  wC_isRoot a1 (fun r2 μ1 => ((r2 = 0 → pe 7 (bump μ1 7)) ∧
  (¬ r2 = 0 → wC_isRoot a2 (fun r4 μ3 => ((r4 = 0 → pe 7 (bump μ3 7)) ∧
  (¬ r4 = 0 → vp_in a2 6 ∧ ∀ e6, e6 = mR μ3 1 (a2).toNatClampNeg →
  vp_in a1 6 ∧ (∀ y, e6 = some y → okO μ3 y 5) ∧ ∀ μ8, μ8 = sR μ3 1 (a1).toNatClampNeg e6 →
  post μ8))) μ1))) μ
def wI_hasField (x : Nat) (a1 : Int32) (post : Int32 → Mem → Prop) (μ : Mem) : Prop :=
  ((a1 < 0 → post 0 μ) ∧
  (¬ a1 < 0 → okO μ x 5 ∧ (((mI μ x 0) ≤ a1 → post 0 μ) ∧
  (¬ (mI μ x 0) ≤ a1 → post 1 μ))))
def wC_itemWithField (a1 : Int32) (a2 : Int32) (a3 : Int32) (pe : Nat → Mem → Prop) (post : Nat → Mem → Prop) (μ : Mem) : Prop :=
  wC_isRoot a1 (fun r2 μ1 => ((r2 = 0 → pe 7 (bump μ1 7)) ∧
  (¬ r2 = 0 → wC_isRoot a3 (fun r4 μ3 => ((r4 = 0 → pe 7 (bump μ3 7)) ∧
  (¬ r4 = 0 → vp_in a1 6 ∧ ∀ e6, e6 = mR μ3 1 (a1).toNatClampNeg →
  ((e6 = none → pe 8 (bump μ3 8)) ∧
  (∀ y7, e6 = some y7 → okO μ3 y7 5 ∧ wI_hasField y7 a2 (fun r10 μ9 => ((r10 = 0 → pe 9 (bump μ9 9)) ∧
  (¬ r10 = 0 → post y7 μ9))) μ3))))) μ1))) μ
def wC_addressOf (a1 : Option Nat) (post : Int32 → Mem → Prop) (μ : Mem) : Prop :=
  ((a1 = none → post (-1) μ) ∧
  (∀ y1, a1 = some y1 → okO μ y1 5 ∧ post (mI μ y1 4) μ))
def wC_load (a1 : Int32) (a2 : Int32) (a3 : Int32) (pe : Nat → Mem → Prop) (post : Int32 → Mem → Prop) (μ : Mem) : Prop :=
  wC_itemWithField a2 a3 a1 pe (fun y2 μ1 => okO μ1 y2 5 ∧ okO μ1 (y2 + 1) 22 ∧ vp_in a3 (mL μ1 (y2 + 1)) ∧ ∀ e6, e6 = mR μ1 (y2 + 1) (a3).toNatClampNeg →
  vp_in a1 6 ∧ (∀ y, e6 = some y → okO μ1 y 5) ∧ ∀ μ8, μ8 = sR μ1 1 (a1).toNatClampNeg e6 →
  ∀ e10, e10 = mR μ8 1 (a1).toNatClampNeg →
  wC_addressOf e10 (fun r12 μ11 => post r12 μ11) μ8) μ
def wG_add (a1 : Nat) (a2 : Int32) (post : Mem → Prop) (μ : Mem) : Prop :=
  ((128 ≤ (mI μ 9 3) → post μ) ∧
  (¬ 128 ≤ (mI μ 9 3) → vp_in (mI μ 9 3) 128 ∧ okO μ a1 5 ∧ ∀ μ2, μ2 = sR μ 10 (mI μ 9 3).toNatClampNeg (some a1) →
  vp_in (mI μ2 9 3) 128 ∧ ∀ μ5, μ5 = sI μ2 11 (mI μ2 9 3).toNatClampNeg a2 →
  okO μ5 (a1 + 1) 22 ∧ vp_in a2 (mL μ5 (a1 + 1)) ∧ ∀ e8, e8 = mR μ5 (a1 + 1) (a2).toNatClampNeg →
  vp_in (mI μ5 9 3) 128 ∧ (∀ y, e8 = some y → okO μ5 y 5) ∧ ∀ μ10, μ10 = sR μ5 12 (mI μ5 9 3).toNatClampNeg e8 →
  okO μ10 (a1 + 2) 21 ∧ vp_in a2 (mL μ10 (a1 + 2)) ∧ ∀ μ14, μ14 = sI μ10 (a1 + 2) (a2).toNatClampNeg 1 →
  ∀ μ15, μ15 = sI μ14 9 3 ((mI μ14 9 3) + 1) →
  post μ15))
def wC_store (a1 : Int32) (a2 : Int32) (a3 : Int32) (pe : Nat → Mem → Prop) (post : Mem → Prop) (μ : Mem) : Prop :=
  wC_itemWithField a1 a2 a3 pe (fun y2 μ1 => okO μ1 y2 5 ∧ wI_isOld y2 (fun r5 μ4 => ((r5 = 0 → okO μ4 y2 5 ∧ vp_in a3 6 ∧ ∀ e8, e8 = mR μ4 1 (a3).toNatClampNeg →
  okO μ4 (y2 + 1) 22 ∧ vp_in a2 (mL μ4 (y2 + 1)) ∧ (∀ y, e8 = some y → okO μ4 y 5) ∧ ∀ μ11, μ11 = sR μ4 (y2 + 1) (a2).toNatClampNeg e8 →
  post μ11) ∧
  (¬ r5 = 0 → okO μ4 y2 5 ∧ okO μ4 (y2 + 2) 21 ∧ vp_in a2 (mL μ4 (y2 + 2)) ∧ (((mI μ4 (y2 + 2) (a2).toNatClampNeg) = 0 → wG_add y2 a2 (fun μ22 => okO μ22 y2 5 ∧ vp_in a3 6 ∧ ∀ e25, e25 = mR μ22 1 (a3).toNatClampNeg →
  okO μ22 (y2 + 1) 22 ∧ vp_in a2 (mL μ22 (y2 + 1)) ∧ (∀ y, e25 = some y → okO μ22 y 5) ∧ ∀ μ28, μ28 = sR μ22 (y2 + 1) (a2).toNatClampNeg e25 →
  post μ28) μ4) ∧
  (¬ (mI μ4 (y2 + 2) (a2).toNatClampNeg) = 0 → vp_in a3 6 ∧ ∀ e17, e17 = mR μ4 1 (a3).toNatClampNeg →
  okO μ4 (y2 + 1) 22 ∧ vp_in a2 (mL μ4 (y2 + 1)) ∧ (∀ y, e17 = some y → okO μ4 y 5) ∧ ∀ μ20, μ20 = sR μ4 (y2 + 1) (a2).toNatClampNeg e17 →
  post μ20))))) μ1) μ
def wC_drain (a1 : Int32) (pe : Nat → Mem → Prop) (post : Int32 → Mem → Prop) (μ : Mem) : Prop :=
  ((0 ≤ a1 → wC_drainUpTo a1 (fun μ1 => post (mI μ1 13 2) μ1) μ) ∧
  (¬ 0 ≤ a1 → pe 7 (bump μ 7)))
def wC_trace (a1 : Int32) (pe : Nat → Mem → Prop) (post : Int32 → Mem → Prop) (μ : Mem) : Prop :=
  ((0 ≤ a1 → (((mI μ 0 7) = 0 → pe 8 (bump μ 8)) ∧
  (¬ (mI μ 0 7) = 0 → wC_stepUpTo a1 (fun μ1 => wC_countGrey (fun r3 μ2 => post r3 μ2) μ1) μ))) ∧
  (¬ 0 ≤ a1 → pe 7 (bump μ 7)))
def wC_root (a1 : Int32) (pe : Nat → Mem → Prop) (post : Int32 → Mem → Prop) (μ : Mem) : Prop :=
  wC_isRoot a1 (fun r2 μ1 => ((r2 = 0 → pe 7 (bump μ1 7)) ∧
  (¬ r2 = 0 → vp_in a1 6 ∧ ∀ e4, e4 = mR μ1 1 (a1).toNatClampNeg →
  wC_addressOf e4 (fun r6 μ5 => post r6 μ5) μ1))) μ
def wC_itemOrNull (a1 : Int32) (post : Option Nat → Mem → Prop) (μ : Mem) : Prop :=
  ((a1 < 0 → post none μ) ∧
  (¬ a1 < 0 → ((128 ≤ a1 → post none μ) ∧
  (¬ 128 ≤ a1 → vp_in a1 128 ∧ ∀ e2, e2 = mR μ 3 (a1).toNatClampNeg →
  post e2 μ))))
def wC_field (a1 : Int32) (a2 : Int32) (pe : Nat → Mem → Prop) (post : Int32 → Mem → Prop) (μ : Mem) : Prop :=
  wC_itemOrNull a1 (fun r2 μ1 => ((r2 = none → pe 11 (bump μ1 11)) ∧
  (∀ y3, r2 = some y3 → okO μ1 y3 5 ∧ wI_hasField y3 a2 (fun r6 μ5 => ((r6 = 0 → pe 9 (bump μ5 9)) ∧
  (¬ r6 = 0 → okO μ5 y3 5 ∧ okO μ5 (y3 + 1) 22 ∧ vp_in a2 (mL μ5 (y3 + 1)) ∧ ∀ e10, e10 = mR μ5 (y3 + 1) (a2).toNatClampNeg →
  wC_addressOf e10 (fun r12 μ11 => post r12 μ11) μ5))) μ1))) μ
def wC_object (a1 : Int32) (a2 : Int32) (pe : Nat → Mem → Prop) (post : Int32 → Mem → Prop) (μ : Mem) : Prop :=
  ((a2 < 0 → pe 7 (bump μ 7)) ∧
  (¬ a2 < 0 → ((a2 ≤ 3 → wC_itemOrNull a1 (fun r2 μ1 => ((r2 = none → pe 11 (bump μ1 11)) ∧
  (∀ y3, r2 = some y3 → ((a2 = 0 → okO μ1 y3 5 ∧ post (mI μ1 y3 0) μ1) ∧
  (a2 = 1 → okO μ1 y3 5 ∧ post (mI μ1 y3 1) μ1) ∧
  (a2 = 2 → okO μ1 y3 5 ∧ post (mI μ1 y3 5) μ1) ∧
  (¬ a2 = 0 → ¬ a2 = 1 → ¬ a2 = 2 → okO μ1 y3 5 ∧ post (mI μ1 y3 6) μ1))))) μ) ∧
  (¬ a2 ≤ 3 → pe 7 (bump μ 7)))))
def wC_line (a1 : Int32) (pe : Nat → Mem → Prop) (post : Int32 → Mem → Prop) (μ : Mem) : Prop :=
  ((a1 < 0 → pe 9 (bump μ 9)) ∧
  (¬ a1 < 0 → ((a1 < 32 → wP_isUsed a1 (fun r2 μ1 => ((r2 = 0 → wP_isFree a1 (fun r4 μ3 => ((r4 = 0 → post 2 μ3) ∧
  (¬ r4 = 0 → post 0 μ3))) μ1) ∧
  (¬ r2 = 0 → post 1 μ1))) μ) ∧
  (¬ a1 < 32 → pe 9 (bump μ 9)))))
def wC_countItems_13 (l3 : Int32) (k : Int32 → Int32 → Mem → Prop) : Nat → Int32 → Int32 → Mem → Prop
  | 0, _, _, _ => False
  | n + 1, l1, l4, μ =>
  ((l3 ≤ l4 → k l1 l4 μ) ∧
  (¬ l3 ≤ l4 → vp_in l4 128 ∧ ∀ e2, e2 = mR μ 3 (l4).toNatClampNeg →
  ((e2 = none → wC_countItems_13 l3 k n l1 (l4 + 1) μ) ∧
  (∀ y3, e2 = some y3 → wC_countItems_13 l3 k n (l1 + 1) (l4 + 1) μ))))
def wC_countItems (post : Int32 → Mem → Prop) (μ : Mem) : Prop :=
  ∃ n7, wC_countItems_13 128 (fun v5 v6 μ4 => post v5 μ4) n7 0 0 μ
def wC_countYoung_13 (l3 : Int32) (k : Int32 → Int32 → Mem → Prop) : Nat → Int32 → Int32 → Mem → Prop
  | 0, _, _, _ => False
  | n + 1, l1, l4, μ =>
  ((l3 ≤ l4 → k l1 l4 μ) ∧
  (¬ l3 ≤ l4 → vp_in l4 128 ∧ ∀ e2, e2 = mR μ 3 (l4).toNatClampNeg →
  ((e2 = none → wC_countYoung_13 l3 k n l1 (l4 + 1) μ) ∧
  (∀ y3, e2 = some y3 → okO μ y3 5 ∧ wI_isOld y3 (fun r6 μ5 => ((r6 = 0 → wC_countYoung_13 l3 k n (l1 + 1) (l4 + 1) μ5) ∧
  (¬ r6 = 0 → wC_countYoung_13 l3 k n l1 (l4 + 1) μ5))) μ))))
def wC_countYoung (post : Int32 → Mem → Prop) (μ : Mem) : Prop :=
  ∃ n10, wC_countYoung_13 128 (fun v8 v9 μ7 => post v8 μ7) n10 0 0 μ
def wC_figure (a1 : Int32) (pe : Nat → Mem → Prop) (post : Int32 → Mem → Prop) (μ : Mem) : Prop :=
  ((a1 = 0 → wC_countItems (fun r2 μ1 => post r2 μ1) μ) ∧
  (a1 = 1 → wC_countYoung (fun r4 μ3 => post r4 μ3) μ) ∧
  (a1 = 2 → post (mI μ 13 2) μ) ∧
  (a1 = 3 → post (mI μ 9 3) μ) ∧
  (a1 = 4 → post (mI μ 0 8) μ) ∧
  (a1 = 5 → (((mI μ 0 7) = 0 → post 0 μ) ∧
  (¬ (mI μ 0 7) = 0 → post 1 μ))) ∧
  (a1 = 6 → post (mI μ 0 9) μ) ∧
  (a1 = 7 → post (mI μ 0 10) μ) ∧
  (a1 = 8 → wC_countGrey (fun r6 μ5 => post r6 μ5) μ) ∧
  (¬ a1 = 0 → ¬ a1 = 1 → ¬ a1 = 2 → ¬ a1 = 3 → ¬ a1 = 4 → ¬ a1 = 5 → ¬ a1 = 6 → ¬ a1 = 7 → ¬ a1 = 8 → pe 7 (bump μ 7)))
def wM_init_162 (l0 : Nat) (k : Int32 → Mem → Prop) : Nat → Int32 → Mem → Prop
  | 0, _, _ => False
  | n + 1, l1, μ =>
  ((128 ≤ l1 → k l1 μ) ∧
  (¬ 128 ≤ l1 → okO μ l0 6 ∧ okO μ (l0 + 1) 20 ∧ vp_in l1 (mL μ (l0 + 1)) ∧ ∀ μ56, μ56 = sI μ (l0 + 1) (l1).toNatClampNeg (-1) →
  wM_init_162 l0 k n (l1 + 1) μ56))
def wM_init_184 (l0 : Nat) (k : Int32 → Mem → Prop) : Nat → Int32 → Mem → Prop
  | 0, _, _ => False
  | n + 1, l1, μ =>
  ((6 ≤ l1 → k l1 μ) ∧
  (¬ 6 ≤ l1 → okO μ l0 6 ∧ okO μ (l0 + 10) 20 ∧ vp_in l1 (mL μ (l0 + 10)) ∧ ∀ μ62, μ62 = sI μ (l0 + 10) (l1).toNatClampNeg (-1) →
  okO μ62 (l0 + 11) 20 ∧ vp_in l1 (mL μ62 (l0 + 11)) ∧ ∀ μ65, μ65 = sI μ62 (l0 + 11) (l1).toNatClampNeg (-1) →
  wM_init_184 l0 k n (l1 + 1) μ65))
def wM_init (x : Nat) (post : Mem → Prop) (μ : Mem) : Prop :=
  ∀ y1 μ2, y1 = mN μ → μ2 = newA μ 20 (128 : Int32).toNatClampNeg →
  okO μ2 x 46 ∧ ∀ μ4, μ4 = sR μ2 x 1 (some y1) →
  ∀ y5 μ6, y5 = mN μ4 → μ6 = newA μ4 20 (256 : Int32).toNatClampNeg →
  ∀ μ7, μ7 = sR μ6 x 2 (some y5) →
  ∀ y8 μ9, y8 = mN μ7 → μ9 = newA μ7 20 (256 : Int32).toNatClampNeg →
  ∀ μ10, μ10 = sR μ9 x 3 (some y8) →
  ∀ y11 μ12, y11 = mN μ10 → μ12 = newA μ10 20 (256 : Int32).toNatClampNeg →
  ∀ μ13, μ13 = sR μ12 x 4 (some y11) →
  ∀ y14 μ15, y14 = mN μ13 → μ15 = newA μ13 20 (256 : Int32).toNatClampNeg →
  ∀ μ16, μ16 = sR μ15 x 5 (some y14) →
  ∀ y17 μ18, y17 = mN μ16 → μ18 = newA μ16 20 (256 : Int32).toNatClampNeg →
  ∀ μ19, μ19 = sR μ18 x 6 (some y17) →
  ∀ y20 μ21, y20 = mN μ19 → μ21 = newA μ19 20 (256 : Int32).toNatClampNeg →
  ∀ μ22, μ22 = sR μ21 x 7 (some y20) →
  ∀ y23 μ24, y23 = mN μ22 → μ24 = newA μ22 20 (3072 : Int32).toNatClampNeg →
  ∀ μ25, μ25 = sR μ24 x 8 (some y23) →
  ∀ y26 μ27, y26 = mN μ25 → μ27 = newA μ25 21 (3072 : Int32).toNatClampNeg →
  ∀ μ28, μ28 = sR μ27 x 9 (some y26) →
  ∀ y29 μ30, y29 = mN μ28 → μ30 = newA μ28 20 (6 : Int32).toNatClampNeg →
  ∀ μ31, μ31 = sR μ30 x 11 (some y29) →
  ∀ y32 μ33, y32 = mN μ31 → μ33 = newA μ31 20 (6 : Int32).toNatClampNeg →
  ∀ μ34, μ34 = sR μ33 x 12 (some y32) →
  ∀ μ35, μ35 = sI μ34 x 13 (-1) →
  ∀ μ36, μ36 = sI μ35 x 16 (-1) →
  ∀ y37 μ38, y37 = mN μ36 → μ38 = newA μ36 21 (32 : Int32).toNatClampNeg →
  ∀ μ39, μ39 = sR μ38 x 18 (some y37) →
  ∀ μ40, μ40 = sI μ39 x 19 (-1) →
  ∀ y41 μ42, y41 = mN μ40 → μ42 = newA μ40 20 (700 : Int32).toNatClampNeg →
  ∀ μ43, μ43 = sR μ42 x 20 (some y41) →
  ∀ y44 μ45, y44 = mN μ43 → μ45 = newA μ43 20 (160 : Int32).toNatClampNeg →
  ∀ μ46, μ46 = sR μ45 x 22 (some y44) →
  ∀ y47 μ48, y47 = mN μ46 → μ48 = newA μ46 20 (160 : Int32).toNatClampNeg →
  ∀ μ49, μ49 = sR μ48 x 23 (some y47) →
  ∀ y50 μ51, y50 = mN μ49 → μ51 = newA μ49 20 (400 : Int32).toNatClampNeg →
  ∀ μ52, μ52 = sR μ51 x 25 (some y50) →
  finOk μ52 x 6 ∧ ∀ μ53, μ53 = finO μ52 x 6 →
  ∃ n69, wM_init_162 x (fun v58 μ57 => ∃ n68, wM_init_184 x (fun v67 μ66 => post μ66) n68 0 μ57) n69 0 μ53
def wM_thrown (post : Int32 → Mem → Prop) (μ : Mem) : Prop :=
  post (mI μ 17 0) μ
def wM_isUsed_11 (l1 : Int32) (k : Int32 → Int32 → Mem → Prop) : Nat → Int32 → Int32 → Mem → Prop
  | 0, _, _, _ => False
  | n + 1, l2, l3, μ =>
  ((((4 * l1) + 4) ≤ l3 → k l2 l3 μ) ∧
  (¬ ((4 * l1) + 4) ≤ l3 → ((l2 = 0 → vp_in l3 128 ∧ (((mI μ 18 (l3).toNatClampNeg) < 0 → wM_isUsed_11 l1 k n 0 (l3 + 1) μ) ∧
  (¬ (mI μ 18 (l3).toNatClampNeg) < 0 → wM_isUsed_11 l1 k n 1 (l3 + 1) μ))) ∧
  (¬ l2 = 0 → wM_isUsed_11 l1 k n 1 (l3 + 1) μ))))
def wM_isUsed (a1 : Int32) (post : Int32 → Mem → Prop) (μ : Mem) : Prop :=
  vp_in a1 32 ∧ ∃ n7, wM_isUsed_11 a1 (fun v4 v5 μ3 => zb v4 ∧ post v4 μ3) n7 (mI μ 29 (a1).toNatClampNeg) (4 * a1) μ
def wM_isTaken_23 (l1 : Int32) (post : Int32 → Mem → Prop) (μ : Mem) : Prop :=
  (((mI μ 17 16) < 0 → post 0 μ) ∧
  (¬ (mI μ 17 16) < 0 → (((l1 / 8) = (mI μ 17 16) → post 1 μ) ∧
  (¬ (l1 / 8) = (mI μ 17 16) → post 0 μ))))
def wM_isTaken (a1 : Int32) (post : Int32 → Mem → Prop) (μ : Mem) : Prop :=
  (((mI μ 17 13) < 0 → wM_isTaken_23 a1 post μ) ∧
  (¬ (mI μ 17 13) < 0 → ((a1 < (mI μ 17 13) → wM_isTaken_23 a1 post μ) ∧
  (¬ a1 < (mI μ 17 13) → ((a1 < (mI μ 17 14) → post 1 μ) ∧
  (¬ a1 < (mI μ 17 14) → wM_isTaken_23 a1 post μ))))))
def wM_isFree (a1 : Int32) (post : Int32 → Mem → Prop) (μ : Mem) : Prop :=
  wM_isUsed a1 (fun r2 μ1 => ((r2 = 0 → wM_isTaken a1 (fun r4 μ3 => ((r4 = 0 → (((a1 / 8) = (mI μ3 17 19) → post 0 μ3) ∧
  (¬ (a1 / 8) = (mI μ3 17 19) → post 1 μ3))) ∧
  (¬ r4 = 0 → post 0 μ3))) μ1) ∧
  (¬ r2 = 0 → post 0 μ1))) μ
def wM_isFreeBlock_7 (l1 : Int32) (k : Int32 → Int32 → Mem → Prop) : Nat → Int32 → Int32 → Mem → Prop
  | 0, _, _, _ => False
  | n + 1, l2, l3, μ =>
  ((((8 * l1) + 8) ≤ l3 → k l2 l3 μ) ∧
  (¬ ((8 * l1) + 8) ≤ l3 → ((l2 = 0 → wM_isFreeBlock_7 l1 k n 0 (l3 + 1) μ) ∧
  (¬ l2 = 0 → wM_isFree l3 (fun r2 μ1 => ((r2 = 0 → wM_isFreeBlock_7 l1 k n 0 (l3 + 1) μ1) ∧
  (¬ r2 = 0 → wM_isFreeBlock_7 l1 k n 1 (l3 + 1) μ1))) μ))))
def wM_isFreeBlock (a1 : Int32) (post : Int32 → Mem → Prop) (μ : Mem) : Prop :=
  ∃ n7, wM_isFreeBlock_7 a1 (fun v4 v5 μ3 => zb v4 ∧ post v4 μ3) n7 1 (8 * a1) μ
def wM_forget (post : Mem → Prop) (μ : Mem) : Prop :=
  ∀ μ1, μ1 = sI μ 17 13 (-1) →
  ∀ μ2, μ2 = sI μ1 17 16 (-1) →
  post μ2
def wM_placeInBlock_45 (k : Int32 → Mem → Prop) : Nat → Int32 → Mem → Prop
  | 0, _, _ => False
  | n + 1, l2, μ =>
  ((4 ≤ l2 → k l2 μ) ∧
  (¬ 4 ≤ l2 → wM_isFreeBlock l2 (fun r2 μ1 => ((r2 = 0 → wM_placeInBlock_45 k n (l2 + 1) μ1) ∧
  (¬ r2 = 0 → k l2 μ1))) μ))
def wM_placeInBlock_64 (l1 : Int32) (l2 : Int32) (post : Int32 → Mem → Prop) (μ : Mem) : Prop :=
  ((l2 = 4 → post (-1) μ) ∧
  (¬ l2 = 4 → ∀ μ5, μ5 = sI μ 17 16 l2 →
  ∀ μ6, μ6 = sI μ5 17 17 ((32 * l2) + l1) →
  post (32 * l2) μ6))
def wM_placeInBlock_43 (l1 : Int32) (post : Int32 → Mem → Prop) (μ : Mem) : Prop :=
  ∃ n7, wM_placeInBlock_45 (fun v4 μ3 => wM_placeInBlock_64 l1 v4 post μ3) n7 0 μ
def wM_placeInBlock (a1 : Int32) (post : Int32 → Mem → Prop) (μ : Mem) : Prop :=
  (((mI μ 17 16) < 0 → wM_placeInBlock_43 a1 post μ) ∧
  (¬ (mI μ 17 16) < 0 → ((((32 * (mI μ 17 16)) + 32) < ((mI μ 17 17) + a1) → wM_placeInBlock_43 a1 post μ) ∧
  (¬ ((32 * (mI μ 17 16)) + 32) < ((mI μ 17 17) + a1) → ∀ μ8, μ8 = sI μ 17 17 ((mI μ 17 17) + a1) →
  post ((mI μ8 17 17) - a1) μ8))))
def wM_placeInLines_18 (l2 : Int32) (k : Int32 → Mem → Prop) : Nat → Int32 → Mem → Prop
  | 0, _, _ => False
  | n + 1, l3, μ =>
  ((32 ≤ l3 → k l3 μ) ∧
  (¬ 32 ≤ l3 → wM_isFree ((l2 + l3) - (l2 + l3) / 32 * 32) (fun r2 μ1 => ((r2 = 0 → wM_placeInLines_18 l2 k n (l3 + 1) μ1) ∧
  (¬ r2 = 0 → k l3 μ1))) μ))
def wM_placeInLines_65 (l4 : Int32) (k : Int32 → Mem → Prop) : Nat → Int32 → Mem → Prop
  | 0, _, _ => False
  | n + 1, l5, μ =>
  (((l5 / 8) = (l4 / 8) → wM_isFree l5 (fun r6 μ5 => ((r6 = 0 → k l5 μ5) ∧
  (¬ r6 = 0 → wM_placeInLines_65 l4 k n (l5 + 1) μ5))) μ) ∧
  (¬ (l5 / 8) = (l4 / 8) → k l5 μ))
def wM_placeInLines_93 (l1 : Int32) (l4 : Int32) (l5 : Int32) (post : Int32 → Mem → Prop) (μ : Mem) : Prop :=
  ∀ μ9, μ9 = sI μ 17 13 l4 →
  ∀ μ10, μ10 = sI μ9 17 14 l5 →
  ∀ μ11, μ11 = sI μ10 17 15 ((4 * l4) + l1) →
  post (4 * l4) μ11
def wM_placeInLines_43 (l1 : Int32) (l2 : Int32) (l3 : Int32) (post : Int32 → Mem → Prop) (μ : Mem) : Prop :=
  ((l3 = 32 → post (-1) μ) ∧
  (¬ l3 = 32 → ∃ n12, wM_placeInLines_65 ((l2 + l3) - (l2 + l3) / 32 * 32) (fun v8 μ7 => wM_placeInLines_93 l1 ((l2 + l3) - (l2 + l3) / 32 * 32) v8 post μ7) n12 (((l2 + l3) - (l2 + l3) / 32 * 32) + 1) μ))
def wM_placeInLines_15 (l1 : Int32) (t0 : Int32) (post : Int32 → Mem → Prop) (μ : Mem) : Prop :=
  ∃ n13, wM_placeInLines_18 t0 (fun v4 μ3 => wM_placeInLines_43 l1 t0 v4 post μ3) n13 0 μ
def wM_placeInLines (a1 : Int32) (post : Int32 → Mem → Prop) (μ : Mem) : Prop :=
  ((0 ≤ (mI μ 17 13) → wM_placeInLines_15 a1 (mI μ 17 14) post μ) ∧
  (¬ 0 ≤ (mI μ 17 13) → wM_placeInLines_15 a1 0 post μ))
def wM_place_39 (l1 : Int32) (post : Int32 → Mem → Prop) (μ : Mem) : Prop :=
  ((4 < l1 → wM_placeInBlock l1 (fun r2 μ1 => post r2 μ1) μ) ∧
  (¬ 4 < l1 → wM_placeInLines l1 (fun r4 μ3 => post r4 μ3) μ))
def wM_place (a1 : Int32) (post : Int32 → Mem → Prop) (μ : Mem) : Prop :=
  (((mI μ 17 13) < 0 → wM_place_39 a1 post μ) ∧
  (¬ (mI μ 17 13) < 0 → (((4 * (mI μ 17 14)) < ((mI μ 17 15) + a1) → wM_place_39 a1 post μ) ∧
  (¬ (4 * (mI μ 17 14)) < ((mI μ 17 15) + a1) → ∀ μ5, μ5 = sI μ 17 15 ((mI μ 17 15) + a1) →
  post ((mI μ5 17 15) - a1) μ5))))
def wM_objectAt (a1 : Int32) (post : Int32 → Mem → Prop) (μ : Mem) : Prop :=
  ((a1 < 0 → post (-1) μ) ∧
  (¬ a1 < 0 → ((127 < a1 → post (-1) μ) ∧
  (¬ 127 < a1 → vp_in a1 128 ∧ ((0 ≤ (mI μ 18 (a1).toNatClampNeg) → vp_in (mI μ 18 (a1).toNatClampNeg) 256 ∧ (((mI μ 20 (mI μ 18 (a1).toNatClampNeg).toNatClampNeg) = a1 → post (mI μ 18 (a1).toNatClampNeg) μ) ∧
  (¬ (mI μ 20 (mI μ 18 (a1).toNatClampNeg).toNatClampNeg) = a1 → post (-1) μ))) ∧
  (¬ 0 ≤ (mI μ 18 (a1).toNatClampNeg) → post (-1) μ))))))
def wM_addressOf (a1 : Int32) (post : Int32 → Mem → Prop) (μ : Mem) : Prop :=
  ((0 ≤ a1 → vp_in a1 256 ∧ post (mI μ 20 (a1).toNatClampNeg) μ) ∧
  (¬ 0 ≤ a1 → post (-1) μ))
def wM_lay_9 (l1 : Int32) (l2 : Int32) (k : Int32 → Mem → Prop) : Nat → Int32 → Mem → Prop
  | 0, _, _ => False
  | n + 1, l3, μ =>
  vp_in l1 256 ∧ (((mI μ 21 (l1).toNatClampNeg) ≤ l3 → k l3 μ) ∧
  (¬ (mI μ 21 (l1).toNatClampNeg) ≤ l3 → vp_in (l2 + l3) 128 ∧ ∀ μ5, μ5 = sI μ 18 (l2 + l3).toNatClampNeg l1 →
  wM_lay_9 l1 l2 k n (l3 + 1) μ5))
def wM_lay (a1 : Int32) (a2 : Int32) (post : Mem → Prop) (μ : Mem) : Prop :=
  vp_in a1 256 ∧ ∀ μ2, μ2 = sI μ 20 (a1).toNatClampNeg a2 →
  ∃ n8, wM_lay_9 a1 a2 (fun v7 μ6 => post μ6) n8 0 μ2
def wM_lift_7 (l1 : Int32) (l2 : Int32) (k : Int32 → Mem → Prop) : Nat → Int32 → Mem → Prop
  | 0, _, _ => False
  | n + 1, l3, μ =>
  vp_in l1 256 ∧ ((((mI μ 20 (l1).toNatClampNeg) + (mI μ 21 (l1).toNatClampNeg)) ≤ l3 → k l3 μ) ∧
  (¬ ((mI μ 20 (l1).toNatClampNeg) + (mI μ 21 (l1).toNatClampNeg)) ≤ l3 → vp_in l3 128 ∧ ∀ μ4, μ4 = sI μ 18 (l3).toNatClampNeg (-1) →
  vp_in (l3 / 4) 32 ∧ (((mI μ4 29 (l3 / 4).toNatClampNeg) = 0 → ((l2 = 0 → ∀ μ7, μ7 = sI μ4 29 (l3 / 4).toNatClampNeg 0 →
  wM_lift_7 l1 l2 k n (l3 + 1) μ7) ∧
  (¬ l2 = 0 → ∀ μ8, μ8 = sI μ4 29 (l3 / 4).toNatClampNeg 1 →
  wM_lift_7 l1 l2 k n (l3 + 1) μ8))) ∧
  (¬ (mI μ4 29 (l3 / 4).toNatClampNeg) = 0 → ∀ μ6, μ6 = sI μ4 29 (l3 / 4).toNatClampNeg 1 →
  wM_lift_7 l1 l2 k n (l3 + 1) μ6))))
def wM_lift (a1 : Int32) (a2 : Int32) (post : Mem → Prop) (μ : Mem) : Prop :=
  vp_in a1 256 ∧ ∃ n11, wM_lift_7 a1 a2 (fun v10 μ9 => post μ9) n11 (mI μ 20 (a1).toNatClampNeg) μ
def wM_shift (a1 : Int32) (post : Mem → Prop) (μ : Mem) : Prop :=
  vp_in a1 256 ∧ wM_place (mI μ 21 (a1).toNatClampNeg) (fun r3 μ2 => ((r3 < 0 → post μ2) ∧
  (¬ r3 < 0 → wM_lift a1 1 (fun μ4 => wM_lay a1 r3 (fun μ5 => ∀ μ6, μ6 = sI μ5 17 29 ((mI μ5 17 29) + 1) →
  post μ6) μ4) μ2))) μ
def wM_lose (a1 : Int32) (post : Mem → Prop) (μ : Mem) : Prop :=
  vp_in a1 256 ∧ ∀ μ2, μ2 = sI μ 19 (a1).toNatClampNeg 0 →
  wM_lift a1 0 (fun μ3 => post μ3) μ2
def wM_make_0 (k : Mem → Prop) : Nat → Mem → Prop
  | 0, _ => False
  | n + 1, μ =>
  vp_in (mI μ 17 10) 256 ∧ (((mI μ 19 (mI μ 17 10).toNatClampNeg) = 0 → k μ) ∧
  (¬ (mI μ 19 (mI μ 17 10).toNatClampNeg) = 0 → ∀ μ2, μ2 = sI μ 17 10 (((mI μ 17 10) + 1) - ((mI μ 17 10) + 1) / 256 * 256) →
  wM_make_0 k n μ2))
def wM_make_86 (l3 : Int32) (k : Int32 → Mem → Prop) : Nat → Int32 → Mem → Prop
  | 0, _, _ => False
  | n + 1, l4, μ =>
  ((12 ≤ l4 → k l4 μ) ∧
  (¬ 12 ≤ l4 → vp_in ((12 * l3) + l4) 3072 ∧ ∀ μ12, μ12 = sI μ 25 ((12 * l3) + l4).toNatClampNeg (-1) →
  ∀ μ13, μ13 = sI μ12 26 ((12 * l3) + l4).toNatClampNeg 0 →
  wM_make_86 l3 k n (l4 + 1) μ13))
def wM_make (a1 : Int32) (a2 : Int32) (post : Int32 → Mem → Prop) (μ : Mem) : Prop :=
  ∃ n17, wM_make_0 (fun μ3 => ∀ μ4, μ4 = sI μ3 17 10 (((mI μ3 17 10) + 1) - ((mI μ3 17 10) + 1) / 256 * 256) →
  vp_in (mI μ3 17 10) 256 ∧ ∀ μ6, μ6 = sI μ4 19 (mI μ3 17 10).toNatClampNeg 1 →
  ∀ μ7, μ7 = sI μ6 21 (mI μ3 17 10).toNatClampNeg a1 →
  ∀ μ8, μ8 = sI μ7 22 (mI μ3 17 10).toNatClampNeg a2 →
  ∀ μ9, μ9 = sI μ8 23 (mI μ3 17 10).toNatClampNeg 0 →
  ∀ μ10, μ10 = sI μ9 24 (mI μ3 17 10).toNatClampNeg 0 →
  ∃ n16, wM_make_86 (mI μ3 17 10) (fun v15 μ14 => post (mI μ3 17 10) μ14) n16 0 μ10) n17 μ
def wM_isWhite (a1 : Int32) (post : Int32 → Mem → Prop) (μ : Mem) : Prop :=
  ((a1 < 0 → post 0 μ) ∧
  (¬ a1 < 0 → vp_in a1 256 ∧ (((mI μ 19 (a1).toNatClampNeg) = 2 → (((mI μ 24 (a1).toNatClampNeg) = 0 → post 1 μ) ∧
  (¬ (mI μ 24 (a1).toNatClampNeg) = 0 → post 0 μ))) ∧
  (¬ (mI μ 19 (a1).toNatClampNeg) = 2 → post 0 μ))))
def wM_greys_4 (k : Int32 → Int32 → Mem → Prop) : Nat → Int32 → Int32 → Mem → Prop
  | 0, _, _, _ => False
  | n + 1, l1, l2, μ =>
  ((256 ≤ l2 → k l1 l2 μ) ∧
  (¬ 256 ≤ l2 → vp_in l2 256 ∧ (((mI μ 19 (l2).toNatClampNeg) = 2 → (((mI μ 24 (l2).toNatClampNeg) = 1 → wM_greys_4 k n (l1 + 1) (l2 + 1) μ) ∧
  (¬ (mI μ 24 (l2).toNatClampNeg) = 1 → wM_greys_4 k n l1 (l2 + 1) μ))) ∧
  (¬ (mI μ 19 (l2).toNatClampNeg) = 2 → wM_greys_4 k n l1 (l2 + 1) μ))))
def wM_greys (post : Int32 → Mem → Prop) (μ : Mem) : Prop :=
  ∃ n5, wM_greys_4 (fun v3 v4 μ2 => post v3 μ2) n5 0 0 μ
def wM_wait (a1 : Int32) (post : Mem → Prop) (μ : Mem) : Prop :=
  ((a1 < 0 → post μ) ∧
  (¬ a1 < 0 → vp_in (mI μ 17 21) 700 ∧ ∀ μ2, μ2 = sI μ 30 (mI μ 17 21).toNatClampNeg a1 →
  ∀ μ3, μ3 = sI μ2 17 21 ((mI μ2 17 21) + 1) →
  post μ3))
def wM_vanish_2 (l1 : Int32) (k : Int32 → Mem → Prop) : Nat → Int32 → Mem → Prop
  | 0, _, _ => False
  | n + 1, l2, μ =>
  vp_in l1 256 ∧ (((mI μ 21 (l1).toNatClampNeg) ≤ l2 → k l2 μ) ∧
  (¬ (mI μ 21 (l1).toNatClampNeg) ≤ l2 → vp_in ((12 * l1) + l2) 3072 ∧ wM_wait (mI μ 25 ((12 * l1) + l2).toNatClampNeg) (fun μ3 => vp_in l1 256 ∧ (((mI μ3 24 (l1).toNatClampNeg) = 1 → wM_isWhite (mI μ 25 ((12 * l1) + l2).toNatClampNeg) (fun r6 μ5 => ((r6 = 0 → wM_vanish_2 l1 k n (l2 + 1) μ5) ∧
  (¬ r6 = 0 → vp_in (mI μ 25 ((12 * l1) + l2).toNatClampNeg) 256 ∧ ∀ μ8, μ8 = sI μ5 24 (mI μ 25 ((12 * l1) + l2).toNatClampNeg).toNatClampNeg 1 →
  wM_vanish_2 l1 k n (l2 + 1) μ8))) μ3) ∧
  (¬ (mI μ3 24 (l1).toNatClampNeg) = 1 → wM_vanish_2 l1 k n (l2 + 1) μ3))) μ))
def wM_vanish (a1 : Int32) (post : Mem → Prop) (μ : Mem) : Prop :=
  ∃ n12, wM_vanish_2 a1 (fun v10 μ9 => wM_lose a1 (fun μ11 => post μ11) μ9) n12 0 μ
def wM_drainOne_19 (k : Int32 → Mem → Prop) : Nat → Int32 → Mem → Prop
  | 0, _, _ => False
  | n + 1, l2, μ =>
  (((mI μ 17 21) ≤ l2 → k l2 μ) ∧
  (¬ (mI μ 17 21) ≤ l2 → vp_in (l2 + 1) 700 ∧ vp_in l2 700 ∧ ∀ μ5, μ5 = sI μ 30 (l2).toNatClampNeg (mI μ 30 (l2 + 1).toNatClampNeg) →
  wM_drainOne_19 k n (l2 + 1) μ5))
def wM_drainOne (post : Mem → Prop) (μ : Mem) : Prop :=
  vp_in 0 700 ∧ ∀ μ2, μ2 = sI μ 17 21 ((mI μ 17 21) - 1) →
  ∃ n11, wM_drainOne_19 (fun v7 μ6 => vp_in (mI μ 30 (0 : Int32).toNatClampNeg) 256 ∧ (((mI μ6 19 (mI μ 30 (0 : Int32).toNatClampNeg).toNatClampNeg) = 2 → ((3 ≤ (mI μ6 23 (mI μ 30 (0 : Int32).toNatClampNeg).toNatClampNeg) → post μ6) ∧
  (¬ 3 ≤ (mI μ6 23 (mI μ 30 (0 : Int32).toNatClampNeg).toNatClampNeg) → ∀ μ9, μ9 = sI μ6 23 (mI μ 30 (0 : Int32).toNatClampNeg).toNatClampNeg ((mI μ6 23 (mI μ 30 (0 : Int32).toNatClampNeg).toNatClampNeg) - 1) →
  (((mI μ9 23 (mI μ 30 (0 : Int32).toNatClampNeg).toNatClampNeg) = 0 → wM_vanish (mI μ 30 (0 : Int32).toNatClampNeg) (fun μ10 => post μ10) μ9) ∧
  (¬ (mI μ9 23 (mI μ 30 (0 : Int32).toNatClampNeg).toNatClampNeg) = 0 → post μ9))))) ∧
  (¬ (mI μ6 19 (mI μ 30 (0 : Int32).toNatClampNeg).toNatClampNeg) = 2 → post μ6))) n11 0 μ2
def wM_drainAll_0 (k : Mem → Prop) : Nat → Mem → Prop
  | 0, _ => False
  | n + 1, μ =>
  (((mI μ 17 21) ≤ 0 → k μ) ∧
  (¬ (mI μ 17 21) ≤ 0 → wM_drainOne (fun μ1 => wM_drainAll_0 k n μ1) μ))
def wM_drainAll (post : Mem → Prop) (μ : Mem) : Prop :=
  ∃ n3, wM_drainAll_0 (fun μ2 => post μ2) n3 μ
def wM_step_2 (k : Int32 → Mem → Prop) : Nat → Int32 → Mem → Prop
  | 0, _, _ => False
  | n + 1, l1, μ =>
  wM_objectAt l1 (fun r2 μ1 => ((r2 < 0 → wM_step_2 k n (l1 + 1) μ1) ∧
  (¬ r2 < 0 → wM_objectAt l1 (fun r4 μ3 => vp_in r4 256 ∧ (((mI μ3 19 (r4).toNatClampNeg) = 2 → wM_objectAt l1 (fun r7 μ6 => vp_in r7 256 ∧ (((mI μ6 24 (r7).toNatClampNeg) = 1 → k l1 μ6) ∧
  (¬ (mI μ6 24 (r7).toNatClampNeg) = 1 → wM_step_2 k n (l1 + 1) μ6))) μ3) ∧
  (¬ (mI μ3 19 (r4).toNatClampNeg) = 2 → wM_step_2 k n (l1 + 1) μ3))) μ1))) μ
def wM_step_59 (l2 : Int32) (k : Int32 → Mem → Prop) : Nat → Int32 → Mem → Prop
  | 0, _, _ => False
  | n + 1, l3, μ =>
  vp_in l2 256 ∧ (((mI μ 21 (l2).toNatClampNeg) ≤ l3 → k l3 μ) ∧
  (¬ (mI μ 21 (l2).toNatClampNeg) ≤ l3 → vp_in ((12 * l2) + l3) 3072 ∧ wM_isWhite (mI μ 25 ((12 * l2) + l3).toNatClampNeg) (fun r18 μ17 => ((r18 = 0 → wM_step_59 l2 k n (l3 + 1) μ17) ∧
  (¬ r18 = 0 → vp_in (mI μ 25 ((12 * l2) + l3).toNatClampNeg) 256 ∧ ∀ μ20, μ20 = sI μ17 24 (mI μ 25 ((12 * l2) + l3).toNatClampNeg).toNatClampNeg 1 →
  wM_step_59 l2 k n (l3 + 1) μ20))) μ))
def wM_step (post : Mem → Prop) (μ : Mem) : Prop :=
  ∃ n24, wM_step_2 (fun v10 μ9 => wM_objectAt v10 (fun r12 μ11 => vp_in r12 256 ∧ ∀ μ14, μ14 = sI μ11 24 (r12).toNatClampNeg 2 →
  ∃ n23, wM_step_59 r12 (fun v22 μ21 => post μ21) n23 0 μ14) μ9) n24 0 μ
def wM_addSlot (a1 : Int32) (post : Mem → Prop) (μ : Mem) : Prop :=
  vp_in (mI μ 17 26) 400 ∧ ∀ μ2, μ2 = sI μ 33 (mI μ 17 26).toNatClampNeg a1 →
  ∀ μ3, μ3 = sI μ2 17 26 ((mI μ2 17 26) + 1) →
  post μ3
def wM_survive_39 (l1 : Int32) (k : Int32 → Mem → Prop) : Nat → Int32 → Mem → Prop
  | 0, _, _ => False
  | n + 1, l2, μ =>
  vp_in l1 256 ∧ (((mI μ 21 (l1).toNatClampNeg) ≤ l2 → k l2 μ) ∧
  (¬ (mI μ 21 (l1).toNatClampNeg) ≤ l2 → wM_addSlot ((6 + (12 * l1)) + l2) (fun μ8 => wM_survive_39 l1 k n (l2 + 1) μ8) μ))
def wM_survive_31 (l1 : Int32) (t1 : Int32) (t2 : Int32) (post : Mem → Prop) (μ : Mem) : Prop :=
  vp_in t1 256 ∧ ∀ μ5, μ5 = sI μ 24 (t1).toNatClampNeg t2 →
  wM_shift l1 (fun μ6 => ∃ n11, wM_survive_39 l1 (fun v10 μ9 => post μ9) n11 0 μ6) μ5
def wM_survive (a1 : Int32) (post : Mem → Prop) (μ : Mem) : Prop :=
  vp_in a1 256 ∧ ∀ μ2, μ2 = sI μ 19 (a1).toNatClampNeg 2 →
  ∀ μ3, μ3 = sI μ2 23 (a1).toNatClampNeg 1 →
  (((mI μ3 17 27) = 0 → wM_survive_31 a1 a1 0 post μ3) ∧
  (¬ (mI μ3 17 27) = 0 → wM_survive_31 a1 a1 2 post μ3))
def wM_countSlots_7 (k : Int32 → Mem → Prop) : Nat → Int32 → Mem → Prop
  | 0, _, _ => False
  | n + 1, l1, μ =>
  ((6 ≤ l1 → k l1 μ) ∧
  (¬ 6 ≤ l1 → wM_addSlot l1 (fun μ2 => wM_countSlots_7 k n (l1 + 1) μ2) μ))
def wM_countSlots_26 (k : Int32 → Mem → Prop) : Nat → Int32 → Mem → Prop
  | 0, _, _ => False
  | n + 1, l1, μ =>
  (((mI μ 17 24) ≤ l1 → k l1 μ) ∧
  (¬ (mI μ 17 24) ≤ l1 → vp_in l1 160 ∧ wM_addSlot (6 + (mI μ 31 (l1).toNatClampNeg)) (fun μ6 => wM_countSlots_26 k n (l1 + 1) μ6) μ))
def wM_countSlots_150 (l1 : Int32) (l2 : Int32) (l3 : Int32) (k57 : Int32 → Int32 → Mem → Prop) (μ : Mem) : Prop :=
  ((l3 < 0 → k57 l1 (l2 + 1) μ) ∧
  (¬ l3 < 0 → vp_in l3 256 ∧ (((mI μ 19 (l3).toNatClampNeg) = 1 → wM_survive l3 (fun μ12 => k57 (l1 + 1) (l2 + 1) μ12) μ) ∧
  (¬ (mI μ 19 (l3).toNatClampNeg) = 1 → k57 l1 (l2 + 1) μ))))
def wM_countSlots_104 (l1 : Int32) (l2 : Int32) (t0 : Int32) (k57 : Int32 → Int32 → Mem → Prop) (μ : Mem) : Prop :=
  ((t0 < 0 → wM_countSlots_150 l1 l2 t0 k57 μ) ∧
  (¬ t0 < 0 → vp_in t0 256 ∧ (((mI μ 19 (t0).toNatClampNeg) = 2 → ((3 ≤ (mI μ 23 (t0).toNatClampNeg) → ∀ μ14, μ14 = sI μ 23 (t0).toNatClampNeg 3 →
  k57 l1 (l2 + 1) μ14) ∧
  (¬ 3 ≤ (mI μ 23 (t0).toNatClampNeg) → ∀ μ15, μ15 = sI μ 23 (t0).toNatClampNeg ((mI μ 23 (t0).toNatClampNeg) + 1) →
  k57 l1 (l2 + 1) μ15))) ∧
  (¬ (mI μ 19 (t0).toNatClampNeg) = 2 → wM_countSlots_150 l1 l2 t0 k57 μ))))
def wM_countSlots_57 (k : Int32 → Int32 → Mem → Prop) : Nat → Int32 → Int32 → Mem → Prop
  | 0, _, _, _ => False
  | n + 1, l1, l2, μ =>
  (((mI μ 17 26) ≤ l2 → k l1 l2 μ) ∧
  (¬ (mI μ 17 26) ≤ l2 → vp_in l2 400 ∧ ((6 ≤ (mI μ 33 (l2).toNatClampNeg) → vp_in ((mI μ 33 (l2).toNatClampNeg) - 6) 3072 ∧ wM_countSlots_104 l1 l2 (mI μ 25 ((mI μ 33 (l2).toNatClampNeg) - 6).toNatClampNeg) (wM_countSlots_57 k n) μ) ∧
  (¬ 6 ≤ (mI μ 33 (l2).toNatClampNeg) → vp_in (mI μ 33 (l2).toNatClampNeg) 6 ∧ wM_countSlots_104 l1 l2 (mI μ 27 (mI μ 33 (l2).toNatClampNeg).toNatClampNeg) (wM_countSlots_57 k n) μ))))
def wM_countSlots (post : Int32 → Mem → Prop) (μ : Mem) : Prop :=
  ∀ μ1, μ1 = sI μ 17 26 0 →
  ∃ n22, wM_countSlots_7 (fun v4 μ3 => ∃ n21, wM_countSlots_26 (fun v8 μ7 => ∃ n20, wM_countSlots_57 (fun v18 v19 μ17 => post v18 μ17) n20 0 0 μ7) n21 0 μ3) n22 0 μ1
def wM_endStep_2 (k : Int32 → Mem → Prop) : Nat → Int32 → Mem → Prop
  | 0, _, _ => False
  | n + 1, l1, μ =>
  ((32 ≤ l1 → k l1 μ) ∧
  (¬ 32 ≤ l1 → vp_in l1 32 ∧ ∀ μ2, μ2 = sI μ 29 (l1).toNatClampNeg 0 →
  wM_endStep_2 k n (l1 + 1) μ2))
def wM_endStep (post : Mem → Prop) (μ : Mem) : Prop :=
  ∃ n5, wM_endStep_2 (fun v4 μ3 => post μ3) n5 0 μ
def wM_settle_2 (k : Int32 → Mem → Prop) : Nat → Int32 → Mem → Prop
  | 0, _, _ => False
  | n + 1, l1, μ =>
  ((256 ≤ l1 → k l1 μ) ∧
  (¬ 256 ≤ l1 → vp_in l1 256 ∧ (((mI μ 19 (l1).toNatClampNeg) = 1 → wM_lose l1 (fun μ2 => wM_settle_2 k n (l1 + 1) μ2) μ) ∧
  (¬ (mI μ 19 (l1).toNatClampNeg) = 1 → wM_settle_2 k n (l1 + 1) μ))))
def wM_settle_32 (k : Int32 → Mem → Prop) : Nat → Int32 → Mem → Prop
  | 0, _, _ => False
  | n + 1, l1, μ =>
  ((6 ≤ l1 → k l1 μ) ∧
  (¬ 6 ≤ l1 → vp_in l1 6 ∧ wM_wait (mI μ 28 (l1).toNatClampNeg) (fun μ6 => wM_settle_32 k n (l1 + 1) μ6) μ))
def wM_settle_106 (l1 : Int32) (k56 : Int32 → Mem → Prop) (μ : Mem) : Prop :=
  vp_in l1 160 ∧ vp_in (mI μ 31 (l1).toNatClampNeg) 3072 ∧ ∀ μ13, μ13 = sI μ 26 (mI μ 31 (l1).toNatClampNeg).toNatClampNeg 0 →
  k56 (l1 + 1) μ13
def wM_settle_56 (k : Int32 → Mem → Prop) : Nat → Int32 → Mem → Prop
  | 0, _, _ => False
  | n + 1, l1, μ =>
  (((mI μ 17 24) ≤ l1 → k l1 μ) ∧
  (¬ (mI μ 17 24) ≤ l1 → vp_in l1 160 ∧ wM_wait (mI μ 32 (l1).toNatClampNeg) (fun μ10 => (((mI μ10 17 27) = 0 → wM_settle_106 l1 (wM_settle_56 k n) μ10) ∧
  (¬ (mI μ10 17 27) = 0 → vp_in l1 160 ∧ wM_isWhite (mI μ10 32 (l1).toNatClampNeg) (fun r16 μ15 => ((r16 = 0 → wM_settle_106 l1 (wM_settle_56 k n) μ15) ∧
  (¬ r16 = 0 → vp_in l1 160 ∧ vp_in (mI μ15 32 (l1).toNatClampNeg) 256 ∧ ∀ μ19, μ19 = sI μ15 24 (mI μ15 32 (l1).toNatClampNeg).toNatClampNeg 1 →
  wM_settle_106 l1 (wM_settle_56 k n) μ19))) μ10))) μ))
def wM_settle (post : Mem → Prop) (μ : Mem) : Prop :=
  ∃ n25, wM_settle_2 (fun v4 μ3 => ∃ n24, wM_settle_32 (fun v8 μ7 => ∃ n23, wM_settle_56 (fun v21 μ20 => ∀ μ22, μ22 = sI μ20 17 24 0 →
  post μ22) n23 0 μ7) n24 0 μ3) n25 0 μ
def wM_sweep_17 (l2 : Int32) (k : Int32 → Mem → Prop) : Nat → Int32 → Mem → Prop
  | 0, _, _ => False
  | n + 1, l3, μ =>
  wM_isWhite l2 (fun r4 μ3 => ((r4 = 0 → k l3 μ3) ∧
  (¬ r4 = 0 → vp_in l2 256 ∧ (((mI μ3 21 (l2).toNatClampNeg) ≤ l3 → k l3 μ3) ∧
  (¬ (mI μ3 21 (l2).toNatClampNeg) ≤ l3 → vp_in ((12 * l2) + l3) 3072 ∧ (((mI μ3 25 ((12 * l2) + l3).toNatClampNeg) < 0 → wM_sweep_17 l2 k n (l3 + 1) μ3) ∧
  (¬ (mI μ3 25 ((12 * l2) + l3).toNatClampNeg) < 0 → wM_isWhite (mI μ3 25 ((12 * l2) + l3).toNatClampNeg) (fun r8 μ7 => ((r8 = 0 → wM_wait (mI μ3 25 ((12 * l2) + l3).toNatClampNeg) (fun μ9 => wM_sweep_17 l2 k n (l3 + 1) μ9) μ7) ∧
  (¬ r8 = 0 → wM_sweep_17 l2 k n (l3 + 1) μ7))) μ3))))))) μ
def wM_sweep_2 (k : Int32 → Mem → Prop) : Nat → Int32 → Mem → Prop
  | 0, _, _ => False
  | n + 1, l1, μ =>
  ((128 ≤ l1 → k l1 μ) ∧
  (¬ 128 ≤ l1 → wM_objectAt l1 (fun r2 μ1 => ∃ n12, wM_sweep_17 r2 (fun v11 μ10 => wM_sweep_2 k n (l1 + 1) μ10) n12 0 μ1) μ))
def wM_sweep_82 (k : Int32 → Mem → Prop) : Nat → Int32 → Mem → Prop
  | 0, _, _ => False
  | n + 1, l1, μ =>
  ((256 ≤ l1 → k l1 μ) ∧
  (¬ 256 ≤ l1 → wM_isWhite l1 (fun r16 μ15 => ((r16 = 0 → wM_sweep_82 k n (l1 + 1) μ15) ∧
  (¬ r16 = 0 → wM_lose l1 (fun μ17 => ∀ μ18, μ18 = sI μ17 17 30 ((mI μ17 17 30) + 1) →
  wM_sweep_82 k n (l1 + 1) μ18) μ15))) μ))
def wM_sweep (post : Mem → Prop) (μ : Mem) : Prop :=
  ∃ n22, wM_sweep_2 (fun v14 μ13 => ∃ n21, wM_sweep_82 (fun v20 μ19 => post μ19) n21 0 μ13) n22 0 μ
def wM_holders_4 (l1 : Int32) (k : Int32 → Int32 → Mem → Prop) : Nat → Int32 → Int32 → Mem → Prop
  | 0, _, _, _ => False
  | n + 1, l2, l3, μ =>
  ((6 ≤ l3 → k l2 l3 μ) ∧
  (¬ 6 ≤ l3 → vp_in l3 6 ∧ (((mI μ 27 (l3).toNatClampNeg) = l1 → wM_holders_4 l1 k n (l2 + 1) (l3 + 1) μ) ∧
  (¬ (mI μ 27 (l3).toNatClampNeg) = l1 → wM_holders_4 l1 k n l2 (l3 + 1) μ))))
def wM_holders_46 (l1 : Int32) (l3 : Int32) (k : Int32 → Int32 → Mem → Prop) : Nat → Int32 → Int32 → Mem → Prop
  | 0, _, _, _ => False
  | n + 1, l2, l4, μ =>
  vp_in l3 256 ∧ (((mI μ 19 (l3).toNatClampNeg) = 0 → k l2 l4 μ) ∧
  (¬ (mI μ 19 (l3).toNatClampNeg) = 0 → (((mI μ 21 (l3).toNatClampNeg) ≤ l4 → k l2 l4 μ) ∧
  (¬ (mI μ 21 (l3).toNatClampNeg) ≤ l4 → vp_in ((12 * l3) + l4) 3072 ∧ (((mI μ 25 ((12 * l3) + l4).toNatClampNeg) = l1 → wM_holders_46 l1 l3 k n (l2 + 1) (l4 + 1) μ) ∧
  (¬ (mI μ 25 ((12 * l3) + l4).toNatClampNeg) = l1 → wM_holders_46 l1 l3 k n l2 (l4 + 1) μ))))))
def wM_holders_36 (l1 : Int32) (k : Int32 → Int32 → Mem → Prop) : Nat → Int32 → Int32 → Mem → Prop
  | 0, _, _, _ => False
  | n + 1, l2, l3, μ =>
  ((256 ≤ l3 → k l2 l3 μ) ∧
  (¬ 256 ≤ l3 → ∃ n10, wM_holders_46 l1 l3 (fun v8 v9 μ7 => wM_holders_36 l1 k n v8 (l3 + 1) μ7) n10 l2 0 μ))
def wM_holders_104 (l1 : Int32) (k : Int32 → Int32 → Mem → Prop) : Nat → Int32 → Int32 → Mem → Prop
  | 0, _, _, _ => False
  | n + 1, l2, l3, μ =>
  (((mI μ 17 21) ≤ l3 → k l2 l3 μ) ∧
  (¬ (mI μ 17 21) ≤ l3 → vp_in l3 700 ∧ (((mI μ 30 (l3).toNatClampNeg) = l1 → wM_holders_104 l1 k n (l2 + 1) (l3 + 1) μ) ∧
  (¬ (mI μ 30 (l3).toNatClampNeg) = l1 → wM_holders_104 l1 k n l2 (l3 + 1) μ))))
def wM_holders (a1 : Int32) (post : Int32 → Mem → Prop) (μ : Mem) : Prop :=
  ∃ n20, wM_holders_4 a1 (fun v3 v4 μ2 => ∃ n19, wM_holders_36 a1 (fun v12 v13 μ11 => ∃ n18, wM_holders_104 a1 (fun v16 v17 μ15 => post v16 μ15) n18 v12 0 μ11) n19 v3 0 μ2) n20 0 0 μ
def wM_countAnew_2 (k : Int32 → Mem → Prop) : Nat → Int32 → Mem → Prop
  | 0, _, _ => False
  | n + 1, l1, μ =>
  ((128 ≤ l1 → k l1 μ) ∧
  (¬ 128 ≤ l1 → wM_objectAt l1 (fun r2 μ1 => ((r2 < 0 → wM_countAnew_2 k n (l1 + 1) μ1) ∧
  (¬ r2 < 0 → vp_in r2 256 ∧ (((mI μ1 23 (r2).toNatClampNeg) = 3 → wM_holders r2 (fun r5 μ4 => ((3 ≤ r5 → vp_in r2 256 ∧ ∀ μ7, μ7 = sI μ4 23 (r2).toNatClampNeg 3 →
  ((r5 = 0 → wM_vanish r2 (fun μ8 => wM_countAnew_2 k n (l1 + 1) μ8) μ7) ∧
  (¬ r5 = 0 → wM_countAnew_2 k n (l1 + 1) μ7))) ∧
  (¬ 3 ≤ r5 → vp_in r2 256 ∧ ∀ μ10, μ10 = sI μ4 23 (r2).toNatClampNeg r5 →
  ((r5 = 0 → wM_vanish r2 (fun μ11 => wM_countAnew_2 k n (l1 + 1) μ11) μ10) ∧
  (¬ r5 = 0 → wM_countAnew_2 k n (l1 + 1) μ10))))) μ1) ∧
  (¬ (mI μ1 23 (r2).toNatClampNeg) = 3 → wM_countAnew_2 k n (l1 + 1) μ1))))) μ))
def wM_countAnew_68 (k : Int32 → Mem → Prop) : Nat → Int32 → Mem → Prop
  | 0, _, _ => False
  | n + 1, l1, μ =>
  ((256 ≤ l1 → k l1 μ) ∧
  (¬ 256 ≤ l1 → vp_in l1 256 ∧ ∀ μ15, μ15 = sI μ 24 (l1).toNatClampNeg 0 →
  wM_countAnew_68 k n (l1 + 1) μ15))
def wM_countAnew (post : Mem → Prop) (μ : Mem) : Prop :=
  ∃ n19, wM_countAnew_2 (fun v13 μ12 => ∃ n18, wM_countAnew_68 (fun v17 μ16 => post μ16) n18 0 μ12) n19 0 μ
def wM_usedLines_7 (l1 : Int32) (k : Int32 → Int32 → Mem → Prop) : Nat → Int32 → Int32 → Mem → Prop
  | 0, _, _, _ => False
  | n + 1, l2, l3, μ =>
  ((((8 * l1) + 8) ≤ l3 → k l2 l3 μ) ∧
  (¬ ((8 * l1) + 8) ≤ l3 → wM_isUsed l3 (fun r2 μ1 => ((r2 = 0 → wM_usedLines_7 l1 k n l2 (l3 + 1) μ1) ∧
  (¬ r2 = 0 → wM_usedLines_7 l1 k n (l2 + 1) (l3 + 1) μ1))) μ))
def wM_usedLines (a1 : Int32) (post : Int32 → Mem → Prop) (μ : Mem) : Prop :=
  ∃ n6, wM_usedLines_7 a1 (fun v4 v5 μ3 => post v4 μ3) n6 0 (8 * a1) μ
def wM_clearBlock_4 (k : Int32 → Int32 → Mem → Prop) : Nat → Int32 → Int32 → Mem → Prop
  | 0, _, _, _ => False
  | n + 1, l1, l2, μ =>
  ((l2 < 0 → k l1 l2 μ) ∧
  (¬ l2 < 0 → wM_usedLines l2 (fun r2 μ1 => ((r2 ≤ 0 → wM_clearBlock_4 k n l1 (l2 + (-1)) μ1) ∧
  (¬ r2 ≤ 0 → ((4 ≤ r2 → wM_clearBlock_4 k n l1 (l2 + (-1)) μ1) ∧
  (¬ 4 ≤ r2 → ((l1 < 0 → wM_clearBlock_4 k n l2 (l2 + (-1)) μ1) ∧
  (¬ l1 < 0 → wM_usedLines l1 (fun r4 μ3 => ((r4 < r2 → wM_clearBlock_4 k n l1 (l2 + (-1)) μ3) ∧
  (¬ r4 < r2 → wM_clearBlock_4 k n l2 (l2 + (-1)) μ3))) μ1))))))) μ))
def wM_clearBlock_63 (l1 : Int32) (k : Int32 → Mem → Prop) : Nat → Int32 → Mem → Prop
  | 0, _, _ => False
  | n + 1, l2, μ =>
  ((((32 * l1) + 32) ≤ l2 → k l2 μ) ∧
  (¬ ((32 * l1) + 32) ≤ l2 → wM_objectAt l2 (fun r11 μ10 => ((r11 < 0 → wM_clearBlock_63 l1 k n (l2 + 1) μ10) ∧
  (¬ r11 < 0 → wM_shift r11 (fun μ12 => wM_clearBlock_63 l1 k n (l2 + 1) μ12) μ10))) μ))
def wM_clearBlock (post : Mem → Prop) (μ : Mem) : Prop :=
  ∃ n18, wM_clearBlock_4 (fun v6 v7 μ5 => ((0 ≤ v6 → wM_forget (fun μ8 => ∀ μ9, μ9 = sI μ8 17 19 v6 →
  ∃ n17, wM_clearBlock_63 v6 (fun v14 μ13 => ∀ μ15, μ15 = sI μ13 17 19 (-1) →
  wM_endStep (fun μ16 => post μ16) μ15) n17 (32 * v6) μ9) μ5) ∧
  (¬ 0 ≤ v6 → post μ5))) n18 (-1) 3 μ
def wM_halt_119 (k : Int32 → Mem → Prop) : Nat → Int32 → Mem → Prop
  | 0, _, _ => False
  | n + 1, l3, μ =>
  ((6 ≤ l3 → k l3 μ) ∧
  (¬ 6 ≤ l3 → vp_in l3 6 ∧ ∀ μ10, μ10 = sI μ 28 (l3).toNatClampNeg (mI μ 27 (l3).toNatClampNeg) →
  wM_halt_119 k n (l3 + 1) μ10))
def wM_halt_103 (l2 : Int32) (post : Int32 → Mem → Prop) (μ : Mem) : Prop :=
  wM_forget (fun μ7 => ∀ μ8, μ8 = sI μ7 17 28 ((mI μ7 17 28) + 1) →
  ∃ n13, wM_halt_119 (fun v12 μ11 => post l2 μ11) n13 0 μ8) μ
def wM_halt_70 (k : Int32 → Mem → Prop) : Nat → Int32 → Mem → Prop
  | 0, _, _ => False
  | n + 1, l3, μ =>
  ((6 ≤ l3 → k l3 μ) ∧
  (¬ 6 ≤ l3 → vp_in l3 6 ∧ (((mI μ 27 (l3).toNatClampNeg) < 0 → wM_halt_70 k n (l3 + 1) μ) ∧
  (¬ (mI μ 27 (l3).toNatClampNeg) < 0 → vp_in (mI μ 27 (l3).toNatClampNeg) 256 ∧ ∀ μ17, μ17 = sI μ 24 (mI μ 27 (l3).toNatClampNeg).toNatClampNeg 1 →
  wM_halt_70 k n (l3 + 1) μ17))))
def wM_halt_52 (l1 : Int32) (l2 : Int32) (post : Int32 → Mem → Prop) (μ : Mem) : Prop :=
  ((l1 = 0 → wM_halt_103 l2 post μ) ∧
  (¬ l1 = 0 → (((mI μ 17 27) = 0 → ∀ μ14, μ14 = sI μ 17 27 1 →
  ∃ n20, wM_halt_70 (fun v19 μ18 => wM_halt_103 l2 post μ18) n20 0 μ14) ∧
  (¬ (mI μ 17 27) = 0 → wM_halt_103 l2 post μ))))
def wM_halt (a1 : Int32) (post : Int32 → Mem → Prop) (μ : Mem) : Prop :=
  wM_drainAll (fun μ1 => wM_forget (fun μ2 => wM_countSlots (fun r4 μ3 => wM_endStep (fun μ5 => wM_settle (fun μ6 => (((mI μ6 17 27) = 0 → wM_halt_52 a1 r4 post μ6) ∧
  (¬ (mI μ6 17 27) = 0 → wM_greys (fun r22 μ21 => ((r22 = 0 → wM_sweep (fun μ23 => wM_countAnew (fun μ24 => wM_clearBlock (fun μ25 => ∀ μ26, μ26 = sI μ25 17 27 0 →
  wM_halt_52 a1 r4 post μ26) μ24) μ23) μ21) ∧
  (¬ r22 = 0 → wM_halt_52 a1 r4 post μ21))) μ6))) μ5) μ3) μ2) μ1) μ
def wM_collect_6 (k : Mem → Prop) : Nat → Mem → Prop
  | 0, _ => False
  | n + 1, μ =>
  wM_greys (fun r4 μ3 => ((r4 ≤ 0 → k μ3) ∧
  (¬ r4 ≤ 0 → wM_step (fun μ5 => wM_collect_6 k n μ5) μ3))) μ
def wM_collect (post : Mem → Prop) (μ : Mem) : Prop :=
  wM_halt 1 (fun r2 μ1 => ∃ n10, wM_collect_6 (fun μ6 => wM_halt 0 (fun r8 μ7 => wM_drainAll (fun μ9 => post μ9) μ7) μ6) n10 μ1) μ
def wM_isRoot (a1 : Int32) (post : Int32 → Mem → Prop) (μ : Mem) : Prop :=
  ((a1 < 0 → post 0 μ) ∧
  (¬ a1 < 0 → ((6 ≤ a1 → post 0 μ) ∧
  (¬ 6 ≤ a1 → post 1 μ))))
def wM_allocate_59 (l1 : Int32) (l2 : Int32) (l3 : Int32) (l4 : Int32) (post : Int32 → Mem → Prop) (μ : Mem) : Prop :=
  ((0 ≤ l4 → wM_make l2 l3 (fun r7 μ6 => wM_lay r7 l4 (fun μ8 => vp_in l1 6 ∧ ∀ μ10, μ10 = sI μ8 27 (l1).toNatClampNeg r7 →
  post l4 μ10) μ6) μ) ∧
  (¬ 0 ≤ l4 → ∀ μ11, μ11 = sI μ 17 0 2 →
  post 0 μ11))
def wM_allocate_24 (l1 : Int32) (l2 : Int32) (l3 : Int32) (t1 : Int32) (post : Int32 → Mem → Prop) (μ : Mem) : Prop :=
  ∀ μ3, μ3 = sI μ 17 0 t1 →
  (((mI μ3 17 0) ≤ 0 → wM_place l2 (fun r5 μ4 => ((0 ≤ r5 → wM_allocate_59 l1 l2 l3 r5 post μ4) ∧
  (¬ 0 ≤ r5 → wM_collect (fun μ12 => wM_place l2 (fun r14 μ13 => wM_allocate_59 l1 l2 l3 r14 post μ13) μ12) μ4))) μ3) ∧
  (¬ (mI μ3 17 0) ≤ 0 → post 0 μ3))
def wM_allocate_23 (l1 : Int32) (l2 : Int32) (l3 : Int32) (post : Int32 → Mem → Prop) (μ : Mem) : Prop :=
  wM_allocate_24 l1 l2 l3 1 post μ
def wM_allocate (a1 : Int32) (a2 : Int32) (a3 : Int32) (post : Int32 → Mem → Prop) (μ : Mem) : Prop :=
  wM_isRoot a1 (fun r2 μ1 => ((r2 = 0 → wM_allocate_23 a1 a2 a3 post μ1) ∧
  (¬ r2 = 0 → ((a2 < 1 → wM_allocate_23 a1 a2 a3 post μ1) ∧
  (¬ a2 < 1 → ((12 < a2 → wM_allocate_23 a1 a2 a3 post μ1) ∧
  (¬ 12 < a2 → wM_allocate_24 a1 a2 a3 0 post μ1))))))) μ
def wM_drop_13 (l1 : Int32) (t1 : Int32) (post : Mem → Prop) (μ : Mem) : Prop :=
  ∀ μ3, μ3 = sI μ 17 0 t1 →
  (((mI μ3 17 0) = 0 → vp_in l1 6 ∧ ∀ μ5, μ5 = sI μ3 27 (l1).toNatClampNeg (-1) →
  post μ5) ∧
  (¬ (mI μ3 17 0) = 0 → post μ3))
def wM_drop (a1 : Int32) (post : Mem → Prop) (μ : Mem) : Prop :=
  wM_isRoot a1 (fun r2 μ1 => ((r2 = 0 → wM_drop_13 a1 1 post μ1) ∧
  (¬ r2 = 0 → wM_drop_13 a1 0 post μ1))) μ
def wM_copy_20 (l1 : Int32) (l2 : Int32) (t1 : Int32) (post : Mem → Prop) (μ : Mem) : Prop :=
  ∀ μ3, μ3 = sI μ 17 0 t1 →
  (((mI μ3 17 0) = 0 → vp_in l2 6 ∧ vp_in l1 6 ∧ ∀ μ6, μ6 = sI μ3 27 (l1).toNatClampNeg (mI μ3 27 (l2).toNatClampNeg) →
  post μ6) ∧
  (¬ (mI μ3 17 0) = 0 → post μ3))
def wM_copy_19 (l1 : Int32) (l2 : Int32) (post : Mem → Prop) (μ : Mem) : Prop :=
  wM_copy_20 l1 l2 1 post μ
def wM_copy (a1 : Int32) (a2 : Int32) (post : Mem → Prop) (μ : Mem) : Prop :=
  wM_isRoot a1 (fun r2 μ1 => ((r2 = 0 → wM_copy_19 a1 a2 post μ1) ∧
  (¬ r2 = 0 → wM_isRoot a2 (fun r8 μ7 => ((r8 = 0 → wM_copy_19 a1 a2 post μ7) ∧
  (¬ r8 = 0 → wM_copy_20 a1 a2 0 post μ7))) μ1))) μ
def wM_reach_33 (l1 : Int32) (l3 : Int32) (t1 : Int32) (post : Mem → Prop) (μ : Mem) : Prop :=
  ∀ μ3, μ3 = sI μ 17 0 t1 →
  (((mI μ3 17 0) = 0 → ((l3 < 0 → ∀ μ4, μ4 = sI μ3 17 0 3 →
  post μ4) ∧
  (¬ l3 < 0 → vp_in l1 6 ∧ vp_in (mI μ3 27 (l1).toNatClampNeg) 256 ∧ (((mI μ3 21 (mI μ3 27 (l1).toNatClampNeg).toNatClampNeg) ≤ l3 → ∀ μ7, μ7 = sI μ3 17 0 3 →
  post μ7) ∧
  (¬ (mI μ3 21 (mI μ3 27 (l1).toNatClampNeg).toNatClampNeg) ≤ l3 → ∀ μ8, μ8 = sI μ3 17 0 0 →
  post μ8))))) ∧
  (¬ (mI μ3 17 0) = 0 → post μ3))
def wM_reach_15 (l1 : Int32) (l3 : Int32) (post : Mem → Prop) (μ : Mem) : Prop :=
  wM_reach_33 l1 l3 1 post μ
def wM_reach (a1 : Int32) (a2 : Int32) (a3 : Int32) (post : Mem → Prop) (μ : Mem) : Prop :=
  wM_isRoot a1 (fun r2 μ1 => ((r2 = 0 → wM_reach_15 a1 a3 post μ1) ∧
  (¬ r2 = 0 → wM_isRoot a2 (fun r10 μ9 => ((r10 = 0 → wM_reach_15 a1 a3 post μ9) ∧
  (¬ r10 = 0 → vp_in a1 6 ∧ ((0 ≤ (mI μ9 27 (a1).toNatClampNeg) → wM_reach_33 a1 a3 0 post μ9) ∧
  (¬ 0 ≤ (mI μ9 27 (a1).toNatClampNeg) → wM_reach_33 a1 a3 2 post μ9))))) μ1))) μ
def wM_load (a1 : Int32) (a2 : Int32) (a3 : Int32) (post : Int32 → Mem → Prop) (μ : Mem) : Prop :=
  wM_reach a2 a1 a3 (fun μ1 => (((mI μ1 17 0) ≤ 0 → vp_in a2 6 ∧ vp_in ((12 * (mI μ1 27 (a2).toNatClampNeg)) + a3) 3072 ∧ vp_in a1 6 ∧ ∀ μ5, μ5 = sI μ1 27 (a1).toNatClampNeg (mI μ1 25 ((12 * (mI μ1 27 (a2).toNatClampNeg)) + a3).toNatClampNeg) →
  wM_addressOf (mI μ5 27 (a1).toNatClampNeg) (fun r7 μ6 => post r7 μ6) μ5) ∧
  (¬ (mI μ1 17 0) ≤ 0 → post 0 μ1))) μ
def wM_store (a1 : Int32) (a2 : Int32) (a3 : Int32) (post : Mem → Prop) (μ : Mem) : Prop :=
  wM_reach a1 a3 a2 (fun μ1 => (((mI μ1 17 0) ≤ 0 → vp_in a1 6 ∧ vp_in (mI μ1 27 (a1).toNatClampNeg) 256 ∧ (((mI μ1 19 (mI μ1 27 (a1).toNatClampNeg).toNatClampNeg) = 2 → vp_in ((12 * (mI μ1 27 (a1).toNatClampNeg)) + a2) 3072 ∧ (((mI μ1 26 ((12 * (mI μ1 27 (a1).toNatClampNeg)) + a2).toNatClampNeg) = 0 → ∀ μ10, μ10 = sI μ1 26 ((12 * (mI μ1 27 (a1).toNatClampNeg)) + a2).toNatClampNeg 1 →
  vp_in (mI μ10 17 24) 160 ∧ ∀ μ12, μ12 = sI μ10 31 (mI μ10 17 24).toNatClampNeg ((12 * (mI μ1 27 (a1).toNatClampNeg)) + a2) →
  vp_in (mI μ12 17 24) 160 ∧ ∀ μ14, μ14 = sI μ12 32 (mI μ12 17 24).toNatClampNeg (mI μ12 25 ((12 * (mI μ1 27 (a1).toNatClampNeg)) + a2).toNatClampNeg) →
  ∀ μ15, μ15 = sI μ14 17 24 ((mI μ14 17 24) + 1) →
  vp_in a3 6 ∧ ∀ μ17, μ17 = sI μ15 25 ((12 * (mI μ1 27 (a1).toNatClampNeg)) + a2).toNatClampNeg (mI μ15 27 (a3).toNatClampNeg) →
  post μ17) ∧
  (¬ (mI μ1 26 ((12 * (mI μ1 27 (a1).toNatClampNeg)) + a2).toNatClampNeg) = 0 → vp_in a3 6 ∧ ∀ μ9, μ9 = sI μ1 25 ((12 * (mI μ1 27 (a1).toNatClampNeg)) + a2).toNatClampNeg (mI μ1 27 (a3).toNatClampNeg) →
  post μ9))) ∧
  (¬ (mI μ1 19 (mI μ1 27 (a1).toNatClampNeg).toNatClampNeg) = 2 → vp_in a3 6 ∧ vp_in ((12 * (mI μ1 27 (a1).toNatClampNeg)) + a2) 3072 ∧ ∀ μ6, μ6 = sI μ1 25 ((12 * (mI μ1 27 (a1).toNatClampNeg)) + a2).toNatClampNeg (mI μ1 27 (a3).toNatClampNeg) →
  post μ6))) ∧
  (¬ (mI μ1 17 0) ≤ 0 → post μ1))) μ
def wM_drain_15 (l1 : Int32) (k : Int32 → Mem → Prop) : Nat → Int32 → Mem → Prop
  | 0, _, _ => False
  | n + 1, l2, μ =>
  ((l1 ≤ l2 → k l2 μ) ∧
  (¬ l1 ≤ l2 → (((mI μ 17 21) ≤ 0 → k l2 μ) ∧
  (¬ (mI μ 17 21) ≤ 0 → wM_drainOne (fun μ2 => wM_drain_15 l1 k n (l2 + 1) μ2) μ))))
def wM_drain_10 (l1 : Int32) (t1 : Int32) (post : Int32 → Mem → Prop) (μ : Mem) : Prop :=
  ∀ μ1, μ1 = sI μ 17 0 t1 →
  ∃ n5, wM_drain_15 l1 (fun v4 μ3 => (((mI μ3 17 0) ≤ 0 → post (mI μ3 17 21) μ3) ∧
  (¬ (mI μ3 17 0) ≤ 0 → post 0 μ3))) n5 0 μ1
def wM_drain (a1 : Int32) (post : Int32 → Mem → Prop) (μ : Mem) : Prop :=
  ((0 ≤ a1 → wM_drain_10 a1 0 post μ) ∧
  (¬ 0 ≤ a1 → wM_drain_10 a1 1 post μ))
def wM_trace_35 (l1 : Int32) (k : Int32 → Mem → Prop) : Nat → Int32 → Mem → Prop
  | 0, _, _ => False
  | n + 1, l2, μ =>
  ((l1 ≤ l2 → k l2 μ) ∧
  (¬ l1 ≤ l2 → wM_greys (fun r3 μ2 => ((r3 ≤ 0 → k l2 μ2) ∧
  (¬ r3 ≤ 0 → wM_step (fun μ4 => wM_trace_35 l1 k n (l2 + 1) μ4) μ2))) μ))
def wM_trace_21 (l1 : Int32) (t1 : Int32) (post : Int32 → Mem → Prop) (μ : Mem) : Prop :=
  ∀ μ1, μ1 = sI μ 17 0 t1 →
  (((mI μ1 17 0) ≤ 0 → ∃ n9, wM_trace_35 l1 (fun v6 μ5 => wM_greys (fun r8 μ7 => post r8 μ7) μ5) n9 0 μ1) ∧
  (¬ (mI μ1 17 0) ≤ 0 → post 0 μ1))
def wM_trace (a1 : Int32) (post : Int32 → Mem → Prop) (μ : Mem) : Prop :=
  ((0 ≤ a1 → (((mI μ 17 27) = 0 → wM_trace_21 a1 2 post μ) ∧
  (¬ (mI μ 17 27) = 0 → wM_trace_21 a1 0 post μ))) ∧
  (¬ 0 ≤ a1 → wM_trace_21 a1 1 post μ))
def wM_pause (a1 : Int32) (post : Int32 → Mem → Prop) (μ : Mem) : Prop :=
  ∀ μ1, μ1 = sI μ 17 0 0 →
  wM_halt a1 (fun r3 μ2 => post r3 μ2) μ1
def wM_root_13 (l1 : Int32) (t1 : Int32) (post : Int32 → Mem → Prop) (μ : Mem) : Prop :=
  ∀ μ3, μ3 = sI μ 17 0 t1 →
  (((mI μ3 17 0) ≤ 0 → vp_in l1 6 ∧ wM_addressOf (mI μ3 27 (l1).toNatClampNeg) (fun r6 μ5 => post r6 μ5) μ3) ∧
  (¬ (mI μ3 17 0) ≤ 0 → post 0 μ3))
def wM_root (a1 : Int32) (post : Int32 → Mem → Prop) (μ : Mem) : Prop :=
  wM_isRoot a1 (fun r2 μ1 => ((r2 = 0 → wM_root_13 a1 1 post μ1) ∧
  (¬ r2 = 0 → wM_root_13 a1 0 post μ1))) μ
def wM_field_49 (l2 : Int32) (l3 : Int32) (post : Int32 → Mem → Prop) (μ : Mem) : Prop :=
  (((mI μ 17 0) ≤ 0 → vp_in ((12 * l3) + l2) 3072 ∧ wM_addressOf (mI μ 25 ((12 * l3) + l2).toNatClampNeg) (fun r6 μ5 => post r6 μ5) μ) ∧
  (¬ (mI μ 17 0) ≤ 0 → post 0 μ))
def wM_field_46 (l2 : Int32) (l3 : Int32) (t1 : Int32) (post : Int32 → Mem → Prop) (μ : Mem) : Prop :=
  ∀ μ7, μ7 = sI μ 17 0 t1 →
  wM_field_49 l2 l3 post μ7
def wM_field_45 (l2 : Int32) (l3 : Int32) (post : Int32 → Mem → Prop) (μ : Mem) : Prop :=
  wM_field_46 l2 l3 2 post μ
def wM_field_16 (l2 : Int32) (l3 : Int32) (t1 : Int32) (post : Int32 → Mem → Prop) (μ : Mem) : Prop :=
  ∀ μ3, μ3 = sI μ 17 0 t1 →
  (((mI μ3 17 0) = 0 → ((l2 < 0 → wM_field_45 l2 l3 post μ3) ∧
  (¬ l2 < 0 → vp_in l3 256 ∧ (((mI μ3 21 (l3).toNatClampNeg) ≤ l2 → wM_field_45 l2 l3 post μ3) ∧
  (¬ (mI μ3 21 (l3).toNatClampNeg) ≤ l2 → wM_field_46 l2 l3 0 post μ3))))) ∧
  (¬ (mI μ3 17 0) = 0 → wM_field_49 l2 l3 post μ3))
def wM_field (a1 : Int32) (a2 : Int32) (post : Int32 → Mem → Prop) (μ : Mem) : Prop :=
  wM_objectAt a1 (fun r2 μ1 => ((0 ≤ r2 → wM_field_16 a2 r2 0 post μ1) ∧
  (¬ 0 ≤ r2 → wM_field_16 a2 r2 1 post μ1))) μ
def wM_object_29 (l2 : Int32) (l3 : Int32) (t1 : Int32) (post : Int32 → Mem → Prop) (μ : Mem) : Prop :=
  ∀ μ3, μ3 = sI μ 17 0 t1 →
  (((mI μ3 17 0) ≤ 0 → ((l2 = 0 → vp_in l3 256 ∧ post (mI μ3 21 (l3).toNatClampNeg) μ3) ∧
  (¬ l2 = 0 → ((l2 = 1 → vp_in l3 256 ∧ post (mI μ3 22 (l3).toNatClampNeg) μ3) ∧
  (¬ l2 = 1 → ((l2 = 2 → vp_in l3 256 ∧ post (mI μ3 23 (l3).toNatClampNeg) μ3) ∧
  (¬ l2 = 2 → vp_in l3 256 ∧ post (mI μ3 24 (l3).toNatClampNeg) μ3))))))) ∧
  (¬ (mI μ3 17 0) ≤ 0 → post 0 μ3))
def wM_object_16 (l2 : Int32) (l3 : Int32) (post : Int32 → Mem → Prop) (μ : Mem) : Prop :=
  wM_object_29 l2 l3 1 post μ
def wM_object (a1 : Int32) (a2 : Int32) (post : Int32 → Mem → Prop) (μ : Mem) : Prop :=
  wM_objectAt a1 (fun r2 μ1 => ((a2 < 0 → wM_object_16 a2 r2 post μ1) ∧
  (¬ a2 < 0 → ((a2 ≤ 3 → ((0 ≤ r2 → wM_object_29 a2 r2 0 post μ1) ∧
  (¬ 0 ≤ r2 → wM_object_29 a2 r2 2 post μ1))) ∧
  (¬ a2 ≤ 3 → wM_object_16 a2 r2 post μ1))))) μ
def wM_line_16 (l1 : Int32) (t1 : Int32) (post : Int32 → Mem → Prop) (μ : Mem) : Prop :=
  ∀ μ1, μ1 = sI μ 17 0 t1 →
  (((mI μ1 17 0) ≤ 0 → wM_isUsed l1 (fun r3 μ2 => ((r3 = 0 → wM_isTaken l1 (fun r5 μ4 => ((r5 = 0 → post 0 μ4) ∧
  (¬ r5 = 0 → post 2 μ4))) μ2) ∧
  (¬ r3 = 0 → post 1 μ2))) μ1) ∧
  (¬ (mI μ1 17 0) ≤ 0 → post 0 μ1))
def wM_line_15 (l1 : Int32) (post : Int32 → Mem → Prop) (μ : Mem) : Prop :=
  wM_line_16 l1 1 post μ
def wM_line (a1 : Int32) (post : Int32 → Mem → Prop) (μ : Mem) : Prop :=
  ((a1 < 0 → wM_line_15 a1 post μ) ∧
  (¬ a1 < 0 → ((32 ≤ a1 → wM_line_15 a1 post μ) ∧
  (¬ 32 ≤ a1 → wM_line_16 a1 0 post μ))))
def wM_objects_4 (l1 : Int32) (k : Int32 → Int32 → Mem → Prop) : Nat → Int32 → Int32 → Mem → Prop
  | 0, _, _, _ => False
  | n + 1, l2, l3, μ =>
  ((256 ≤ l3 → k l2 l3 μ) ∧
  (¬ 256 ≤ l3 → vp_in l3 256 ∧ (((mI μ 19 (l3).toNatClampNeg) = 1 → wM_objects_4 l1 k n (l2 + 1) (l3 + 1) μ) ∧
  (¬ (mI μ 19 (l3).toNatClampNeg) = 1 → (((mI μ 19 (l3).toNatClampNeg) ≤ l1 → wM_objects_4 l1 k n l2 (l3 + 1) μ) ∧
  (¬ (mI μ 19 (l3).toNatClampNeg) ≤ l1 → wM_objects_4 l1 k n (l2 + 1) (l3 + 1) μ))))))
def wM_objects (a1 : Int32) (post : Int32 → Mem → Prop) (μ : Mem) : Prop :=
  ∃ n5, wM_objects_4 a1 (fun v3 v4 μ2 => post v3 μ2) n5 0 0 μ
def wM_figure_16 (l1 : Int32) (t1 : Int32) (post : Int32 → Mem → Prop) (μ : Mem) : Prop :=
  ∀ μ1, μ1 = sI μ 17 0 t1 →
  ((l1 = 0 → wM_objects 1 (fun r3 μ2 => post r3 μ2) μ1) ∧
  (l1 = 1 → wM_objects 2 (fun r5 μ4 => post r5 μ4) μ1) ∧
  (l1 = 2 → post (mI μ1 17 21) μ1) ∧
  (l1 = 3 → post (mI μ1 17 24) μ1) ∧
  (l1 = 4 → post (mI μ1 17 28) μ1) ∧
  (l1 = 5 → (((mI μ1 17 27) = 0 → post 0 μ1) ∧
  (¬ (mI μ1 17 27) = 0 → post 1 μ1))) ∧
  (l1 = 6 → post (mI μ1 17 29) μ1) ∧
  (l1 = 7 → post (mI μ1 17 30) μ1) ∧
  (l1 = 8 → wM_greys (fun r7 μ6 => post r7 μ6) μ1) ∧
  (¬ l1 = 0 → ¬ l1 = 1 → ¬ l1 = 2 → ¬ l1 = 3 → ¬ l1 = 4 → ¬ l1 = 5 → ¬ l1 = 6 → ¬ l1 = 7 → ¬ l1 = 8 → post 0 μ1))
def wM_figure_15 (l1 : Int32) (post : Int32 → Mem → Prop) (μ : Mem) : Prop :=
  wM_figure_16 l1 1 post μ
def wM_figure (a1 : Int32) (post : Int32 → Mem → Prop) (μ : Mem) : Prop :=
  ((a1 < 0 → wM_figure_15 a1 post μ) ∧
  (¬ a1 < 0 → ((8 < a1 → wM_figure_15 a1 post μ) ∧
  (¬ 8 < a1 → wM_figure_16 a1 0 post μ))))
def wL_allocate (a2 : Int32) (a3 : Int32) (a4 : Int32) (post : Int32 → Mem → Prop) (μ : Mem) : Prop :=
  wC_allocate a2 a3 a4 (fun q5 μ6 => (q5 = 7 → post 1 μ6) ∧ (q5 = 10 → post 2 μ6) ∧ (¬ q5 = 7 → ¬ q5 = 10 → False)) (fun r2 μ1 => vp_in 0 1 ∧ ∀ μ4, μ4 = sI μ1 34 (0 : Int32).toNatClampNeg r2 →
  post 0 μ4) μ
def wL_drop (a2 : Int32) (post : Int32 → Mem → Prop) (μ : Mem) : Prop :=
  wC_drop a2 (fun q2 μ3 => (q2 = 7 → post 1 μ3) ∧ (¬ q2 = 7 → False)) (fun μ1 => post 0 μ1) μ
def wL_copy (a2 : Int32) (a3 : Int32) (post : Int32 → Mem → Prop) (μ : Mem) : Prop :=
  wC_copy a2 a3 (fun q2 μ3 => (q2 = 7 → post 1 μ3) ∧ (¬ q2 = 7 → False)) (fun μ1 => post 0 μ1) μ
def wL_load (a2 : Int32) (a3 : Int32) (a4 : Int32) (post : Int32 → Mem → Prop) (μ : Mem) : Prop :=
  wC_load a2 a3 a4 (fun q5 μ6 => (q5 = 7 → post 1 μ6) ∧ (q5 = 8 → post 2 μ6) ∧ (q5 = 9 → post 3 μ6) ∧ (¬ q5 = 7 → ¬ q5 = 8 → ¬ q5 = 9 → False)) (fun r2 μ1 => vp_in 0 1 ∧ ∀ μ4, μ4 = sI μ1 34 (0 : Int32).toNatClampNeg r2 →
  post 0 μ4) μ
def wL_store (a2 : Int32) (a3 : Int32) (a4 : Int32) (post : Int32 → Mem → Prop) (μ : Mem) : Prop :=
  wC_store a2 a3 a4 (fun q2 μ3 => (q2 = 7 → post 1 μ3) ∧ (q2 = 8 → post 2 μ3) ∧ (q2 = 9 → post 3 μ3) ∧ (¬ q2 = 7 → ¬ q2 = 8 → ¬ q2 = 9 → False)) (fun μ1 => post 0 μ1) μ
def wL_drain (a2 : Int32) (post : Int32 → Mem → Prop) (μ : Mem) : Prop :=
  wC_drain a2 (fun q5 μ6 => (q5 = 7 → post 1 μ6) ∧ (¬ q5 = 7 → False)) (fun r2 μ1 => vp_in 0 1 ∧ ∀ μ4, μ4 = sI μ1 34 (0 : Int32).toNatClampNeg r2 →
  post 0 μ4) μ
def wL_trace (a2 : Int32) (post : Int32 → Mem → Prop) (μ : Mem) : Prop :=
  wC_trace a2 (fun q5 μ6 => (q5 = 7 → post 1 μ6) ∧ (q5 = 8 → post 2 μ6) ∧ (¬ q5 = 7 → ¬ q5 = 8 → False)) (fun r2 μ1 => vp_in 0 1 ∧ ∀ μ4, μ4 = sI μ1 34 (0 : Int32).toNatClampNeg r2 →
  post 0 μ4) μ
def wL_root (a2 : Int32) (post : Int32 → Mem → Prop) (μ : Mem) : Prop :=
  wC_root a2 (fun q5 μ6 => (q5 = 7 → post 1 μ6) ∧ (¬ q5 = 7 → False)) (fun r2 μ1 => vp_in 0 1 ∧ ∀ μ4, μ4 = sI μ1 34 (0 : Int32).toNatClampNeg r2 →
  post 0 μ4) μ
def wL_field (a2 : Int32) (a3 : Int32) (post : Int32 → Mem → Prop) (μ : Mem) : Prop :=
  wC_field a2 a3 (fun q5 μ6 => (q5 = 11 → post 1 μ6) ∧ (q5 = 9 → post 2 μ6) ∧ (¬ q5 = 11 → ¬ q5 = 9 → False)) (fun r2 μ1 => vp_in 0 1 ∧ ∀ μ4, μ4 = sI μ1 34 (0 : Int32).toNatClampNeg r2 →
  post 0 μ4) μ
def wL_object (a2 : Int32) (a3 : Int32) (post : Int32 → Mem → Prop) (μ : Mem) : Prop :=
  wC_object a2 a3 (fun q5 μ6 => (q5 = 7 → post 1 μ6) ∧ (q5 = 11 → post 2 μ6) ∧ (¬ q5 = 7 → ¬ q5 = 11 → False)) (fun r2 μ1 => vp_in 0 1 ∧ ∀ μ4, μ4 = sI μ1 34 (0 : Int32).toNatClampNeg r2 →
  post 0 μ4) μ
def wL_line (a2 : Int32) (post : Int32 → Mem → Prop) (μ : Mem) : Prop :=
  wC_line a2 (fun q5 μ6 => (q5 = 9 → post 1 μ6) ∧ (¬ q5 = 9 → False)) (fun r2 μ1 => vp_in 0 1 ∧ ∀ μ4, μ4 = sI μ1 34 (0 : Int32).toNatClampNeg r2 →
  post 0 μ4) μ
def wL_figure (a2 : Int32) (post : Int32 → Mem → Prop) (μ : Mem) : Prop :=
  wC_figure a2 (fun q5 μ6 => (q5 = 7 → post 1 μ6) ∧ (¬ q5 = 7 → False)) (fun r2 μ1 => vp_in 0 1 ∧ ∀ μ4, μ4 = sI μ1 34 (0 : Int32).toNatClampNeg r2 →
  post 0 μ4) μ
theorem p_AI : parseFieldDescriptor "[I" = some (.array .int) := by decide +kernel
theorem p_AZ : parseFieldDescriptor "[Z" = some (.array .boolean) := by decide +kernel
theorem p_AQ : parseFieldDescriptor "[LLineCollector$Item;" = some (.array (.object "LineCollector$Item")) := by decide +kernel
theorem p_OP : parseFieldDescriptor "LLineCollector$Places;" = some (.object "LineCollector$Places") := by decide +kernel
theorem p_OS : parseFieldDescriptor "LLineCollector$Span;" = some (.object "LineCollector$Span") := by decide +kernel
theorem p_OG : parseFieldDescriptor "LLineCollector$Log;" = some (.object "LineCollector$Log") := by decide +kernel
theorem p_OW : parseFieldDescriptor "LLineCollector$Row;" = some (.object "LineCollector$Row") := by decide +kernel
